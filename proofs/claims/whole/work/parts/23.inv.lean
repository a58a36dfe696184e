/-! WHAT BOTH SIDES KEEP -/
theorem sumN_add {f g : Nat → Nat} : ∀ n, sumN (fun k => f k + g k) n = sumN f n + sumN g n
  | 0 => rfl
  | n + 1 => by
    show sumN (fun k => f k + g k) n + (f n + g n) = (sumN f n + f n) + (sumN g n + g n)
    rw [sumN_add n]; omega
theorem okT_ev {T : Nat → Nat} (ok : okT T) : okT (ev T) := by
  have hs := ok.s
  obtain ⟨j1, j2, j3, j4⟩ := evG_s hs (T 2) (Nat.le_refl _)
  have e0 : ev T 0 = T 0 := by rw [ev_e (by omega) (by omega) (by omega)]; exact j2 0 (by omega)
  have e1 : ev T 1 = T 1 := by rw [ev_e (by omega) (by omega) (by omega)]; exact j2 1 (by omega)
  have e2 : ev T 2 = T 2 := by rw [ev_e (by omega) (by omega) (by omega)]; exact j2 2 (by omega)
  obtain ⟨o0, o1, o2, o3, o4, o5, o6, o7⟩ := ok
  refine ⟨by rw [e0]; exact o0, by rw [e1]; exact o1, by rw [e1]; exact o2, by rw [e2]; exact o3, ?_, ?_, ?_, ?_⟩
  · rw [ev_4]; exact Nat.min_le_left _ _
  · intro p hp
    have := o5 p hp
    rw [ev_o hp]
    split <;> omega
  · intro p hp
    rw [e2, ev_e (by omega) (by omega) (by omega), evG_z hs hp (T 2) (Nat.le_refl _)]
    have h1 := o6 p hp
    have h2 : sumN (fun q => T (24 + 4 * q) + (if T (24 + 4 * q) = 0 ∧ evG T (T 2) (24 + 4 * q) = 1 ∧ evG T (T 2) (22 + 4 * q) = p then 1 else 0)) (T 2) ≤ sumN (fun q => ev T (24 + 4 * q)) (T 2) := by
      refine sumN_le _ (fun k hk => ?_)
      rw [ev_e (by omega) (by omega) (by omega)]
      have h3 := evG_c hs (r := k) (T 2) (Nat.le_refl _)
      split <;> omega
    rw [sumN_add] at h2
    unfold nw
    omega
  · intro q hq
    rw [e2] at hq
    rw [e1, ev_e (by omega) (by omega) (by omega), ev_e (by omega) (by omega) (by omega), ev_e (by omega) (by omega) (by omega), ev_e (by omega) (by omega) (by omega), j3 q]
    have h1 := j1.2.2.2 q (by rw [j2 2 (by omega)]; exact hq)
    rw [j2 1 (by omega)] at h1
    exact ⟨(o7 q hq).1, (o7 q hq).2.1, h1⟩
/-- n evenings -/
def evn (T : Nat → Nat) : Nat → Nat → Nat
  | 0 => T
  | n + 1 => ev (evn T n)
theorem okT_evn {T : Nat → Nat} (ok : okT T) : ∀ n, okT (evn T n)
  | 0 => ok
  | n + 1 => okT_ev (okT_evn ok n)
theorem evn_3 {T : Nat → Nat} : ∀ n, evn T n 3 = T 3 + n
  | 0 => rfl
  | n + 1 => by
    show ev (evn T n) 3 = _
    rw [ev_3, evn_3 n]; omega
/-- all the sitters -/
def sitN (T : Nat → Nat) : Nat := sumN (fun p => T (13 + p)) 8
def okX (T : Nat → Nat) : Prop := (∀ p, p < 8 → T (5 + p) ≤ 20) ∧ sitN T ≤ 5 + sumN (fun q => T (24 + 4 * q)) (T 2) ∧ T 4 ≤ 66 * T 3
theorem sit8 {f : Nat → Nat} : sumN f 8 = f 0 + f 1 + f 2 + f 3 + f 4 + f 5 + f 6 + f 7 := by
  simp [sumN]
theorem sit_1 {C : Prop} [Decidable C] {a : Nat} (h : a < 8) : sumN (fun p => if C ∧ a = p then 1 else 0) 8 = if C then 1 else 0 := by
  rw [sit8]
  by_cases c : C
  · rcases (by omega : a = 0 ∨ a = 1 ∨ a = 2 ∨ a = 3 ∨ a = 4 ∨ a = 5 ∨ a = 6 ∨ a = 7) with rfl | rfl | rfl | rfl | rfl | rfl | rfl | rfl <;> simp [c]
  · simp [c]
theorem near_le {T : Nat → Nat} {a : Nat} (h : a < T 1) (h8 : T 1 ≤ 8) : near T a ≤ sitN T := by
  unfold near sitN
  rw [sit8]
  rcases (by omega : a = 0 ∨ a = 1 ∨ a = 2 ∨ a = 3 ∨ a = 4 ∨ a = 5 ∨ a = 6 ∨ a = 7) with rfl | rfl | rfl | rfl | rfl | rfl | rfl | rfl <;> simp <;> split <;> omega
theorem clS_le {T : Nat → Nat} (ok : okT T) (h : okX T) : clS T ≤ 66 := by
  have hs := ok.s
  obtain ⟨j1, j2, j3, j4⟩ := evG_s hs (T 2) (Nat.le_refl _)
  have h6 := ok.2.2.2.1
  have hc := ok.c
  have h1 := sumN_b (f := clQ T (evG T (T 2)) (lB T)) (b := 11) (T 2) (fun k hk => ?_)
  · show sumN (clQ T (evG T (T 2)) (lB T)) (T 2) ≤ 66
    omega
  · have h2 := h.2.1
    have h3 := (j1.2.2.2 k (by rw [j2 2 (by omega)]; exact hk)).1
    rw [j2 1 (by omega)] at h3
    have h4 := near_le h3 ok.2.2.1
    unfold clQ
    split <;> omega
theorem okX_ev {T : Nat → Nat} (ok : okT T) (h : okX T) : okX (ev T) := by
  have hs := ok.s
  obtain ⟨j1, j2, j3, j4⟩ := evG_s hs (T 2) (Nat.le_refl _)
  have e2 : ev T 2 = T 2 := by rw [ev_e (by omega) (by omega) (by omega)]; exact j2 2 (by omega)
  refine ⟨fun p hp => ?_, ?_, ?_⟩
  · have := h.1 p hp
    rw [ev_o hp]
    split <;> omega
  · have z1 : sitN (ev T) = sitN T + sumN (fun p => nw T (evG T (T 2)) p (T 2)) 8 := by
      unfold sitN
      rw [← sumN_add]
      refine sumN_c 8 (fun p hp => ?_)
      rw [ev_e (by omega) (by omega) (by omega), evG_z hs hp (T 2) (Nat.le_refl _)]
    have z2 : ∀ n, n ≤ T 2 → sumN (fun p => nw T (evG T (T 2)) p n) 8 = sumN (fun r => if T (24 + 4 * r) = 0 ∧ evG T (T 2) (24 + 4 * r) = 1 then 1 else 0) n := by
      intro n
      induction n with
      | zero => intro _; rw [sit8]; rfl
      | succ n ih =>
        intro hn
        have e : sumN (fun p => nw T (evG T (T 2)) p (n + 1)) 8 = sumN (fun p => nw T (evG T (T 2)) p n) 8 + sumN (fun p => if (T (24 + 4 * n) = 0 ∧ evG T (T 2) (24 + 4 * n) = 1) ∧ evG T (T 2) (22 + 4 * n) = p then 1 else 0) 8 := by
          rw [← sumN_add]
          refine sumN_c 8 (fun p hp => ?_)
          show nw T (evG T (T 2)) p n + (if T (24 + 4 * n) = 0 ∧ evG T (T 2) (24 + 4 * n) = 1 ∧ evG T (T 2) (22 + 4 * n) = p then 1 else 0) = _
          simp only [and_assoc]
        have h3 := (j1.2.2.2 n (by rw [j2 2 (by omega)]; omega)).1
        rw [j2 1 (by omega)] at h3
        rw [e, ih (by omega), sit_1 (by have := ok.2.2.1; omega)]
        rfl
    have h2 : sumN (fun q => T (24 + 4 * q) + (if T (24 + 4 * q) = 0 ∧ evG T (T 2) (24 + 4 * q) = 1 then 1 else 0)) (T 2) ≤ sumN (fun q => ev T (24 + 4 * q)) (T 2) := by
      refine sumN_le _ (fun k hk => ?_)
      rw [ev_e (by omega) (by omega) (by omega)]
      have h3 := evG_c hs (r := k) (T 2) (Nat.le_refl _)
      split <;> omega
    rw [sumN_add] at h2
    have h4 := h.2.1
    rw [e2, z1, z2 (T 2) (Nat.le_refl _)]
    omega
  · rw [ev_3, ev_4]
    have h5 := clS_le ok h
    have h6 := h.2.2
    have h7 := Nat.min_le_right 999999 (T 4 + clS T)
    omega
theorem okX_evn {T : Nat → Nat} (ok : okT T) (h : okX T) : ∀ n, okX (evn T n)
  | 0 => h
  | n + 1 => okX_ev (okT_evn ok n) (okX_evn ok h n)
theorem okX_up {T : Nat → Nat} {j v : Nat} (h : okX T) (hj : 21 ≤ j) (hc : ∀ q, j ≠ 24 + 4 * q) : sitN (ups T j v) ≤ 5 + sumN (fun q => ups T j v (24 + 4 * q)) (ups T j v 2) ∧ ups T j v 4 ≤ 66 * ups T j v 3 := by
  rw [ups_n (by omega), ups_n (by omega), ups_n (by omega), sumN_c (T 2) (f := fun r => ups T j v (24 + 4 * r)) (g := fun r => T (24 + 4 * r)) (fun k _ => ups_n (fun z => hc k z.symm))]
  refine ⟨?_, h.2.2⟩
  have e : sitN (ups T j v) = sitN T := sumN_c 8 (fun p hp => ups_n (by omega))
  rw [e]; exact h.2.1
theorem okX_oil {T : Nat → Nat} {p v : Nat} (h : okX T) (hp : p < 8) (hv : v ≤ 20) : okX (ups T (5 + p) v) := by
  refine ⟨fun r hr => ?_, ?_⟩
  · by_cases z : r = p
    · subst z; rw [ups_s]; exact hv
    · rw [ups_n (by omega)]; exact h.1 r hr
  · rw [ups_n (by omega), ups_n (by omega), ups_n (by omega), sumN_c (T 2) (f := fun r => ups T (5 + p) v (24 + 4 * r)) (g := fun r => T (24 + 4 * r)) (fun k _ => ups_n (by omega))]
    have e : sitN (ups T (5 + p) v) = sitN T := sumN_c 8 (fun p hp => ups_n (by omega))
    rw [e]; exact h.2
theorem okX_pl {T : Nat → Nat} {j v : Nat} (h : okX T) (hj : 21 ≤ j) (hc : ∀ q, j ≠ 24 + 4 * q) : okX (ups T j v) :=
  ⟨fun r hr => by rw [ups_n (by omega)]; exact h.1 r hr, okX_up h hj hc⟩
def okN (T : Nat → Nat) : Prop := okT T ∧ T 3 ≤ 9999 ∧ okX T
def okG (T : Nat → Nat) : Prop := (T 1 = 0 ∧ T 2 = 0) ∨ okN T
def IRow (M : Mem) : Prop := ∀ r, r < 8 → (M 2 r 1 = -1 ∧ M 17 0 r = -1000000) ∨ ∃ l n : Nat, l ≤ 2 ∧ n ≤ 40 ∧ M 2 r 1 = nI l ∧ M 2 r 2 = nI n ∧ M 17 0 r = nI l ∧ M 18 0 r = nI n ∧ ∀ j, j < 40 → M 3 r j = M 19 0 (40 * r + j)
def ITape (M : Mem) : Prop := ∃ n, n ≤ 90 ∧ M 4 0 1 = nI n ∧ M 16 0 6 = nI n ∧ ∀ j, j < n → M 5 0 j = M 21 0 j ∧ ∃ b, b < 256 ∧ M 5 0 j = nI b
def IFlt (M : Mem) : Prop := M 4 0 2 = M 16 0 7
def ISta (M : Mem) : Prop := M 0 0 8 = M 16 0 4
def ITr (M : Mem) : Prop := ∃ n, n ≤ 16 ∧ M 0 0 7 = nI n ∧ M 16 0 23 = nI n ∧ ∀ j, j < n → M 15 0 j = M 29 0 j
def ITown (M : Mem) : Prop := ∃ T, okG T ∧ CT M 0 T ∧ MT M 0 T
def IActs (M : Mem) : Prop := ∃ (n s : Nat) (H : Nat → Nat → Nat), n ≤ 24 ∧ s < 24 ∧ M 13 0 1 = nI s ∧ M 13 0 2 = nI n ∧ M 16 0 18 = nI n ∧ ∀ i, i < n → okN (H i) ∧ CT M (4 + (s + 24 - n + i) % 24) (H i) ∧ ∀ j, j < 45 → M 25 0 (45 * i + j) = nI (H i j)
def IImg (M : Mem) : Prop := ∀ k, k < 2 → (M 6 (2 + k) 5 = nI 0 ∧ M 27 0 k = nI 0) ∨ ∃ T, okN T ∧ CT M (2 + k) T ∧ M 27 0 k = nI 1 ∧ ∀ j, j < 45 → M 26 0 (45 * k + j) = nI (T j)
def alA (k : Nat) : Int32 := match k with
  | 0 => 1
  | 1 => 3
  | 2 => 7
  | 3 => 11
  | 4 => 17
  | _ => 49
def szA (k : Nat) : Int32 := match k with
  | 0 => 10
  | 1 => 11
  | 2 => 12
  | 3 => 11
  | 4 => 13
  | _ => 14
def mkA (k : Nat) : Int32 := match k with
  | 0 => 20
  | 1 => 21
  | 2 => 24
  | 3 => 22
  | 4 => 23
  | _ => 23
def ISt (M : Mem) : Prop := ∀ k, k < 6 → M 30 0 k = alA k ∧ M 31 0 k = szA k ∧ M 32 0 k = mkA k
def Inv (M : Mem) : Prop := IRow M ∧ ITape M ∧ IFlt M ∧ ISta M ∧ ITr M ∧ ITown M ∧ IActs M ∧ IImg M ∧ ISt M
theorem CT.fr {M M' : Mem} {t : Nat} {T : Nat → Nat} (h : CT M t T) (f : ∀ k, 6 ≤ k → k ≤ 11 → M' k t = M k t) : CT M' t T := by
  obtain ⟨⟨b1, b2, b3, b4, b5, b6, b7, b8⟩, b9⟩ := h
  refine ⟨⟨?_, ?_, ?_, ?_, ?_, ?_, ?_, ?_⟩, ?_⟩
  · rw [f 6 (by omega) (by omega)]; exact b1
  · rw [f 6 (by omega) (by omega)]; exact b2
  · rw [f 6 (by omega) (by omega)]; exact b3
  · rw [f 6 (by omega) (by omega)]; exact b4
  · rw [f 6 (by omega) (by omega)]; exact b5
  · intro p hp; rw [f 7 (by omega) (by omega)]; exact b6 p hp
  · intro p hp; rw [f 8 (by omega) (by omega)]; exact b7 p hp
  · intro q hq; rw [f 9 (by omega) (by omega), f 10 (by omega) (by omega), f 11 (by omega) (by omega)]; exact b8 q hq
  · rw [f 6 (by omega) (by omega)]; exact b9
section Fr
variable {M M' : Mem}
theorem IRow.fr (h : IRow M) (a : ∀ r, r < 8 → M' 2 r = M 2 r ∧ M' 3 r = M 3 r) (b : M' 17 0 = M 17 0) (c : M' 18 0 = M 18 0) (e : M' 19 0 = M 19 0) : IRow M' := by
  intro r hr
  rw [(a r hr).1, (a r hr).2, b, c, e]
  exact h r hr
theorem ITape.fr (h : ITape M) (a : M' 4 0 1 = M 4 0 1) (b : M' 16 0 6 = M 16 0 6) (c : M' 5 0 = M 5 0) (e : M' 21 0 = M 21 0) : ITape M' := by
  unfold ITape
  rw [a, b, c, e]
  exact h
theorem IFlt.fr (h : IFlt M) (a : M' 4 0 2 = M 4 0 2) (b : M' 16 0 7 = M 16 0 7) : IFlt M' := by
  unfold IFlt; rw [a, b]; exact h
theorem ISta.fr (h : ISta M) (a : M' 0 0 8 = M 0 0 8) (b : M' 16 0 4 = M 16 0 4) : ISta M' := by
  unfold ISta; rw [a, b]; exact h
theorem ITr.fr (h : ITr M) (a : M' 0 0 7 = M 0 0 7) (b : M' 16 0 23 = M 16 0 23) (c : M' 15 0 = M 15 0) (e : M' 29 0 = M 29 0) : ITr M' := by
  unfold ITr
  rw [a, b, c, e]
  exact h
theorem ITown.fr (h : ITown M) (a : ∀ k, 6 ≤ k → k ≤ 11 → M' k 0 = M k 0) (b : M' 22 0 = M 22 0) : ITown M' := by
  obtain ⟨T, h1, h2, h3⟩ := h
  exact ⟨T, h1, h2.fr a, fun j hj => by rw [b]; exact h3 j hj⟩
theorem IActs.fr (h : IActs M) (a : ∀ k i, 6 ≤ k → k ≤ 11 → 4 ≤ i → M' k i = M k i) (b : M' 13 0 = M 13 0) (c : M' 16 0 18 = M 16 0 18) (e : M' 25 0 = M 25 0) : IActs M' := by
  obtain ⟨n, s, H, h1, h2, h3, h4, h5, h6⟩ := h
  refine ⟨n, s, H, h1, h2, by rw [b]; exact h3, by rw [b]; exact h4, by rw [c]; exact h5, fun i hi => ?_⟩
  obtain ⟨k1, k2, k3⟩ := h6 i hi
  exact ⟨k1, k2.fr (fun k y1 y2 => a k _ y1 y2 (by omega)), by rw [e]; exact k3⟩
theorem IImg.fr (h : IImg M) (a : ∀ k i, 6 ≤ k → k ≤ 11 → 2 ≤ i → i < 4 → M' k i = M k i) (b : M' 26 0 = M 26 0) (c : M' 27 0 = M 27 0) : IImg M' := by
  intro k hk
  rw [a 6 (2 + k) (by omega) (by omega) (by omega) (by omega), b, c]
  rcases h k hk with y | ⟨T, h1, h2, h3, h4⟩
  · exact Or.inl y
  · exact Or.inr ⟨T, h1, h2.fr (fun k y1 y2 => a k _ y1 y2 (by omega) (by omega)), h3, h4⟩
theorem ISt.fr (h : ISt M) (a : ∀ k, 30 ≤ k → M' k = M k) : ISt M' := by
  unfold ISt
  rw [a 30 (by omega), a 31 (by omega), a 32 (by omega)]
  exact h
/-- scratch: the town that is foretold; the reference's draft, try, spare and sitting -/
def Scr (k i : Nat) : Prop := (6 ≤ k ∧ k ≤ 11 ∧ i = 1) ∨ (k = 22 ∧ 1 ≤ i) ∨ k = 28 ∨ k = 20
theorem Inv.scr (h : Inv M) (f : ∀ k i, ¬ Scr k i → M' k i = M k i) (g : ∀ k, 30 ≤ k → M' k = M k) : Inv M' := by
  obtain ⟨h1, h2, h3, h4, h5, h6, h7, h8, h9⟩ := h
  have F : ∀ k i, ¬ Scr k i → M' k i = M k i := f
  refine ⟨h1.fr (fun r hr => ⟨f _ _ (by unfold Scr; omega), f _ _ (by unfold Scr; omega)⟩) (f _ _ (by unfold Scr; omega)) (f _ _ (by unfold Scr; omega)) (f _ _ (by unfold Scr; omega)), h2.fr (by rw [f _ _ (by unfold Scr; omega)]) (by rw [f _ _ (by unfold Scr; omega)]) (f _ _ (by unfold Scr; omega)) (f _ _ (by unfold Scr; omega)), h3.fr (by rw [f _ _ (by unfold Scr; omega)]) (by rw [f _ _ (by unfold Scr; omega)]), h4.fr (by rw [f _ _ (by unfold Scr; omega)]) (by rw [f _ _ (by unfold Scr; omega)]), h5.fr (by rw [f _ _ (by unfold Scr; omega)]) (by rw [f _ _ (by unfold Scr; omega)]) (f _ _ (by unfold Scr; omega)) (f _ _ (by unfold Scr; omega)), h6.fr (fun k _ _ => f _ _ (by unfold Scr; omega)) (f _ _ (by unfold Scr; omega)), h7.fr (fun k i _ _ _ => f _ _ (by unfold Scr; omega)) (f _ _ (by unfold Scr; omega)) (by rw [f _ _ (by unfold Scr; omega)]) (f _ _ (by unfold Scr; omega)), h8.fr (fun k i _ _ _ _ => f _ _ (by unfold Scr; omega)) (f _ _ (by unfold Scr; omega)) (f _ _ (by unfold Scr; omega)), h9.fr g⟩
end Fr
/-- a call of the class, the same of the reference: the answers agree, what is kept is kept -/
def PR (y y' : Nat) (as bs : List AV) : Prop := ∀ M, Inv M → wpd 40 y as M (fun r M1 => gO r fun v => wpd 40 y' bs M1 (fun r' M2 => gO r' fun v' => v = v' ∧ Inv M2 ∧ ∀ k, 30 ≤ k → M2 k = M k))
theorem pr_status : PR 89 191 [zR 0 0] [zR 16 0] := fun M I => en_X4_status _ (gO_i (en_X5_status _ (gO_i ⟨I.2.2.2.1, I, fun _ _ => rfl⟩)))
theorem pr_fault : PR 60 137 [zR 0 0] [zR 16 0] := fun M I => en_X4_fault _ (gO_i (en_X5_fault _ (gO_i ⟨I.2.2.1, I, fun _ _ => rfl⟩)))
/-- is an int one of the first n numbers? -/
theorem num_or (x : Int32) (n : Nat) : (∃ k, k < n ∧ x = nI k) ∨ ∀ k, k < n → x ≠ nI k := by
  by_cases h : ∃ k, k < n ∧ x = nI k
  · exact Or.inl h
  · exact Or.inr (fun k hk e => h ⟨k, hk, e⟩)
theorem num_no {x : Int32} {n : Nat} (hn : n < 2147483648) (h : ∀ k, k < n → x ≠ nI k) (h0 : ¬ x < nI 0) : nI n ≤ x := by
  obtain ⟨j, hj, e⟩ := nI_of (x := x) h0
  rw [e]
  refine (nle hn hj).mpr (Nat.le_of_not_lt (fun z => h j z e))
theorem pr_trace (p1 : Int32) : PR 87 188 [zR 0 0, zI p1] [zR 16 0, zI p1] := by
  intro M I
  obtain ⟨n, hn, e1, e2, e3⟩ := I.2.2.2.2.1
  rcases num_or p1 n with ⟨k, hk, rfl⟩ | hno
  · have ne : n ≠ 0 := by omega
    refine en_X4_trace _ _ ⟨fun z => absurd z (nI_pos (by omega)), fun _ => ⟨fun z => ?_, fun _ => ⟨vin_i (by omega) (by omega), gO_i ?_⟩⟩⟩
    · rw [e1, nle (by omega) (by omega)] at z
      omega
    · refine en_X5_trace _ _ ?_
      rw [e2, pk_sub (by omega)]
      refine c_in (fun _ _ => gTe ⟨vin_i (by omega) (by omega), gO_i ⟨?_, I, fun _ _ => rfl⟩⟩) (fun z => absurd ⟨(nle (by omega) (by omega)).mpr (by omega), (nle (by omega) (by omega)).mpr (by omega)⟩ z)
      rw [ncl (by omega)]; exact e3 k hk
  · have mid : wpd 40 188 [zR 16 0, zI p1] M (fun r' M2 => gO r' fun v' => (-1000000 : Int32) = v' ∧ Inv M2 ∧ ∀ k, 30 ≤ k → M2 k = M k) := by
      refine en_X5_trace _ _ (c_in (fun z1 z2 => ?_) (fun _ => gFe (gO_i ⟨rfl, I, fun _ _ => rfl⟩)))
      exfalso
      have z := num_no (by omega) hno (Int32.not_lt.mpr z1)
      rw [e2] at z2
      obtain ⟨j, hj, e⟩ := nI_of (x := p1) (Int32.not_lt.mpr z1)
      rw [e, nle (by omega) hj] at z
      rw [e] at z2
      by_cases n0 : n = 0
      · subst n0
        have : (nI 0 - nI 1 : Int32) < nI 0 := by decide
        exact absurd (Int32.le_trans z1 (by rw [e]; exact z2)) (Int32.not_le.mpr this)
      · rw [pk_sub (by omega), nle hj (by omega)] at z2
        omega
    refine en_X4_trace _ _ ⟨fun _ => gO_i mid, fun z => ⟨fun _ => gO_i mid, fun z2 => ?_⟩⟩
    rw [e1] at z2
    exact absurd (num_no (by omega) hno z) z2
