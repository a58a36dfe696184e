/-! THE CLASS's TOWN: a player goes -/
theorem ups_id {T : Nat → Nat} {j v : Nat} (h : T j = v) : ups T j v = T := by
  funext i
  unfold ups
  split
  · rename_i e; rw [e, h]
  · rfl
theorem bso_not {f : Nat → Bool} : ∀ n, bso (fun k => !f k) n = 2 ^ n - 1 - bso f n
  | 0 => rfl
  | n + 1 => by
    have h := bso_lt f n
    have e : 2 ^ (n + 1) = 2 * 2 ^ n := Nat.pow_succ'
    unfold bso
    rw [bso_not n]
    cases f n <;> simp only [Bool.not_true, Bool.not_false, cond_true, cond_false] <;> omega
theorem dark_v : ∀ P, P < 9 → ∀ m, m < 2 ^ P → (nI m ^^^ (-1)) &&& ((nI 1 <<< (nI P &&& 31)) - nI 1) = nI (2 ^ P - 1 - m) := by decide +kernel
theorem rem_2 {a : Nat} (h : a < 2147483648) : nI a - nI a / nI 2 * nI 2 = nI (a % 2) := pk_rem h (by omega) (by omega)
/-- what a player's going leaves -/
def GoF (t : Nat) (M M' : Mem) : Prop := Sm (fun k i => i = t ∧ (k = 6 ∨ k = 10 ∨ k = 11)) M M' ∧ ∀ j, j ≠ 8 → M' 6 t j = M 6 t j
theorem GoF.rf {t : Nat} {M : Mem} : GoF t M M := ⟨Sm.rf, fun _ _ => rfl⟩
theorem GoF.tr {t : Nat} {M M1 M2 : Mem} (h : GoF t M M1) (g : GoF t M1 M2) : GoF t M M2 := ⟨h.1.tr g.1, fun j n => (g.2 j n).trans (h.2 j n)⟩
theorem GoF.m10 {t j : Nat} {M : Mem} {v : Int32} : GoF t M (mup M 10 t j v) := ⟨Sm.rf.up ⟨rfl, by omega⟩, fun _ _ => by rw [mup_r (by omega)]⟩
theorem GoF.m11 {t j : Nat} {M : Mem} {v : Int32} : GoF t M (mup M 11 t j v) := ⟨Sm.rf.up ⟨rfl, by omega⟩, fun _ _ => by rw [mup_r (by omega)]⟩
theorem GoF.m6 {t : Nat} {M : Mem} {v : Int32} : GoF t M (mup M 6 t 8 v) := ⟨Sm.rf.up ⟨rfl, by omega⟩, fun _ n => by rw [mup_ap, if_neg (by omega)]⟩
section CGo
variable {d : Nat} {Q : Option AV → Mem → Prop} {M : Mem} {t : Nat} {E O Z : Nat → Nat} {q : Nat} {g : Nat → Bool} {x : Int32}
theorem c_goAsFarmer (h : CTx M t E O Z) (hs : shp1 E) (hq : q < E 2) (hx : x = nI (bso g (E 1))) (hQ : ∀ M', GoF t M M' → CTx M' t (ups E (22 + 4 * q) (nr (fun k => decide (k < E 1) && g k) (E 1) (E (22 + 4 * q)) (E 1) 0)) O Z → Q none M') : wpd (d + 2) 45 [zR 6 t, zI (nI q), zI x] M Q := by
  obtain ⟨s1, s2, s3, s4⟩ := hs
  obtain ⟨a1, a2, a3⟩ := s4 q hq
  have hat := (h.2.2.2.2.2.2.2 q hq).2.1
  refine en_X3_goAsFarmer _ _ _ _ ⟨vin_i (by omega) (by omega), ?_⟩
  rw [ncl (by omega), hat]
  subst hx
  refine c_hasBit (hasB_bso s2 (by omega)) (fun b => gTn ?_) (fun b => gFn ?_)
  · have e := nr_s (S := fun k => decide (k < E 1) && g k) (P := E 1) (a := E (22 + 4 * q)) b s1
    rw [e] at hQ
    refine hQ M GoF.rf ?_
    rw [ups_id rfl]
    exact h
  · refine ⟨vin_i (by omega) (by omega), vin_i (by omega) (by omega), ?_⟩
    rw [hat]
    refine c_stepTowards (S := fun k => decide (k < E 1) && g k) (P := E 1) (fun k hk => hasB_bso s2 (by omega)) (fun k hk => of_decide_eq_true (Bool.and_eq_true _ _ ▸ hk : _ ∧ _).1) (by omega) (fun v hv => ?_)
    refine ⟨vin_i (by omega) (by omega), ?_⟩
    rw [hv, ← nr_0 b s1 a1 s2]
    exact hQ _ GoF.m10 h.at
theorem c_goAsLad (h : CTx M t E O Z) (hs : shp1 E) (hq : q < E 2) (hc : E (24 + 4 * q) = 0) (hx : x = nI (bso g (E 1))) (hQ : ∀ M', GoF t M M' → CTx M' t (if (decide (E (22 + 4 * q) < E 1) && g (E (22 + 4 * q))) = true then ups E (22 + 4 * q) (nr (fun k => !(decide (k < E 1) && g k)) (E 1) (E (22 + 4 * q)) (E 1) 0) else crs E q) O Z → Q none M') : wpd (d + 2) 46 [zR 6 t, zI (nI q), zI x] M Q := by
  obtain ⟨s1, s2, s3, s4⟩ := hs
  obtain ⟨a1, a2, a3⟩ := s4 q hq
  have hat := (h.2.2.2.2.2.2.2 q hq).2.1
  refine en_X3_goAsLad _ _ _ _ ⟨vin_i (by omega) (by omega), ?_⟩
  rw [ncl (by omega), hat]
  subst hx
  refine c_hasBit (hasB_bso s2 (by omega)) (fun b => gTn ?_) (fun b => gFn ?_)
  · rw [if_pos b] at hQ
    refine ⟨vin_i (by omega) (by omega), vin_i (by omega) (by omega), ?_⟩
    rw [hat, h.1, dark_v (E 1) (by omega) _ (bso_lt _ _), ← bso_not]
    have hS : ∀ k, (decide (k < E 1) && !g k) = true → k < E 1 := fun k hk => of_decide_eq_true (Bool.and_eq_true _ _ ▸ hk : _ ∧ _).1
    refine c_stepTowards (S := fun k => decide (k < E 1) && !g k) (P := E 1) (fun k hk => hasB_bso (f := fun k => !g k) s2 (by omega)) hS (by omega) (fun v hv => ?_)
    refine ⟨vin_i (by omega) (by omega), ?_⟩
    have e1 : (decide (E (22 + 4 * q) < E 1) && !g (E (22 + 4 * q))) = false := by
      rw [Bool.and_eq_true] at b
      rw [b.2]
      simp
    have e2 : ∀ n f, nr (fun k => !(decide (k < E 1) && g k)) (E 1) (E (22 + 4 * q)) n f = nr (fun k => decide (k < E 1) && !g k) (E 1) (E (22 + 4 * q)) n f := by
      intro n
      induction n with
      | zero => intro f; rfl
      | succ n ih =>
        intro f
        unfold nr
        rw [ih (f + 1)]
        have k1 : (f ≤ E (22 + 4 * q) ∧ (!(decide (E (22 + 4 * q) - f < E 1) && g (E (22 + 4 * q) - f))) = true) ↔ (f ≤ E (22 + 4 * q) ∧ (decide (E (22 + 4 * q) - f < E 1) && !g (E (22 + 4 * q) - f)) = true) := by
          rw [decide_eq_true (show E (22 + 4 * q) - f < E 1 by omega)]
          simp
        have k2 : (E (22 + 4 * q) + f < E 1 ∧ (!(decide (E (22 + 4 * q) + f < E 1) && g (E (22 + 4 * q) + f))) = true) ↔ (E (22 + 4 * q) + f < E 1 ∧ (decide (E (22 + 4 * q) + f < E 1) && !g (E (22 + 4 * q) + f)) = true) := by
          constructor
          · intro z; rw [decide_eq_true z.1] at z ⊢; simpa using z
          · intro z; rw [decide_eq_true z.1] at z ⊢; simpa using z
        simp only [k1, k2]
    rw [hv, ← nr_0 (S := fun k => decide (k < E 1) && !g k) e1 s1 a1 s2, ← e2]
    exact hQ _ GoF.m10 h.at
  · have b' : ¬ (decide (E (22 + 4 * q) < E 1) && g (E (22 + 4 * q))) = true := by rw [b]; simp
    rw [if_neg b'] at hQ
    exact hQ _ GoF.m6 (h.cr s3 hq (by omega) hc)
theorem c_goAsChild (h : CTx M t E O Z) (hs : shp1 E) (hq : q < E 2) (hx : x = nI (bso g (E 1))) (hQ : ∀ M', GoF t M M' → CTx M' t (if inW E q = true ∧ (decide (byW E q < E 1) && g (byW E q)) = true then ups E (22 + 4 * q) (byW E q) else ups E (23 + 4 * q) (1 - E (23 + 4 * q))) O Z → Q none M') : wpd (d + 2) 47 [zR 6 t, zI (nI q), zI x] M Q := by
  obtain ⟨s1, s2, s3, s4⟩ := hs
  obtain ⟨a1, a2, a3⟩ := s4 q hq
  obtain ⟨-, hat, hwy⟩ := h.2.2.2.2.2.2.2 q hq
  have turn : ¬ (inW E q = true ∧ (decide (byW E q < E 1) && g (byW E q)) = true) → wpd (d + 1) 34 [zR 6 t, zI (nI q)] M (fun r M1 => gN r (Q none M1)) := by
    intro z
    rw [if_neg z] at hQ
    refine en_X3_turnRound _ _ _ ⟨vin_i (by omega) (by omega), vin_i (by omega) (by omega), gN_i ?_⟩
    rw [ncl (by omega), hwy, pk_sub (by omega)]
    exact hQ _ GoF.m11 h.wy
  have go : ∀ k, byW E q = k → k < E 1 → inW E q = true → wpd (d + 1) 93 [zI x, zI (nI k)] M (fun r4 M4 => gO r4 fun v4 => ((v4 = nI 0 → wpd (d + 1) 34 [zR 6 t, zI (nI q)] M4 (fun r5 M5 => gN r5 (Q none M5))) ∧ (¬ v4 = nI 0 → (vp_in (nI q) 6 ∧ Q none (mup M4 10 t (nI q).toNatClampNeg (nI k)))))) := by
    intro k hk hk1 hi
    subst hx
    refine c_hasBit (hasB_bso s2 (by omega)) (fun b => gTe ?_) (fun b => gFe ?_)
    · rw [if_pos ⟨hi, by rw [hk]; exact b⟩] at hQ
      refine ⟨vin_i (by omega) (by omega), ?_⟩
      rw [ncl (by omega)]
      rw [← hk]
      exact hQ _ GoF.m10 h.at
    · exact turn (fun z => by rw [hk, b] at z; exact absurd z.2 (by simp))
  refine en_X3_goAsChild _ _ _ _ ?_
  refine c_nextByWay h s3 hq (by omega) a2 (fun w => gO_i ?_) (fun w => gO_i ?_)
  · refine c_hasPlace h.1 s2 (fun k hk e => gTe ?_) (fun hn => gFe ?_)
    · have e := (neq (by omega) (by omega)).mp e
      rw [e]
      refine go k ?_ hk ?_
      · unfold byW; rw [if_pos w]; exact e
      · unfold inW; rw [if_pos w]; exact decide_eq_true (by omega)
    · refine turn (fun z => ?_)
      have z1 := z.1
      unfold inW at z1
      rw [if_pos w] at z1
      exact hn _ (of_decide_eq_true z1) rfl
  · by_cases h0 : 0 < E (22 + 4 * q)
    · rw [pk_sub (by omega)]
      refine c_hasPlace h.1 s2 (fun k hk e => gTe ?_) (fun hn => absurd rfl (hn (E (22 + 4 * q) - 1) (by omega)))
      have e := (neq (by omega) (by omega)).mp e
      rw [e]
      refine go k ?_ hk ?_
      · unfold byW; rw [if_neg (by omega)]; exact e
      · unfold inW; rw [if_neg (by omega)]; exact decide_eq_true h0
    · have e0 : E (22 + 4 * q) = 0 := by omega
      rw [e0]
      refine c_hasPlace h.1 s2 (fun k hk e => ?_) (fun hn => gFe (turn (fun z => ?_)))
      · have : (nI 0 - nI 1 : Int32) < 0 := by decide
        rw [e] at this
        exact absurd this (nI_pos (by omega))
      · have z1 := z.1
        unfold inW at z1
        rw [if_neg (by omega), e0] at z1
        exact absurd z1 (by simp)
theorem c_goAsCart (h : CTx M t E O Z) (hs : shp1 E) (hq : q < E 2) (hc : E (24 + 4 * q) = 0) (hQ : ∀ M', GoF t M M' → CTx M' t (cartT E q) O Z → Q none M') : wpd (d + 2) 48 [zR 6 t, zI (nI q)] M Q := by
  obtain ⟨s1, s2, s3, s4⟩ := hs
  obtain ⟨a1, a2, a3⟩ := s4 q hq
  unfold cartT at hQ
  have cross : inW E q = false → Q none (mup M 6 t 8 (M 6 t 8 ||| (nI 1 <<< (nI q &&& 31)))) := by
    intro z
    rw [z, if_neg (by simp)] at hQ
    exact hQ _ GoF.m6 (h.cr s3 hq (by omega) hc)
  have go : ∀ k, byW E q = k → inW E q = true → (vp_in (nI q) 6 ∧ Q none (mup M 10 t (nI q).toNatClampNeg (nI k))) := by
    intro k hk hi
    rw [if_pos hi] at hQ
    refine ⟨vin_i (by omega) (by omega), ?_⟩
    rw [ncl (by omega), ← hk]
    exact hQ _ GoF.m10 h.at
  refine en_X3_goAsCart _ _ _ ?_
  refine c_nextByWay h s3 hq (by omega) a2 (fun w => gO_i ?_) (fun w => gO_i ?_)
  · refine c_hasPlace h.1 s2 (fun k hk e => gTe ?_) (fun hn => gFe ?_)
    · have e := (neq (by omega) (by omega)).mp e
      rw [e]
      refine go k ?_ ?_
      · unfold byW; rw [if_pos w]; exact e
      · unfold inW; rw [if_pos w]; exact decide_eq_true (by omega)
    · refine cross ?_
      unfold inW
      rw [if_pos w]
      exact decide_eq_false (fun z => hn _ z rfl)
  · by_cases h0 : 0 < E (22 + 4 * q)
    · rw [pk_sub (by omega)]
      refine c_hasPlace h.1 s2 (fun k hk e => gTe ?_) (fun hn => absurd rfl (hn (E (22 + 4 * q) - 1) (by omega)))
      have e := (neq (by omega) (by omega)).mp e
      rw [e]
      refine go k ?_ ?_
      · unfold byW; rw [if_neg (by omega)]; exact e
      · unfold inW; rw [if_neg (by omega)]; exact decide_eq_true h0
    · have e0 : E (22 + 4 * q) = 0 := by omega
      rw [e0]
      refine c_hasPlace h.1 s2 (fun k hk e => ?_) (fun hn => gFe (cross ?_))
      · have : (nI 0 - nI 1 : Int32) < 0 := by decide
        rw [e] at this
        exact absurd this (nI_pos (by omega))
      · unfold inW
        rw [if_neg (by omega), e0]
        rfl
theorem c_letGo (h : CTx M t E O Z) (hs : shp1 E) (hq : q < E 2) (hk : 1 ≤ E (21 + 4 * q) ∧ E (21 + 4 * q) ≤ 5) (hc : E (24 + 4 * q) = 0) (he : E 3 < 2147483648) (hx : x = nI (bso g (E 1))) (hQ : ∀ M', GoF t M M' → CTx M' t (goT E (fun k => decide (k < E 1) && g k) q) O Z → Q none M') : wpd (d + 3) 44 [zR 6 t, zI (nI q), zI x] M Q := by
  have hkd := (h.2.2.2.2.2.2.2 q hq).1
  have hn := hs.2.2.1
  unfold goT at hQ
  refine en_X3_letGo _ _ _ _ ⟨vin_i (by omega) (by omega), ?_⟩
  rw [ncl (by omega), hkd]
  have ne : ∀ a b : Nat, a ≤ 5 → b ≤ 5 → a ≠ b → ¬ (nI a : Int32) = nI b := fun a b h1 h2 h3 z => h3 ((neq (by omega) (by omega)).mp z)
  refine ⟨fun z => ?_, fun z => ⟨fun z2 => ?_, fun z2 => ⟨fun z3 => ?_, fun z3 => ⟨fun z4 => ?_, fun z4 => ⟨fun z5 => ⟨by decide, ?_⟩, fun z5 => ?_⟩⟩⟩⟩⟩
  · have z := (neq (by omega) (by omega)).mp z
    rw [if_pos z] at hQ
    exact c_goAsFarmer h hs hq hx (fun M' a b => gN_i (hQ M' a b))
  · have z2 := (neq (by omega) (by omega)).mp z2
    rw [if_neg (by omega), if_pos z2] at hQ
    exact c_goAsLad h hs hq hc hx (fun M' a b => gN_i (hQ M' a b))
  · have z3 := (neq (by omega) (by omega)).mp z3
    rw [if_neg (by omega), if_neg (by omega), if_pos z3] at hQ
    exact c_goAsChild h hs hq hx (fun M' a b => gN_i (hQ M' a b))
  · have z4 := (neq (by omega) (by omega)).mp z4
    rw [if_neg (by omega), if_neg (by omega), if_neg (by omega), if_pos z4] at hQ
    exact c_goAsCart h hs hq hc (fun M' a b => gN_i (hQ M' a b))
  · have z5 := (neq (by omega) (by omega)).mp z5
    rw [if_neg (by omega), if_neg (by omega), if_neg (by omega), if_neg (by omega)] at hQ
    rw [h.2.2.2.1, rem_2 he]
    refine ⟨fun y => ?_, fun y => ?_⟩
    · rw [if_neg (fun w => y (by rw [w]))] at hQ
      exact hQ M GoF.rf h
    · have y := (neq (by omega) (by omega)).mp y
      rw [if_pos y] at hQ
      exact c_goAsCart h hs hq hc (fun M' a b => gN_i (hQ M' a b))
  · exfalso
    have : E (21 + 4 * q) = 1 ∨ E (21 + 4 * q) = 2 ∨ E (21 + 4 * q) = 3 ∨ E (21 + 4 * q) = 4 ∨ E (21 + 4 * q) = 5 := by omega
    rcases this with w | w | w | w | w <;> rw [w] at z z2 z3 z4 z5
    · exact z rfl
    · exact z2 rfl
    · exact z3 rfl
    · exact z4 rfl
    · exact z5 rfl
end CGo
