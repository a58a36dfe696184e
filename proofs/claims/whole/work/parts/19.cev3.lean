/-! THE CLASS's TOWN: passEvening -/
theorem okT.s {T : Nat → Nat} (h : okT T) : shp1 T := ⟨by have := h.2.1; omega, h.2.2.1, h.2.2.2.1, fun q hq => (h.2.2.2.2.2.2.2 q hq).2.2⟩
theorem okT.c {T : Nat → Nat} (h : okT T) : sumN (fun q => T (24 + 4 * q)) (T 2) ≤ 6 := by
  have h1 := sumN_b (f := fun q => T (24 + 4 * q)) (b := 1) (T 2) (fun k hk => (h.2.2.2.2.2.2.2 k hk).2.2.2.2)
  have := h.2.2.2.1
  omega
theorem okT.z {T : Nat → Nat} (h : okT T) : ∀ p, p < 8 → T (13 + p) < 1000 := fun p hp => by
  have h1 := h.2.2.2.2.2.2.1 p hp
  have h2 := h.c
  omega
theorem okT.o {T : Nat → Nat} (h : okT T) : ∀ p, p < 8 → T (5 + p) ≤ 1000 := h.2.2.2.2.2.1
theorem ev_e {T : Nat → Nat} {j : Nat} (h : j ≠ 3) (h4 : j ≠ 4) (h5 : ¬ (5 ≤ j ∧ j < 13)) : ev T j = evG T (T 2) j := by
  unfold ev
  rw [if_neg h, if_neg h4, if_neg h5]
theorem ev_3 {T : Nat → Nat} : ev T 3 = T 3 + 1 := rfl
theorem ev_4 {T : Nat → Nat} : ev T 4 = min 999999 (T 4 + clS T) := rfl
theorem ev_o {T : Nat → Nat} {p : Nat} (hp : p < 8) : ev T (5 + p) = if lB T p = true then T (5 + p) - atN (evG T (T 2)) p (T 2) - T 0 else T (5 + p) := by
  unfold ev
  rw [if_neg (by omega), if_neg (by omega), if_pos (by omega), show 5 + p - 5 = p by omega]
section CEv3
variable {d : Nat} {Q : Option AV → Mem → Prop} {M : Mem} {t : Nat} {T : Nat → Nat}
theorem c_passEvening (h : CT M t T) (ok : okT T) (h3 : T 3 < 1000000) (hQ : ∀ M', (∀ k i, ¬ (6 ≤ k ∧ k ≤ 11 ∧ i = t) → M' k i = M k i) → CT M' t (ev T) → M' 6 t 11 = nI (clS T) → Q none M') : wpd (d + 4) 42 [zR 6 t] M Q := by
  have hs := ok.s
  have hz := ok.z
  have ho := ok.o
  obtain ⟨hx, hcl⟩ := h
  have hP := hs.2.1
  have hN := hs.2.2.1
  have gL : ∀ i, i ≤ T 2 → (fun k => decide (k < evG T i 1) && decide (0 < T (5 + k))) = lB T := by
    intro i hi
    rw [(evG_s hs i hi).2.1 1 (by omega)]
    rfl
  refine en_X3_passEvening _ _ ?_
  refine c_litPlaces (n := T 1) (f := fun p => T (5 + p)) hx.1 hP hx.2.2.2.2.2.1 (fun p hp => by have := ho p (by omega); omega) (gO_i ?_)
  have loop : ∀ (r i : Nat) (M1 : Mem), i + r = T 2 → GoF t M M1 → CTx M1 t (evG T i) (fun p => T (5 + p)) (fun p => T (13 + p)) → WP (wpd (d + 3)) 0 T_X3_passEvening Q (12, [zR 6 t, zI (nI (bso (fun p => decide (0 < T (5 + p))) (T 1))), zI (M 6 t 8), zI (nI i)], []) M1 := by
    intro r
    induction r with
    | zero =>
      intro i M1 e f1 f2
      have e : i = T 2 := by omega
      subst e
      obtain ⟨i1, i2, i3, i4⟩ := evG_s hs (T 2) (Nat.le_refl _)
      have e1 : evG T (T 2) 1 = T 1 := i2 1 (by omega)
      have e2 : evG T (T 2) 2 = T 2 := i2 2 (by omega)
      have e0 : evG T (T 2) 0 = T 0 := i2 0 (by omega)
      have e3 : evG T (T 2) 3 = T 3 := i2 3 (by omega)
      refine cp_X3_passEvening_12 _ _ _ _ _ ⟨fun _ => ?_, fun z => ?_⟩
      · refine c_clap (T := T) (E := evG T (T 2)) (g := fun p => decide (0 < T (5 + p))) (c := T 4) f2 (by rw [f1.2 10 (by omega)]; exact hcl) (by have := ok.2.2.2.2.1; omega) i1 e1 hz (by rw [e1]) (fun M2 a1 a2 a3 a4 => gN_i ?_)
        rw [gL (T 2) (Nat.le_refl _), e2] at a3 a4
        have f3 : CTx M2 t (evG T (T 2)) (fun p => T (5 + p)) (fun p => T (13 + p)) := f2.frame (fun j _ _ => a2 j (by omega) (by omega)) (a1 9 t (by omega)) (a1 10 t (by omega)) (a1 11 t (by omega)) (fun p hp => by rw [a1 7 t (by omega)]; exact f2.2.2.2.2.2.1 p hp) (fun p hp => by rw [a1 8 t (by omega)]; exact f2.2.2.2.2.2.2.1 p hp)
        refine c_seat (T := T) f3 i1 (fun k hk => ?_) (fun k hk => (hs.2.2.2 k (by omega)).2.2) (fun M3 b1 b2 => gN_i ?_)
        · rw [f3.2.2.2.2.1, hx.2.2.2.2.1, e2]
          rw [e2] at hk
          exact hasB_new (f := fun q => decide (evG T (T 2) (24 + 4 * q) = 1)) (g := fun q => decide (T (24 + 4 * q) = 1)) hN hk
        · have f4 : CTx M3 t (evG T (T 2)) (fun p => T (5 + p)) (fun p => T (13 + p) + nw T (evG T (T 2)) p (T 2)) := f3.frame (fun j _ _ => by rw [b1 6 t (by omega)]) (b1 9 t (by omega)) (b1 10 t (by omega)) (b1 11 t (by omega)) (fun p hp => by rw [b1 7 t (by omega)]; exact f3.2.2.2.2.2.1 p hp) (fun p hp => by rw [b2 p hp, e2])
          refine c_burnDown (g := fun p => decide (0 < T (5 + p))) f4 i1 ho (by rw [e0]; exact ok.1) (by rw [e1]) (fun M4 c1 c2 => gN_i ?_)
          refine hQ _ (fun k i z => ?_) ⟨⟨?_, ?_, ?_, ?_, ?_, ?_, ?_, ?_⟩, ?_⟩ ?_
          · rw [mup_r (by omega), c1 k i (by omega), b1 k i (by omega), a1 k i (by omega)]
            exact f1.1 k i (by omega)
          · rw [mup_ap, if_neg (by omega), c1 6 t (by omega), f4.1, ev_e (by omega) (by omega) (by omega)]
          · rw [mup_ap, if_neg (by omega), c1 6 t (by omega), f4.2.1, ev_e (by omega) (by omega) (by omega)]
          · rw [mup_ap, if_neg (by omega), c1 6 t (by omega), f4.2.2.1, ev_e (by omega) (by omega) (by omega)]
          · rw [mup_ap, if_pos ⟨rfl, rfl, rfl⟩, c1 6 t (by omega), f4.2.2.2.1, nI_add, ev_3, e3]
          · rw [mup_ap, if_neg (by omega), c1 6 t (by omega), f4.2.2.2.2.1, ev_e (T := T) (j := 2) (by omega) (by omega) (by omega)]
            congr 1
            exact bso_cong _ (fun k _ => by rw [ev_e (by omega) (by omega) (by omega)])
          · intro p hp
            rw [ev_e (by omega) (by omega) (by omega), e1] at hp
            have hg := gL (T 2) (Nat.le_refl _)
            have hg2 : (decide (p < evG T (T 2) 1) && decide (0 < T (5 + p))) = lB T p := congrFun hg p
            rw [mup_r (by omega), c2 p (by rw [e1]; exact hp), hg2, e2, e0]
            show _ = nI (ev T (5 + p))
            rw [ev_o (by omega)]
          · intro p hp
            rw [mup_r (by omega), c1 8 t (by omega), f4.2.2.2.2.2.2.1 p hp]
            show _ = nI (ev T (13 + p))
            rw [ev_e (by omega) (by omega) (by omega), evG_z hs hp (T 2) (Nat.le_refl _)]
          · intro r hr
            rw [ev_e (by omega) (by omega) (by omega)] at hr
            rw [mup_r (by omega), mup_r (by omega), mup_r (by omega), c1 9 t (by omega), c1 10 t (by omega), c1 11 t (by omega), ev_e (by omega) (by omega) (by omega), ev_e (by omega) (by omega) (by omega), ev_e (by omega) (by omega) (by omega)]
            exact f4.2.2.2.2.2.2.2 r hr
          · rw [mup_ap, if_neg (by omega), c1 6 t (by omega), b1 6 t (by omega), a4, ev_4]
            rfl
          · rw [mup_ap, if_neg (by omega), c1 6 t (by omega), b1 6 t (by omega), a3]
            rfl
      · rw [f2.2.1, e2] at z
        exact absurd ((nle (by omega) (by omega)).mpr (Nat.le_refl _)) z
    | succ r ih =>
      intro i M1 e f1 f2
      obtain ⟨i1, i2, i3, i4⟩ := evG_s hs i (by omega)
      have e1 : evG T i 1 = T 1 := i2 1 (by omega)
      have e2 : evG T i 2 = T 2 := i2 2 (by omega)
      have hi : i < evG T i 2 := by rw [e2]; omega
      obtain ⟨a1, a2, a3⟩ := i1.2.2.2 i hi
      refine cp_X3_passEvening_12 _ _ _ _ _ ⟨fun z => ?_, fun _ => ?_⟩
      · rw [f2.2.1, e2, nle (by omega) (by omega)] at z
        omega
      · refine c_hasCrossed f2 i1.2.2.1 hi a3 (fun c => gTn ?_) (fun c => gFn ?_)
        · rw [nI_add i]
          refine ih (i + 1) M1 (by omega) f1 ?_
          have : evG T (i + 1) = evG T i := by
            conv => lhs; unfold evG
            rw [if_neg (by omega)]
          rw [this]; exact f2
        · have hk := i3 i
          have hk2 := (ok.2.2.2.2.2.2.2 i (by omega))
          refine c_letGo (g := fun p => decide (0 < T (5 + p))) f2 i1 hi (by rw [hk]; exact ⟨hk2.1, hk2.2.1⟩) c (by rw [i2 3 (by omega)]; omega) (by rw [e1]) (fun M2 b1 b2 => gN_i ?_)
          rw [nI_add i]
          refine ih (i + 1) M2 (by omega) (f1.tr b1) ?_
          have : evG T (i + 1) = goT (evG T i) (lB T) i := by
            conv => lhs; unfold evG
            rw [if_pos c]
          rw [this, ← gL i (by omega)]
          exact b2
  exact loop (T 2) 0 M (by omega) GoF.rf hx
end CEv3
