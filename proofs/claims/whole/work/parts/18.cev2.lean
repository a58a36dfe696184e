/-! THE CLASS's TOWN: who crossed sits down; the flames burn down; an evening -/
theorem max_v {a b c : Nat} (ha : a < 100000) (hb : b < 100000) (hc : c < 100000) : (if (nI 0 : Int32) < (nI a - nI b) - nI c then (nI a - nI b) - nI c else nI 0) = nI (a - b - c) := by
  have e0 : (nI 0 : Int32).toInt = 0 := by decide
  have e1 : (nI a - nI b : Int32).toInt = (a : Int) - b := pk_sub_toInt (by omega) (by omega)
  by_cases h : b + c < a
  · have e2 : (nI a - nI b : Int32) = nI (a - b) := pk_sub (by omega)
    rw [e2, pk_sub (by omega), if_pos ((nlt (by omega) (by omega)).mpr (by omega))]
  · rw [show a - b - c = 0 by omega]
    have e3 : ¬ (nI 0 : Int32) < (nI a - nI b) - nI c := by
      by_cases hb2 : b ≤ a
      · rw [pk_sub hb2]
        by_cases hc2 : c ≤ a - b
        · rw [pk_sub hc2, nlt (by omega) (by omega)]; omega
        · have := pk_sneg (a := a - b) (b := c) (by omega) (by omega)
          intro z
          exact absurd this (Int32.not_lt.mpr (Int32.le_of_lt z))
      · obtain ⟨k, rfl⟩ : ∃ k, b = a + (k + 1) := ⟨b - a - 1, by omega⟩
        have e4 : (nI a - nI (a + (k + 1)) - nI c : Int32) = nI 0 - nI (k + 1 + c) := by
          rw [← nI_add a, ← nI_add (k + 1) c]
          generalize nI a = x
          generalize nI (k + 1) = y
          generalize nI c = z
          have : (nI 0 : Int32) = 0 := rfl
          rw [this]
          grind
        rw [e4]
        have := pk_sneg (a := 0) (b := k + 1 + c) (by omega) (by omega)
        intro z
        exact absurd this (Int32.not_lt.mpr (Int32.le_of_lt z))
    rw [if_neg e3]
theorem CTx.frame {M M' : Mem} {t : Nat} {E O Z O' Z' : Nat → Nat} (h : CTx M t E O Z) (f : ∀ j, 5 ≤ j → j ≤ 9 → M' 6 t j = M 6 t j) (f9 : M' 9 t = M 9 t) (f10 : M' 10 t = M 10 t) (f11 : M' 11 t = M 11 t) (f7 : ∀ p, p < E 1 → M' 7 t p = nI (O' p)) (f8 : ∀ p, p < 8 → M' 8 t p = nI (Z' p)) : CTx M' t E O' Z' := by
  obtain ⟨b1, b2, b3, b4, b5, b6, b7, b8⟩ := h
  refine ⟨by rw [f 5 (by omega) (by omega)]; exact b1, by rw [f 6 (by omega) (by omega)]; exact b2, by rw [f 7 (by omega) (by omega)]; exact b3, by rw [f 9 (by omega) (by omega)]; exact b4, by rw [f 8 (by omega) (by omega)]; exact b5, f7, f8, fun r hr => ?_⟩
  rw [f9, f10, f11]
  exact b8 r hr
section CEv2
variable {d : Nat} {Q : Option AV → Mem → Prop} {M : Mem} {t : Nat} {T E O : Nat → Nat} {q : Nat} {g : Nat → Bool} {x : Int32}
/-- seat: of E's players those that T has not as crossed sit down -/
theorem c_seat (h : CTx M t E O (fun p => T (13 + p))) (hs : shp1 E) (hb : ∀ k, k < E 2 → hasB x k (decide (E (24 + 4 * k) = 1) && !decide (T (24 + 4 * k) = 1))) (hT : ∀ k, k < E 2 → T (24 + 4 * k) ≤ 1)
    (hQ : ∀ M', (∀ k i, ¬ (k = 8 ∧ i = t) → M' k i = M k i) → (∀ p, p < 8 → M' 8 t p = nI (T (13 + p) + nw T E p (E 2))) → Q none M') : wpd (d + 2) 52 [zR 6 t, zI x] M Q := by
  obtain ⟨s1, s2, s3, s4⟩ := hs
  have loop : ∀ (r i : Nat) (M1 : Mem), i + r = E 2 → (∀ k i, ¬ (k = 8 ∧ i = t) → M1 k i = M k i) → (∀ p, p < 8 → M1 8 t p = nI (T (13 + p) + nw T E p i)) → WP (wpd (d + 1)) 0 T_X3_seat Q (2, [zR 6 t, zI x, zI (nI i)], []) M1 := by
    intro r
    induction r with
    | zero =>
      intro i M1 e f1 f2
      have e : i = E 2 := by omega
      subst e
      refine cp_X3_seat_2 _ _ _ _ ⟨fun _ => hQ M1 f1 f2, fun z => ?_⟩
      rw [f1 6 t (by omega), h.2.1] at z
      exact absurd ((nle (by omega) (by omega)).mpr (Nat.le_refl _)) z
    | succ r ih =>
      intro i M1 e f1 f2
      have hi : i < E 2 := by omega
      obtain ⟨a1, a2, a3⟩ := s4 i hi
      have hat := (h.2.2.2.2.2.2.2 i hi).2.1
      have ht := hT i hi
      refine cp_X3_seat_2 _ _ _ _ ⟨fun z => ?_, fun _ => ?_⟩
      · rw [f1 6 t (by omega), h.2.1, nle (by omega) (by omega)] at z
        omega
      · have nwS : ∀ p, nw T E p (i + 1) = nw T E p i + (if T (24 + 4 * i) = 0 ∧ E (24 + 4 * i) = 1 ∧ E (22 + 4 * i) = p then 1 else 0) := fun p => rfl
        refine c_hasBit (hb i hi) (fun b => gTe ?_) (fun b => gFe ?_)
        · rw [Bool.and_eq_true] at b
          have b1 : E (24 + 4 * i) = 1 := of_decide_eq_true b.1
          have b2 : ¬ T (24 + 4 * i) = 1 := by simpa using b.2
          have b3 : T (24 + 4 * i) = 0 := by omega
          rw [ncl (by omega), f1 10 t (by omega), hat, ncl (by omega)]
          refine ⟨vin_i (by omega) (by omega), vin_i (by omega) (by omega), vin_i (by omega) (by omega), ?_⟩
          rw [nI_add i]
          refine ih (i + 1) _ (by omega) (fun k i z => (mup_r (by omega)).trans (f1 k i z)) (fun p hp => ?_)
          rw [mup_ap, nwS]
          by_cases z : p = E (22 + 4 * i)
          · subst z
            rw [if_pos ⟨rfl, rfl, rfl⟩, f2 _ hp, nI_add, if_pos ⟨b3, b1, rfl⟩]
            rfl
          · rw [if_neg (by omega), if_neg (by omega), f2 p hp]
            rfl
        · rw [nI_add i]
          refine ih (i + 1) _ (by omega) f1 (fun p hp => ?_)
          rw [nwS, f2 p hp, if_neg]
          · rfl
          · intro z
            rw [z.1, z.2.1] at b
            exact absurd b (by simp)
  exact en_X3_seat _ _ _ (loop (E 2) 0 M (by omega) (fun _ _ _ => rfl) (fun p hp => h.2.2.2.2.2.2.1 p hp))
/-- burnDown -/
theorem c_burnDown {Z : Nat → Nat} (h : CTx M t E O Z) (hs : shp1 E) (hO : ∀ p, p < 8 → O p ≤ 1000) (h0 : E 0 ≤ 3) (hx : x = nI (bso g (E 1)))
    (hQ : ∀ M', (∀ k i, ¬ (k = 7 ∧ i = t) → M' k i = M k i) → (∀ p, p < E 1 → M' 7 t p = nI (if (decide (p < E 1) && g p) = true then O p - atN E p (E 2) - E 0 else O p)) → Q none M') : wpd (d + 2) 53 [zR 6 t, zI x] M Q := by
  obtain ⟨s1, s2, s3, s4⟩ := hs
  have atS : ∀ p i, atN E p (i + 1) = atN E p i + (if E (24 + 4 * i) = 0 ∧ E (22 + 4 * i) = p then 1 else 0) := fun p i => rfl
  have atB : ∀ p i, atN E p i ≤ i := fun p i => by
    have := sumN_b (f := fun q => if E (24 + 4 * q) = 0 ∧ E (22 + 4 * q) = p then 1 else 0) (b := 1) i (fun k _ => by split <;> omega)
    unfold atN; omega
  -- the places
  have loop2 : ∀ (r i : Nat) (M1 : Mem), i + r = E 1 → (∀ k i, ¬ (k = 7 ∧ i = t) → M1 k i = M k i) → (∀ p, p < i → M1 7 t p = nI (if (decide (p < E 1) && g p) = true then O p - atN E p (E 2) - E 0 else O p)) → (∀ p, i ≤ p → p < E 1 → M1 7 t p = nI (O p) - nI (if (decide (p < E 1) && g p) = true then atN E p (E 2) else 0)) → WP (wpd (d + 1)) 0 T_X3_burnDown Q (54, [zR 6 t, zI x, zI (nI i)], []) M1 := by
    intro r
    induction r with
    | zero =>
      intro i M1 e f1 f2 f3
      have e : i = E 1 := by omega
      subst e
      refine cp_X3_burnDown_54 _ _ _ _ ⟨fun _ => hQ M1 f1 f2, fun z => ?_⟩
      rw [f1 6 t (by omega), h.1] at z
      exact absurd ((nle (by omega) (by omega)).mpr (Nat.le_refl _)) z
    | succ r ih =>
      intro i M1 e f1 f2 f3
      have hi : i < E 1 := by omega
      have hOi := hO i (by omega)
      have hAi := atB i (E 2)
      refine cp_X3_burnDown_54 _ _ _ _ ⟨fun z => ?_, fun _ => ?_⟩
      · rw [f1 6 t (by omega), h.1, nle (by omega) (by omega)] at z
        omega
      · rw [hx]
        refine c_hasBit (hasB_bso s2 (by omega)) (fun b => gTe ?_) (fun b => gFe ?_)
        · rw [ncl (by omega), f3 i (Nat.le_refl i) hi, if_pos b, f1 6 t (by omega), h.2.2.1, max_v (by omega) (by omega) (by omega), nI_add i]
          refine ⟨vin_i (by omega) (by omega), vin_i (by omega) (by omega), ?_⟩
          rw [← hx]
          refine ih (i + 1) _ (by omega) (fun k i z => (mup_r (by omega)).trans (f1 k i z)) (fun p hp => ?_) (fun p hp hp2 => ?_)
          · rw [mup_ap]
            by_cases z : p = i
            · subst z
              rw [if_pos ⟨rfl, rfl, rfl⟩, if_pos b]
            · rw [if_neg (by omega)]; exact f2 p (by omega)
          · rw [mup_ap, if_neg (by omega)]; exact f3 p (by omega) hp2
        · rw [nI_add i, ← hx]
          refine ih (i + 1) _ (by omega) f1 (fun p hp => ?_) (fun p hp hp2 => f3 p (by omega) hp2)
          by_cases z : p = i
          · subst z
            have b' : ¬ (decide (p < E 1) && g p) = true := by rw [b]; simp
            rw [f3 p (Nat.le_refl p) hi, if_neg b', if_neg b', pk_sub (by omega)]
            rfl
          · exact f2 p (by omega)
  have loop1 : ∀ (r i : Nat) (M1 : Mem), i + r = E 2 → (∀ k i, ¬ (k = 7 ∧ i = t) → M1 k i = M k i) → (∀ p, p < E 1 → M1 7 t p = nI (O p) - nI (if (decide (p < E 1) && g p) = true then atN E p i else 0)) → WP (wpd (d + 1)) 0 T_X3_burnDown Q (2, [zR 6 t, zI x, zI (nI i)], []) M1 := by
    intro r
    induction r with
    | zero =>
      intro i M1 e f1 f2
      have e : i = E 2 := by omega
      subst e
      refine cp_X3_burnDown_2 _ _ _ _ ⟨fun _ => loop2 (E 1) 0 M1 (by omega) f1 (fun p hp => absurd hp (by omega)) (fun p _ hp => f2 p hp), fun z => ?_⟩
      rw [f1 6 t (by omega), h.2.1] at z
      exact absurd ((nle (by omega) (by omega)).mpr (Nat.le_refl _)) z
    | succ r ih =>
      intro i M1 e f1 f2
      have hi : i < E 2 := by omega
      obtain ⟨a1, a2, a3⟩ := s4 i hi
      have hat := (h.2.2.2.2.2.2.2 i hi).2.1
      have h' : CTx M1 t E (fun p => 0) Z ∨ True := Or.inr trivial
      have hcr : M1 6 t 8 = M 6 t 8 := by rw [f1 6 t (by omega)]
      refine cp_X3_burnDown_2 _ _ _ _ ⟨fun z => ?_, fun _ => ?_⟩
      · rw [f1 6 t (by omega), h.2.1, nle (by omega) (by omega)] at z
        omega
      · -- hasCrossed reads the town alone
        have hx2 : ∀ {Q2 : Option AV → Mem → Prop}, (E (24 + 4 * i) = 1 → Q2 (some (zI (nI 1))) M1) → (E (24 + 4 * i) = 0 → Q2 (some (zI (nI 0))) M1) → wpd (d + 1) 27 [zR 6 t, zI (nI i)] M1 Q2 := by
          intro Q2 k1 k0
          refine en_X3_hasCrossed _ _ _ ?_
          have hb := hasB_bso (f := fun q => decide (E (24 + 4 * q) = 1)) (n := E 2) (k := i) (by omega) (by omega)
          unfold hasB at hb
          rw [← h.2.2.2.2.1, ← hcr] at hb
          rw [hb, decide_eq_true hi, Bool.true_and]
          rcases (by omega : E (24 + 4 * i) = 0 ∨ E (24 + 4 * i) = 1) with z | z
          · rw [z]; exact ⟨fun _ => ⟨z0, k0 z⟩, fun y => absurd y c01⟩
          · rw [z]; exact ⟨fun y => absurd rfl y, fun _ => ⟨z1, k1 z⟩⟩
        refine hx2 (fun c => gTn ?_) (fun c => gFn ?_)
        · rw [nI_add i]
          refine ih (i + 1) _ (by omega) f1 (fun p hp => ?_)
          rw [f2 p hp, atS, if_neg (show ¬ (E (24 + 4 * i) = 0 ∧ E (22 + 4 * i) = p) by omega)]
          rfl
        · rw [ncl (by omega), f1 10 t (by omega), hat]
          refine ⟨vin_i (by omega) (by omega), ?_⟩
          rw [hx]
          refine c_hasBit (hasB_bso s2 (by omega)) (fun b => gTe ?_) (fun b => gFe ?_)
          · rw [f1 10 t (by omega), hat, ncl (by omega)]
            refine ⟨vin_i (by omega) (by omega), vin_i (by omega) (by omega), vin_i (by omega) (by omega), ?_⟩
            rw [nI_add i, ← hx]
            refine ih (i + 1) _ (by omega) (fun k i z => (mup_r (by omega)).trans (f1 k i z)) (fun p hp => ?_)
            rw [mup_ap, atS]
            by_cases z : p = E (22 + 4 * i)
            · subst z
              rw [if_pos ⟨rfl, rfl, rfl⟩, f2 _ hp, if_pos b, if_pos b, if_pos ⟨c, rfl⟩, ← nI_add]
              generalize nI (O (E (22 + 4 * i))) = y1
              generalize nI (atN E (E (22 + 4 * i)) i) = y2
              grind
            · rw [if_neg (by omega), f2 p hp, if_neg (show ¬ (E (24 + 4 * i) = 0 ∧ E (22 + 4 * i) = p) by omega)]
              rfl
          · rw [nI_add i, ← hx]
            refine ih (i + 1) _ (by omega) f1 (fun p hp => ?_)
            rw [f2 p hp, atS]
            by_cases z : E (22 + 4 * i) = p
            · subst z
              have b' : ¬ (decide (E (22 + 4 * i) < E 1) && g (E (22 + 4 * i))) = true := by rw [b]; simp
              rw [if_neg b', if_neg b']
            · rw [if_neg (show ¬ (E (24 + 4 * i) = 0 ∧ E (22 + 4 * i) = p) by omega)]
              rfl
  refine en_X3_burnDown _ _ _ (loop1 (E 2) 0 M (by omega) (fun _ _ _ => rfl) (fun p hp => ?_))
  rw [h.2.2.2.2.2.1 p hp]
  have : (if (decide (p < E 1) && g p) = true then atN E p 0 else 0) = 0 := by split <;> rfl
  rw [this, pk_sub (by omega)]
  rfl
end CEv2
