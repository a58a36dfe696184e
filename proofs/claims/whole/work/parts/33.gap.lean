/-! gap, as -/
def gS (f : Nat → Bool) : Nat → Int32 × Nat × Nat
  | 0 => (-1000000, 0, 0)
  | i + 1 => if f i = true then (if (gS f i).2.2 + 1 ≤ (gS f i).2.1 then ((gS f i).1, (gS f i).2.1, (gS f i).2.2 + 1) else (nI i - nI ((gS f i).2.2 + 1) + nI 1, (gS f i).2.2 + 1, (gS f i).2.2 + 1)) else ((gS f i).1, (gS f i).2.1, 0)
theorem gS_inv (f : Nat → Bool) : ∀ i, (gS f i).2.1 ≤ i ∧ (gS f i).2.2 ≤ i ∧ ((gS f i).2.1 = 0 ∧ (gS f i).1 = -1000000 ∨ (gS f i).2.1 ≠ 0 ∧ ∃ j, j ≤ i ∧ (gS f i).1 = nI j)
  | 0 => ⟨Nat.le_refl _, Nat.le_refl _, Or.inl ⟨rfl, rfl⟩⟩
  | i + 1 => by
    obtain ⟨h1, h2, h3⟩ := gS_inv f i
    have h3' : (gS f i).2.1 = 0 ∧ (gS f i).1 = -1000000 ∨ (gS f i).2.1 ≠ 0 ∧ ∃ j, j ≤ i + 1 ∧ (gS f i).1 = nI j := by
      rcases h3 with h | ⟨h, j, hj, e⟩
      · exact Or.inl h
      · exact Or.inr ⟨h, j, by omega, e⟩
    unfold gS
    split
    · split
      · exact ⟨by show (gS f i).2.1 ≤ i + 1; omega, by show (gS f i).2.2 + 1 ≤ i + 1; omega, h3'⟩
      · refine ⟨by show (gS f i).2.2 + 1 ≤ i + 1; omega, by show (gS f i).2.2 + 1 ≤ i + 1; omega, Or.inr ⟨by show (gS f i).2.2 + 1 ≠ 0; omega, i - (gS f i).2.2, by omega, ?_⟩⟩
        show nI i - nI ((gS f i).2.2 + 1) + nI 1 = nI (i - (gS f i).2.2)
        have e1 : nI ((gS f i).2.2 + 1) = nI (gS f i).2.2 + nI 1 := (nI_add _ _).symm
        have e2 : nI (i - (gS f i).2.2) = nI i - nI (gS f i).2.2 := (pk_sub h2).symm
        rw [e1, e2]
        generalize nI i = a
        generalize nI (gS f i).2.2 = b
        generalize nI 1 = c
        grind
    · exact ⟨by show (gS f i).2.1 ≤ i + 1; omega, by show 0 ≤ i + 1; omega, h3'⟩
theorem gS_t {f : Nat → Bool} {i : Nat} (h : f i = true) (h2 : (gS f i).2.2 + 1 ≤ (gS f i).2.1) : gS f (i + 1) = ((gS f i).1, (gS f i).2.1, (gS f i).2.2 + 1) := by
  conv => lhs; unfold gS
  rw [if_pos h, if_pos h2]
theorem gS_u {f : Nat → Bool} {i : Nat} (h : f i = true) (h2 : ¬ (gS f i).2.2 + 1 ≤ (gS f i).2.1) : gS f (i + 1) = (nI i - nI ((gS f i).2.2 + 1) + nI 1, (gS f i).2.2 + 1, (gS f i).2.2 + 1) := by
  conv => lhs; unfold gS
  rw [if_pos h, if_neg h2]
theorem gS_f {f : Nat → Bool} {i : Nat} (h : ¬ f i = true) : gS f (i + 1) = ((gS f i).1, (gS f i).2.1, 0) := by
  conv => lhs; unfold gS
  rw [if_neg h]
theorem pr_gap (p1 : Int32) : PR 74 167 [zR 0 0, zI p1] [zR 16 0, zI p1] := by
  intro M I
  obtain ⟨T, hg, hc, hm⟩ := I.2.2.2.2.2.1
  have hb := hg.b
  by_cases t0 : 0 < T 1
  · have hN := hg.n t0
    rcases num_or p1 2 with ⟨k, hk, rfl⟩ | hno
    · have ol := hN.1.o
      obtain ⟨G1, G2, G3⟩ := gS_inv (fun p => decide (T (5 + p) = 0)) (T 1)
      generalize hf : (fun p => decide (T (5 + p) = 0)) = f at *
      have hfi : ∀ i, f i = decide (T (5 + i) = 0) := fun i => by rw [← hf]
      refine en_X4_gap _ _ (c_stands hc.1.1 hb.1 (fun _ => gTn (c_isEither (fun _ _ _ => gTn ?_) (fun h => absurd rfl (h k hk)))) (fun y => by omega))
      have ref : ∀ v : Int32, (v = if (gS f (T 1)).2.1 = 0 then -1000000 else if k = 0 then (gS f (T 1)).1 else nI (gS f (T 1)).2.1) → wpd 40 167 [zR 16 0, zI (nI k)] M (fun r' M2 => gO r' fun v' => v = v' ∧ Inv M2 ∧ ∀ k, 30 ≤ k → M2 k = M k) := by
        intro v hv
        refine en_X5_gap _ _ (c_isTown5 (hm 1 (by omega)) hb.1 (fun _ => gTn (c_either5 (fun _ _ _ => gTn ?_) (fun h => absurd rfl (h k hk)))) (fun y => by omega))
        refine up_ind (P := fun i => WP (wpd 39) 1 T_X5_gap (fun r' M2 => gO r' fun v' => v = v' ∧ Inv M2 ∧ ∀ k, 30 ≤ k → M2 k = M k) (33, [zR 16 0, zI (nI k), zI (gS f i).1, zI (nI (gS f i).2.1), zI (nI (gS f i).2.2), zI (nI i)], []) M) (n := T 1) ?_ ?_
        · refine cp_X5_gap_33 _ _ _ _ _ _ ⟨vin_i (by omega) (by omega), fun _ => ?_, fun z => ?_⟩
          · rcases G3 with ⟨g1, g2⟩ | ⟨g1, j, g2, g3⟩
            · rw [if_pos g1] at hv
              refine ⟨fun _ => gO_i ⟨by rw [hv, g2], I, fun _ _ => rfl⟩, fun y => absurd g2 y⟩
            · rw [if_neg g1] at hv
              refine ⟨fun y => ?_, fun _ => ⟨fun y => ?_, fun y => ?_⟩⟩
              · rw [g3] at y
                exact absurd y (ne_no (by omega))
              · rw [if_neg (fun e => y (by rw [e]))] at hv
                exact gO_i ⟨hv, I, fun _ _ => rfl⟩
              · rw [neq (by omega) (by omega)] at y
                rw [if_pos y] at hv
                exact gO_i ⟨hv, I, fun _ _ => rfl⟩
          · rw [hm 1 (by omega)] at z
            exact absurd ((nle (by omega) (by omega)).mpr (Nat.le_refl _)) z
        · intro i hi ih
          obtain ⟨J1, J2, J3⟩ := gS_inv f i
          have oi := ol i (by omega)
          refine cp_X5_gap_33 _ _ _ _ _ _ ⟨vin_i (by omega) (by omega), fun z => ?_, fun _ => ?_⟩
          · rw [hm 1 (by omega), nle (by omega) (by omega)] at z
            omega
          · rw [nI_add 5, ncl (by omega), hm _ (by omega), nI_add, nI_add]
            have z00 : (nI 0 : Int32) ≤ nI (gS f i).2.1 := (nle (by omega) (by omega)).mpr (by omega)
            refine ⟨vin_i (by omega) (by omega), fun z => ⟨fun _ => ⟨fun _ => ?_, fun y => absurd z00 y⟩, fun y => absurd z00 y⟩, fun z => ?_⟩
            · rw [gS_f (by rw [hfi]; exact fun y => z (by rw [of_decide_eq_true y]))] at ih
              exact ih
            · rw [neq (by omega) (by omega)] at z
              have hfz : f i = true := by rw [hfi]; exact decide_eq_true z
              refine ⟨fun y => ⟨fun _ => ?_, fun y2 => absurd y y2⟩, fun y => ⟨fun y2 => absurd y2 y, fun _ => ?_⟩⟩
              · rw [nle (by omega) (by omega)] at y
                rw [gS_t hfz y] at ih
                exact ih
              · rw [nle (by omega) (by omega)] at y
                rw [gS_u hfz y] at ih
                exact ih
      refine up_ind (P := fun i => WP (wpd 39) 1 T_X4_gap (fun r M1 => gO r fun v => wpd 40 167 [zR 16 0, zI (nI k)] M1 (fun r' M2 => gO r' fun v' => v = v' ∧ Inv M2 ∧ ∀ k, 30 ≤ k → M2 k = M k)) (34, [zR 0 0, zI (nI k), zI (gS f i).1, zI (nI (gS f i).2.1), zI (nI (gS f i).2.2), zI (nI i)], []) M) (n := T 1) ?_ ?_
      · refine cp_X4_gap_34 _ _ _ _ _ _ ⟨fun _ => ⟨fun y => ⟨fun y2 => gO_i (ref _ ?_), fun y2 => gO_i (ref _ ?_)⟩, fun y => gO_i (ref _ ?_)⟩, fun z => ?_⟩
        · rw [if_neg (fun e => y (by rw [e])), if_neg (fun e => y2 (by rw [e]))]
        · rw [neq (by omega) (by omega)] at y2
          rw [if_neg (fun e => y (by rw [e])), if_pos y2]
        · rw [neq (by omega) (by omega)] at y
          rw [if_pos y]
        · rw [hc.1.1] at z
          exact absurd ((nle (by omega) (by omega)).mpr (Nat.le_refl _)) z
      · intro i hi ih
        obtain ⟨J1, J2, J3⟩ := gS_inv f i
        have oi := ol i (by omega)
        have e7 : M 7 0 i = nI (T (5 + i)) := hc.1.2.2.2.2.2.1 i hi
        refine cp_X4_gap_34 _ _ _ _ _ _ ⟨fun z => ?_, fun _ => ?_⟩
        · rw [hc.1.1, nle (by omega) (by omega)] at z
          omega
        · rw [ncl (by omega), e7, nI_add, nI_add]
          have z00 : (nI 0 : Int32) ≤ nI (gS f i).2.1 := (nle (by omega) (by omega)).mpr (by omega)
          refine ⟨vin_i (by omega) (by omega), fun z => ⟨fun _ => ?_, fun y => absurd z00 y⟩, fun z => ?_⟩
          · rw [gS_f (by rw [hfi]; exact fun y => z (by rw [of_decide_eq_true y]))] at ih
            exact ih
          · rw [neq (by omega) (by omega)] at z
            have hfz : f i = true := by rw [hfi]; exact decide_eq_true z
            refine ⟨fun y => ?_, fun y => ?_⟩
            · rw [nle (by omega) (by omega)] at y
              rw [gS_t hfz y] at ih
              exact ih
            · rw [nle (by omega) (by omega)] at y
              rw [gS_u hfz y] at ih
              exact ih
    · refine en_X4_gap _ _ (c_stands hc.1.1 hb.1 (fun _ => gTn (c_isEither (fun k hk e => absurd e (hno k hk)) (fun _ => gFn (gO_i ?_)))) (fun y => by omega))
      exact en_X5_gap _ _ (c_isTown5 (hm 1 (by omega)) hb.1 (fun _ => gTn (c_either5 (fun k hk e => absurd e (hno k hk)) (fun _ => gFn (gO_i ⟨rfl, I, fun _ _ => rfl⟩)))) (fun y => by omega))
  · refine en_X4_gap _ _ (c_stands hc.1.1 hb.1 (fun y => absurd y t0) (fun _ => gFn (gO_i ?_)))
    exact en_X5_gap _ _ (c_isTown5 (hm 1 (by omega)) hb.1 (fun y => absurd y t0) (fun _ => gFn (gO_i ⟨rfl, I, fun _ _ => rfl⟩)))
def isK (k j : Nat) : Bool := decide (j = 0) || decide (j = k) || (decide (j = 1) && decide (k < 4)) || (decide (j = 4) && decide (k = 5))
theorem alA_b : ∀ k, k < 6 → 1 ≤ k → ∀ j, j < 6 → (alA k >>> (nI j &&& 31)) &&& nI 1 = nI (cond (isK k j) 1 0) := by decide
theorem pr_as (p1 p2 : Int32) : PR 85 181 [zR 0 0, zI p1, zI p2] [zR 16 0, zI p1, zI p2] := by
  intro M I
  obtain ⟨T, hg, hc, hm⟩ := I.2.2.2.2.2.1
  have hb := hg.b
  rcases num_or p1 (T 2) with ⟨q, hq, rfl⟩ | hno
  · have hN := hg.p hq
    by_cases w : nI 0 ≤ p2 ∧ p2 ≤ nI 5
    · obtain ⟨j, hj, rfl⟩ := nI_of2 (x := p2) (M := nI 5) (n := 5) (by decide) (Int32.not_lt.mpr w.1) w.2
      obtain ⟨w1, w2, w3, w4, w5⟩ := hN.1.2.2.2.2.2.2.2 q hq
      have e9 : M 9 0 q = nI (T (21 + 4 * q)) := (hc.1.2.2.2.2.2.2.2 q hq).1
      refine en_X4_as _ _ _ (c_hasPlayer hc.1.2.1 hb.2 (fun _ _ _ => gTe (c_isWithin (fun _ _ => gTn ?_) (fun y => absurd w y))) (fun h => absurd rfl (h q hq)))
      rw [ncl (by omega), e9, ncl (by omega), (I.2.2.2.2.2.2.2.2 (T (21 + 4 * q)) (by omega)).1]
      generalize hk : T (21 + 4 * q) = k at *
      refine ⟨vin_i (by omega) (by omega), vin_i (by omega) (by omega), c_hasBit (b := isK k j) (alA_b k (by omega) w1 j (by omega)) (fun y => gTn (en_X4_foundNothing _ _ (gO_i (gO_i ?_)))) (fun y => gFn (en_X4_found _ _ (gO_i (gO_i ?_))))⟩
      · refine en_X5_as _ _ _ (c_isPlayer5 (by rw [mup_r (by omega)]; exact hm 2 (by omega)) hb.2 (fun _ _ _ => gTe (c_in (fun _ _ => gTn ?_) (fun y => absurd w y))) (fun h => absurd rfl (h q hq)))
        refine en_X5_kindIn _ _ ?_
        rw [pk_mul, nI_add, ncl (by omega), mup_r (by omega), hm _ (by omega), hk]
        have W : wpd 39 114 [zR 16 0, zI (nI q)] (mup M 0 0 8 (nI 0)) (fun r M1 => gO r fun v => gO (some (zI v)) fun v' => nI q = v' ∧ Inv M1 ∧ ∀ k, 30 ≤ k → M1 k = M k) := en_X5_well _ _ (gO_i (gO_i ⟨rfl, I.find, find_30⟩))
        unfold isK at y
        simp only [Bool.or_eq_true, Bool.and_eq_true, decide_eq_true_eq] at y
        have w0 := w1
        refine ⟨vin_i (by omega) (by omega), fun _ => ⟨fun z => absurd z c10, fun _ => W⟩, fun a0 => ⟨fun _ => ⟨fun z => absurd z c10, fun _ => W⟩, fun a1 => ⟨fun a2 => ⟨fun a3 => ?_, fun a3 => ⟨fun a4 => ?_, fun _ => ⟨fun z => absurd z c10, fun _ => W⟩⟩⟩, fun a2 => ⟨fun a3 => ⟨fun z => absurd z c10, fun _ => W⟩, fun a3 => ⟨fun a4 => ?_, fun a4 => ⟨fun a5 => ?_, fun _ => ⟨fun z => absurd z c10, fun _ => W⟩⟩⟩⟩⟩⟩⟩
        all_goals exfalso
        all_goals simp only [neq (a := j) (b := 0) (by omega) (by omega), neq (a := j) (b := k) (by omega) (by omega), neq (a := j) (b := 1) (by omega) (by omega), neq (a := j) (b := 4) (by omega) (by omega), neq (a := k) (b := 5) (by omega) (by omega), nlt (a := k) (b := 4) (by omega) (by omega)] at *
        all_goals omega
      · refine en_X5_as _ _ _ (c_isPlayer5 (by rw [mup_r (by omega)]; exact hm 2 (by omega)) hb.2 (fun _ _ _ => gTe (c_in (fun _ _ => gTn ?_) (fun y => absurd w y))) (fun h => absurd rfl (h q hq)))
        refine en_X5_kindIn _ _ ?_
        rw [pk_mul, nI_add, ncl (by omega), mup_r (by omega), hm _ (by omega), hk]
        have W : wpd 39 113 [zR 16 0, zI (nI 3)] (mup M 0 0 8 (nI 3)) (fun r M1 => gO r fun v => gO (some (zI v)) fun v' => -1000010 - nI 3 = v' ∧ Inv M1 ∧ ∀ k, 30 ≤ k → M1 k = M k) := en_X5_found _ _ (gO_i (gO_i ⟨rfl, I.find, find_30⟩))
        unfold isK at y
        simp only [Bool.or_eq_false_iff, Bool.and_eq_false_iff, decide_eq_false_iff_not] at y
        refine ⟨vin_i (by omega) (by omega), fun a0 => ?_, fun a0 => ⟨fun a1 => ?_, fun a1 => ⟨fun a2 => ⟨fun a3 => ⟨fun _ => W, fun z => absurd rfl z⟩, fun a3 => ⟨fun a4 => ⟨fun _ => W, fun z => absurd rfl z⟩, fun a4 => ?_⟩⟩, fun a2 => ⟨fun a3 => ?_, fun a3 => ⟨fun a4 => ⟨fun _ => W, fun z => absurd rfl z⟩, fun a4 => ⟨fun a5 => ⟨fun _ => W, fun z => absurd rfl z⟩, fun a5 => ?_⟩⟩⟩⟩⟩⟩
        all_goals exfalso
        all_goals simp only [neq (a := j) (b := 0) (by omega) (by omega), neq (a := j) (b := k) (by omega) (by omega), neq (a := j) (b := 1) (by omega) (by omega), neq (a := j) (b := 4) (by omega) (by omega), neq (a := k) (b := 5) (by omega) (by omega), nlt (a := k) (b := 4) (by omega) (by omega)] at *
        all_goals omega
    · refine en_X4_as _ _ _ (c_hasPlayer hc.1.2.1 hb.2 (fun _ _ _ => gTe (c_isWithin (fun y1 y2 => absurd ⟨y1, y2⟩ w) (fun _ => gFn (gO_i ?_)))) (fun h => absurd rfl (h q hq)))
      exact en_X5_as _ _ _ (c_isPlayer5 (hm 2 (by omega)) hb.2 (fun _ _ _ => gTe (c_in (fun y1 y2 => absurd ⟨y1, y2⟩ w) (fun _ => gFn (gO_i ⟨rfl, I, fun _ _ => rfl⟩)))) (fun h => absurd rfl (h q hq)))
  · refine en_X4_as _ _ _ (c_hasPlayer hc.1.2.1 hb.2 (fun k hk e => absurd e (hno k hk)) (fun _ => gFe (gO_i ?_)))
    exact en_X5_as _ _ _ (c_isPlayer5 (hm 2 (by omega)) hb.2 (fun k hk e => absurd e (hno k hk)) (fun _ => gFe (gO_i ⟨rfl, I, fun _ _ => rfl⟩)))
