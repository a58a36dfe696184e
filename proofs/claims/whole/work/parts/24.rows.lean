/-! ROWS AND THE TAPE: row, set, drop, feed -/
section Rw
variable {d : Nat} {Q : Option AV → Mem → Prop} {M : Mem}
theorem c_isRow4 {p1 : Int32} (h1 : ∀ r, r < 8 → p1 = nI r → Q (some (zI (nI 1))) M) (h0 : (∀ r, r < 8 → p1 ≠ nI r) → Q (some (zI (nI 0))) M) : wpd (d + 1) 90 [zI p1] M Q := by
  rcases num_or p1 8 with ⟨k, hk, rfl⟩ | hno
  · refine en_X4_isRow _ _ ⟨fun z => absurd z (nI_pos (by omega)), fun _ => ⟨fun z => ?_, fun _ => ⟨z1, h1 k hk rfl⟩⟩⟩
    rw [nle (by omega) (by omega)] at z
    omega
  · exact en_X4_isRow _ _ ⟨fun _ => ⟨z0, h0 hno⟩, fun z => ⟨fun _ => ⟨z0, h0 hno⟩, fun z2 => absurd (num_no (by omega) hno z) z2⟩⟩
theorem c_isRow5 {p1 : Int32} (h1 : ∀ r, r < 8 → p1 = nI r → Q (some (zI (nI 1))) M) (h0 : (∀ r, r < 8 → p1 ≠ nI r) → Q (some (zI (nI 0))) M) : wpd (d + 2) 116 [zI p1] M Q := by
  rcases num_or p1 8 with ⟨k, hk, rfl⟩ | hno
  · exact en_X5_isRow _ _ (c_in (fun _ _ => gO_i ⟨z1, h1 k hk rfl⟩) (fun z => absurd ⟨(nle (by omega) (by omega)).mpr (by omega), (nle (by omega) (by omega)).mpr (by omega)⟩ z))
  · refine en_X5_isRow _ _ (c_in (fun y1 y2 => ?_) (fun _ => gO_i ⟨z0, h0 hno⟩))
    have := num_no (by omega) hno (Int32.not_lt.mpr y1)
    exact absurd (Int32.le_trans this y2) (by decide)
theorem c_begin {r : Nat} {p1 p2 : Int32} (hQ : ∀ M', (∀ k i, ¬ (k = 2 ∧ i = r) → ¬ (k = 3 ∧ i = r) → M' k i = M k i) → M' 2 r 1 = p1 → M' 2 r 2 = p2 → (∀ j, j < 40 → M' 3 r j = nI 0) → Q none M') : wpd (d + 1) 4 [zR 2 r, zI p1, zI p2] M Q := by
  have loop : ∀ (n i : Nat) (M1 : Mem), i + n = 40 → (∀ k i, ¬ (k = 2 ∧ i = r) → ¬ (k = 3 ∧ i = r) → M1 k i = M k i) → M1 2 r 1 = p1 → M1 2 r 2 = p2 → (∀ j, j < i → M1 3 r j = nI 0) → WP (wpd d) 0 T_X1_begin Q (12, [zR 2 r, zU, zU, zI (nI i)], []) M1 := by
    intro n
    induction n with
    | zero =>
      intro i M1 e f1 f2 f3 f4
      have e : i = 40 := by omega
      subst e
      exact cp_X1_begin_12 _ _ _ ⟨fun _ => hQ M1 f1 f2 f3 f4, fun z => absurd ((nle (by omega) (by omega)).mpr (Nat.le_refl _)) z⟩
    | succ n ih =>
      intro i M1 e f1 f2 f3 f4
      refine cp_X1_begin_12 _ _ _ ⟨fun z => ?_, fun _ => ⟨vin_i (by omega) (by omega), ?_⟩⟩
      · rw [nle (by omega) (by omega)] at z
        omega
      · rw [nI_add, ncl (by omega)]
        refine ih (i + 1) _ (by omega) (fun k i y1 y2 => (mup_r y2).trans (f1 k i y1 y2)) (by rw [mup_r (by omega)]; exact f2) (by rw [mup_r (by omega)]; exact f3) (fun j hj => ?_)
        rw [mup_ap]
        by_cases y : j = i
        · rw [if_pos ⟨rfl, rfl, y⟩]
        · rw [if_neg (by omega)]; exact f4 j (by omega)
  refine en_X1_begin _ _ _ _ (loop 40 0 _ (by omega) (fun k i y1 y2 => by rw [mup_r y1, mup_r y1]) ?_ ?_ (fun j hj => absurd hj (by omega)))
  · rw [mup_ap, if_neg (by omega), mup_ap, if_pos ⟨rfl, rfl, rfl⟩]
  · rw [mup_ap, if_pos ⟨rfl, rfl, rfl⟩]
theorem m_row {r : Nat} {p3 : Int32} (hr : r < 8) (hQ : ∀ M', (∀ k i, ¬ (k = 19 ∧ i = 0) → ¬ (k = 16 ∧ i = 0) → M' k i = M k i) → (∀ j, j ≠ 4 → M' 16 0 j = M 16 0 j) → M' 16 0 4 = nI 0 → (∀ j, M' 19 0 j = if 40 * r ≤ j ∧ j < 40 * r + 40 then nI 0 else M 19 0 j) → Q (some (zI p3)) M') : WP (wpd (d + 1)) 1 T_X5_row Q (52, [zR 16 0, zI (nI r), zU, zI p3, zI (nI 0)], []) M := by
  have loop : ∀ (n i : Nat) (M1 : Mem), i + n = 40 → (∀ k i, ¬ (k = 19 ∧ i = 0) → M1 k i = M k i) → (∀ j, M1 19 0 j = if 40 * r ≤ j ∧ j < 40 * r + i then nI 0 else M 19 0 j) → WP (wpd (d + 1)) 1 T_X5_row Q (52, [zR 16 0, zI (nI r), zU, zI p3, zI (nI i)], []) M1 := by
    intro n
    induction n with
    | zero =>
      intro i M1 e f1 f2
      have e : i = 40 := by omega
      subst e
      refine cp_X5_row_52 _ _ _ _ ⟨fun _ => ?_, fun z => absurd ((nle (by omega) (by omega)).mpr (Nat.le_refl _)) z⟩
      refine en_X5_well _ _ (gO_i (hQ _ (fun k i y1 y2 => (mup_r y2).trans (f1 k i y1)) (fun j hj => ?_) ?_ (fun j => ?_)))
      · rw [mup_ap, if_neg (by omega), f1 16 0 (by omega)]
      · rw [mup_ap, if_pos ⟨rfl, rfl, rfl⟩]
      · rw [mup_r (by omega)]; exact f2 j
    | succ n ih =>
      intro i M1 e f1 f2
      refine cp_X5_row_52 _ _ _ _ ⟨fun z => ?_, fun _ => ?_⟩
      · rw [nle (by omega) (by omega)] at z
        omega
      · rw [pk_mul, nI_add, nI_add, ncl (by omega)]
        refine ⟨vin_i (by omega) (by omega), ih (i + 1) _ (by omega) (fun k i y => (mup_r y).trans (f1 k i y)) (fun j => ?_)⟩
        rw [mup_ap]
        by_cases y : j = 40 * r + i
        · rw [if_pos ⟨rfl, rfl, y⟩, if_pos (by omega)]
        · rw [if_neg (by omega), f2 j]
          by_cases u : 40 * r ≤ j ∧ j < 40 * r + i
          · rw [if_pos u, if_pos (by omega)]
          · rw [if_neg u, if_neg (by omega)]
  exact loop 40 0 M (by omega) (fun _ _ _ => rfl) (fun j => by rw [if_neg (by omega)])
end Rw
/-- both answer a finding -/
theorem Inv.find {M : Mem} {v : Int32} (I : Inv M) : Inv (mup (mup M 0 0 8 v) 16 0 4 v) := by
  obtain ⟨h1, h2, h3, h4, h5, h6, h7, h8, h9⟩ := I
  refine ⟨h1.fr (fun r hr => ⟨by rw [mup_r (by omega), mup_r (by omega)], by rw [mup_r (by omega), mup_r (by omega)]⟩) (by rw [mup_r (by omega), mup_r (by omega)]) (by rw [mup_r (by omega), mup_r (by omega)]) (by rw [mup_r (by omega), mup_r (by omega)]), h2.fr (by rw [mup_r (by omega), mup_r (by omega)]) (by rw [mup_ap, if_neg (by omega), mup_r (by omega)]) (by rw [mup_r (by omega), mup_r (by omega)]) (by rw [mup_r (by omega), mup_r (by omega)]), h3.fr (by rw [mup_r (by omega), mup_r (by omega)]) (by rw [mup_ap, if_neg (by omega), mup_r (by omega)]), ?_, h5.fr (by rw [mup_r (by omega), mup_ap, if_neg (by omega)]) (by rw [mup_ap, if_neg (by omega), mup_r (by omega)]) (by rw [mup_r (by omega), mup_r (by omega)]) (by rw [mup_r (by omega), mup_r (by omega)]), h6.fr (fun k _ _ => by rw [mup_r (by omega), mup_r (by omega)]) (by rw [mup_r (by omega), mup_r (by omega)]), h7.fr (fun k i _ _ _ => by rw [mup_r (by omega), mup_r (by omega)]) (by rw [mup_r (by omega), mup_r (by omega)]) (by rw [mup_ap, if_neg (by omega), mup_r (by omega)]) (by rw [mup_r (by omega), mup_r (by omega)]), h8.fr (fun k i _ _ _ _ => by rw [mup_r (by omega), mup_r (by omega)]) (by rw [mup_r (by omega), mup_r (by omega)]) (by rw [mup_r (by omega), mup_r (by omega)]), h9.fr (fun k hk => by rw [mup_k (by omega), mup_k (by omega)])⟩
  show mup (mup M 0 0 8 v) 16 0 4 v 0 0 8 = mup (mup M 0 0 8 v) 16 0 4 v 16 0 4
  rw [mup_ap, if_neg (by omega), mup_ap, if_pos ⟨rfl, rfl, rfl⟩, mup_ap, if_pos ⟨rfl, rfl, rfl⟩]
theorem find_30 {M : Mem} {v : Int32} : ∀ k, 30 ≤ k → mup (mup M 0 0 8 v) 16 0 4 v k = M k := fun k hk => by rw [mup_k (by omega), mup_k (by omega)]
/-- rows: what a change of one row, and of the findings, keeps -/
theorem Inv.rows {M M' : Mem} (I : Inv M) (fr : ∀ k i, k ≠ 2 → k ≠ 3 → k ≠ 17 → k ≠ 18 → k ≠ 19 → k ≠ 20 → ¬ (k = 0 ∧ i = 0) → ¬ (k = 16 ∧ i = 0) → M' k i = M k i) (f0 : ∀ j, j ≠ 8 → M' 0 0 j = M 0 0 j) (f16 : ∀ j, j ≠ 4 → M' 16 0 j = M 16 0 j) (hs : M' 0 0 8 = M' 16 0 4) (hr : IRow M') : Inv M' ∧ ∀ k, 30 ≤ k → M' k = M k := by
  obtain ⟨h1, h2, h3, h4, h5, h6, h7, h8, h9⟩ := I
  have f30 : ∀ k, 30 ≤ k → M' k = M k := fun k hk => funext (fun i => fr k i (by omega) (by omega) (by omega) (by omega) (by omega) (by omega) (by omega) (by omega))
  have G : ∀ k i, k ≠ 2 → k ≠ 3 → k ≠ 17 → k ≠ 18 → k ≠ 19 → k ≠ 20 → k ≠ 0 → k ≠ 16 → M' k i = M k i := fun k i a1 a2 a3 a4 a5 a6 a7 a8 => fr k i a1 a2 a3 a4 a5 a6 (fun z => a7 z.1) (fun z => a8 z.1)
  refine ⟨⟨hr, h2.fr (by rw [G 4 0 (by omega) (by omega) (by omega) (by omega) (by omega) (by omega) (by omega) (by omega)]) (f16 6 (by omega)) (G _ _ (by omega) (by omega) (by omega) (by omega) (by omega) (by omega) (by omega) (by omega)) (G _ _ (by omega) (by omega) (by omega) (by omega) (by omega) (by omega) (by omega) (by omega)), h3.fr (by rw [G 4 0 (by omega) (by omega) (by omega) (by omega) (by omega) (by omega) (by omega) (by omega)]) (f16 7 (by omega)), hs, h5.fr (f0 7 (by omega)) (f16 23 (by omega)) (G _ _ (by omega) (by omega) (by omega) (by omega) (by omega) (by omega) (by omega) (by omega)) (G _ _ (by omega) (by omega) (by omega) (by omega) (by omega) (by omega) (by omega) (by omega)), h6.fr (fun k _ _ => G _ _ (by omega) (by omega) (by omega) (by omega) (by omega) (by omega) (by omega) (by omega)) (G _ _ (by omega) (by omega) (by omega) (by omega) (by omega) (by omega) (by omega) (by omega)), h7.fr (fun k i _ _ _ => G _ _ (by omega) (by omega) (by omega) (by omega) (by omega) (by omega) (by omega) (by omega)) (G _ _ (by omega) (by omega) (by omega) (by omega) (by omega) (by omega) (by omega) (by omega)) (f16 18 (by omega)) (G _ _ (by omega) (by omega) (by omega) (by omega) (by omega) (by omega) (by omega) (by omega)), h8.fr (fun k i _ _ _ _ => G _ _ (by omega) (by omega) (by omega) (by omega) (by omega) (by omega) (by omega) (by omega)) (G _ _ (by omega) (by omega) (by omega) (by omega) (by omega) (by omega) (by omega) (by omega)) (G _ _ (by omega) (by omega) (by omega) (by omega) (by omega) (by omega) (by omega) (by omega)), h9.fr f30⟩, f30⟩
theorem pr_row (p1 p2 p3 : Int32) : PR 54 119 [zR 0 0, zI p1, zI p2, zI p3] [zR 16 0, zI p1, zI p2, zI p3] := by
  intro M I
  have bad5 : (∀ r, r < 8 → p1 ≠ nI r) ∨ (¬ (nI 0 ≤ p2 ∧ p2 ≤ nI 2)) ∨ ¬ p3 ≤ nI 40 → wpd 40 119 [zR 16 0, zI p1, zI p2, zI p3] M (fun r' M2 => gO r' fun v' => (-1000001 : Int32) = v' ∧ Inv M2 ∧ ∀ k, 30 ≤ k → M2 k = M k) := by
    intro hb
    have B : gO (some (zI (-1000001))) fun v' => (-1000001 : Int32) = v' ∧ Inv M ∧ ∀ k, 30 ≤ k → M k = M k := gO_i ⟨rfl, I, fun _ _ => rfl⟩
    refine en_X5_row _ _ _ _ (c_isRow5 (fun r hr e => gTe ?_) (fun _ => gFe B))
    refine c_in (fun y1 y2 => gTe ⟨fun z => ?_, fun _ => B⟩) (fun _ => gFe B)
    rcases hb with h | h | h
    · exact absurd e (h r hr)
    · exact absurd ⟨y1, y2⟩ h
    · exact absurd z h
  refine en_X4_row _ _ _ _ (c_isRow4 (fun r hr e => gTe ?_) (fun h => gFe (gO_i (bad5 (Or.inl h)))))
  refine ⟨fun z => gO_i (bad5 (Or.inr (Or.inl (fun y => Int32.not_le.mpr z y.1)))), fun z => ⟨fun z2 => gO_i (bad5 (Or.inr (Or.inl (fun y => Int32.not_le.mpr z2 y.2)))), fun z2 => ⟨fun z3 => ?_, fun z3 => gO_i (bad5 (Or.inr (Or.inr z3)))⟩⟩⟩
  have q0 : nI 0 ≤ p2 := Int32.not_lt.mp z
  have q2 : p2 ≤ nI 2 := Int32.not_lt.mp z2
  subst e
  rw [ncl (by omega), Nat.zero_add]
  refine ⟨fun y => ⟨vin_i (by omega) (by omega), ?_⟩, fun y => ?_⟩
  · obtain ⟨l, hl, rfl⟩ := nI_of2 (x := p2) (M := nI 2) (n := 2) (by decide) z q2
    obtain ⟨n, hn, rfl⟩ := nI_of2 (x := p3) (M := nI 40) (n := 40) (by decide) (Int32.not_lt.mpr y) z3
    refine c_begin (fun M1 f1 f2 f3 f4 => gN_i (en_X4_foundNothing _ _ (gO_i (gO_i ?_))))
    refine en_X5_row _ _ _ _ (c_isRow5 (fun _ _ _ => gTe ?_) (fun h => absurd rfl (h r hr)))
    refine c_in (fun _ _ => gTe ⟨fun _ => ⟨fun _ => ?_, fun w => absurd y w⟩, fun w => absurd z3 w⟩) (fun w => absurd ⟨q0, q2⟩ w)
    rw [ncl (by omega)]
    refine ⟨vin_i (by omega) (by omega), vin_i (by omega) (by omega), m_row hr (fun M2 g1 g2 g3 g4 => gO_i ⟨rfl, ?_⟩)⟩
    refine I.rows (fun k i a1 a2 a3 a4 a5 a6 a7 a8 => ?_) (fun j hj => ?_) (fun j hj => ?_) ?_ (fun s hs => ?_)
    · rw [g1 k i (by omega) a8, mup_r (by omega), mup_r (by omega), mup_r a7]
      exact f1 k i (by omega) (by omega)
    · rw [g1 0 0 (by omega) (by omega), mup_r (by omega), mup_r (by omega), mup_ap, if_neg (by omega), f1 0 0 (by omega) (by omega)]
    · rw [g2 j hj, mup_r (by omega), mup_r (by omega), mup_r (by omega), f1 16 0 (by omega) (by omega)]
    · rw [g3, g1 0 0 (by omega) (by omega), mup_r (by omega), mup_r (by omega), mup_ap, if_pos ⟨rfl, rfl, rfl⟩]
    · rw [g1 2 s (by omega) (by omega), g1 3 s (by omega) (by omega), g1 17 0 (by omega) (by omega), g1 18 0 (by omega) (by omega)]
      simp only [mup_r (M := mup (mup M1 0 0 8 (nI 0)) 17 0 r (nI l)) (k := 18) (i := 0) (k' := 2) (i' := s) (by omega), mup_r (M := mup (mup M1 0 0 8 (nI 0)) 17 0 r (nI l)) (k := 18) (i := 0) (k' := 3) (i' := s) (by omega), mup_r (M := mup M1 0 0 8 (nI 0)) (k := 17) (i := 0) (k' := 2) (i' := s) (by omega), mup_r (M := mup M1 0 0 8 (nI 0)) (k := 17) (i := 0) (k' := 3) (i' := s) (by omega), mup_r (M := M1) (k := 0) (i := 0) (k' := 2) (i' := s) (by omega), mup_r (M := M1) (k := 0) (i := 0) (k' := 3) (i' := s) (by omega)]
      by_cases es : s = r
      · subst es
        refine Or.inr ⟨l, n, hl, hn, f2, f3, ?_, ?_, fun j hj => ?_⟩
        · rw [mup_ap, if_neg (by omega), mup_ap, if_pos ⟨rfl, rfl, rfl⟩]
        · rw [mup_ap, if_pos ⟨rfl, rfl, rfl⟩]
        · rw [f4 j hj, g4, if_pos (by omega)]
      · rw [f1 2 s (by omega) (by omega), f1 3 s (by omega) (by omega)]
        have e17 : mup (mup (mup M1 0 0 8 (nI 0)) 17 0 r (nI l)) 18 0 r (nI n) 17 0 s = M 17 0 s := by
          rw [mup_ap, if_neg (by omega), mup_ap, if_neg (by omega), mup_r (by omega), f1 17 0 (by omega) (by omega)]
        have e18 : mup (mup (mup M1 0 0 8 (nI 0)) 17 0 r (nI l)) 18 0 r (nI n) 18 0 s = M 18 0 s := by
          rw [mup_ap, if_neg (by omega), mup_r (by omega), mup_r (by omega), f1 18 0 (by omega) (by omega)]
        rw [e17, e18]
        rcases I.1 s hs with w | ⟨l', n', w1, w2, w3, w4, w5, w6, w7⟩
        · exact Or.inl w
        · refine Or.inr ⟨l', n', w1, w2, w3, w4, w5, w6, fun j hj => ?_⟩
          rw [w7 j hj, g4, if_neg (by omega), mup_r (by omega), mup_r (by omega), mup_r (by omega), f1 19 0 (by omega) (by omega)]
  · refine en_X4_found _ _ (gO_i (gO_i ?_))
    refine en_X5_row _ _ _ _ (c_isRow5 (fun _ _ _ => gTe ?_) (fun h => absurd rfl (h r hr)))
    refine c_in (fun _ _ => gTe ⟨fun _ => ⟨fun w => absurd w y, fun _ => ?_⟩, fun w => absurd z3 w⟩) (fun w => absurd ⟨q0, q2⟩ w)
    exact en_X5_found _ _ (gO_i (gO_i ⟨rfl, I.find, find_30⟩))
