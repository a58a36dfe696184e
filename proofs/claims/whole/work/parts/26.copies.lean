/-! COPIES OF TOWNS; small tests; kind, image, restore, undo -/
section Cp
variable {d : Nat} {Q : Option AV → Mem → Prop} {M : Mem}
theorem c_inN {v : Int32} {N : Nat} (hN : N ≤ 100) (h1 : ∀ k, k < N → v = nI k → Q (some (zI (nI 1))) M) (h0 : (∀ k, k < N → v ≠ nI k) → Q (some (zI (nI 0))) M) : wpd (d + 1) 109 [zI v, zI (nI 0), zI (nI N - nI 1)] M Q := by
  refine c_in (fun y1 y2 => ?_) (fun y => h0 (fun k hk e => y ?_))
  · obtain ⟨j, hj, rfl⟩ := nI_of (x := v) (Int32.not_lt.mpr y1)
    by_cases n0 : N = 0
    · subst n0
      have : (nI 0 - nI 1 : Int32) < nI 0 := by decide
      exact absurd (Int32.le_trans y1 y2) (Int32.not_le.mpr this)
    · rw [pk_sub (by omega), nle hj (by omega)] at y2
      exact h1 j (by omega) rfl
  · rw [e, pk_sub (by omega)]
    exact ⟨(nle (by omega) (by omega)).mpr (by omega), (nle (by omega) (by omega)).mpr (by omega)⟩
theorem c_isPlayer5 {p1 : Int32} {N : Nat} (hM : M 22 0 2 = nI N) (hN : N ≤ 6) (h1 : ∀ k, k < N → p1 = nI k → Q (some (zI (nI 1))) M) (h0 : (∀ k, k < N → p1 ≠ nI k) → Q (some (zI (nI 0))) M) : wpd (d + 2) 140 [zR 16 0, zI p1] M Q := by
  refine en_X5_isPlayer _ _ ⟨vin_i (by omega) (by omega), ?_⟩
  rw [hM]
  exact c_inN (by omega) (fun k hk e => gO_i ⟨z1, h1 k hk e⟩) (fun h => gO_i ⟨z0, h0 h⟩)
theorem c_isPlace5 {p1 : Int32} {N : Nat} (hM : M 22 0 1 = nI N) (hN : N ≤ 8) (h1 : ∀ k, k < N → p1 = nI k → Q (some (zI (nI 1))) M) (h0 : (∀ k, k < N → p1 ≠ nI k) → Q (some (zI (nI 0))) M) : wpd (d + 2) 139 [zR 16 0, zI p1] M Q := by
  refine en_X5_isPlace _ _ ⟨vin_i (by omega) (by omega), ?_⟩
  rw [hM]
  exact c_inN (by omega) (fun k hk e => gO_i ⟨z1, h1 k hk e⟩) (fun h => gO_i ⟨z0, h0 h⟩)
theorem c_isTown5 {N : Nat} (hM : M 22 0 1 = nI N) (hN : N ≤ 8) (h1 : 0 < N → Q (some (zI (nI 1))) M) (h0 : N = 0 → Q (some (zI (nI 0))) M) : wpd (d + 1) 138 [zR 16 0] M Q := by
  refine en_X5_isTown _ ⟨vin_i (by omega) (by omega), ?_⟩
  rw [hM, nle (by omega) (by omega)]
  exact ⟨fun z => ⟨z0, h0 (by omega)⟩, fun z => ⟨z1, h1 (by omega)⟩⟩
theorem c_stands {t N : Nat} (hM : M 6 t 5 = nI N) (hN : N ≤ 8) (h1 : 0 < N → Q (some (zI (nI 1))) M) (h0 : N = 0 → Q (some (zI (nI 0))) M) : wpd (d + 1) 24 [zR 6 t] M Q := by
  refine en_X3_stands _ _ ?_
  rw [hM, nle (by omega) (by omega)]
  exact ⟨fun z => ⟨z0, h0 (by omega)⟩, fun z => ⟨z1, h1 (by omega)⟩⟩
theorem c_isEither {p1 : Int32} (h1 : ∀ k, k < 2 → p1 = nI k → Q (some (zI (nI 1))) M) (h0 : (∀ k, k < 2 → p1 ≠ nI k) → Q (some (zI (nI 0))) M) : wpd (d + 1) 92 [zI p1] M Q := by
  refine en_X4_isEither _ _ ?_
  rcases num_or p1 2 with ⟨k, hk, rfl⟩ | hno
  · have h := h1 k hk rfl
    rcases (by omega : k = 0 ∨ k = 1) with rfl | rfl
    · exact ⟨fun _ => ⟨z1, h⟩, fun z => absurd rfl z⟩
    · exact ⟨fun z => absurd z c10, fun _ => ⟨fun z => absurd rfl z, fun _ => ⟨z1, h⟩⟩⟩
  · exact ⟨fun z => absurd z (hno 0 (by omega)), fun _ => ⟨fun _ => ⟨z0, h0 hno⟩, fun z => absurd z (hno 1 (by omega))⟩⟩

theorem c_copies0 (v w : Nat) (hvw : v ≠ w) {a b : Nat} (ha : a + 45 ≤ 45) (hb : b + 45 ≤ 45) (hQ : ∀ M', (∀ k i, ¬ (k = 22 ∧ i = w) → M' k i = M k i) → (∀ j, M' 22 w j = if b ≤ j ∧ j < b + 45 then M 22 v (a + (j - b)) else M 22 w j) → Q none M') : wpd (d + 1) 115 [zR 22 v, zI (nI a), zR 22 w, zI (nI b)] M Q := by
  have loop : ∀ (n i : Nat) (M1 : Mem), i + n = 45 → (∀ k i, ¬ (k = 22 ∧ i = w) → M1 k i = M k i) → (∀ j, M1 22 w j = if b ≤ j ∧ j < b + i then M 22 v (a + (j - b)) else M 22 w j) → WP (wpd d) 0 T_X5_copies Q (3, [zR 22 v, zI (nI a), zR 22 w, zI (nI b), zI (nI i)], []) M1 := by
    intro n
    induction n with
    | zero =>
      intro i M1 e f1 f2
      have e : i = 45 := by omega
      subst e
      exact cp_X5_copies_0_3 _ _ _ _ _ _ ⟨fun _ => hQ M1 f1 f2, fun z => absurd ((nle (by omega) (by omega)).mpr (Nat.le_refl _)) z⟩
    | succ n ih =>
      intro i M1 e f1 f2
      refine cp_X5_copies_0_3 _ _ _ _ _ _ ⟨fun z => ?_, fun _ => ?_⟩
      · rw [nle (by omega) (by omega)] at z
        omega
      · rw [nI_add a i, nI_add b i, nI_add i, ncl (by omega), ncl (by omega), f1 22 v (by omega)]
        refine ⟨vin_i (by omega) (by omega), vin_i (by omega) (by omega), ih (i + 1) _ (by omega) (fun k i y => (mup_r y).trans (f1 k i y)) (fun j => ?_)⟩
        rw [mup_ap]
        by_cases y : j = b + i
        · subst y
          rw [if_pos ⟨rfl, rfl, rfl⟩, if_pos (by omega), show b + i - b = i by omega]
        · rw [if_neg (by omega), f2 j]
          by_cases u : b ≤ j ∧ j < b + i
          · rw [if_pos u, if_pos (by omega)]
          · rw [if_neg u, if_neg (by omega)]
  exact en_X5_copies_0 _ _ _ _ _ (loop 45 0 M (by omega) (fun _ _ _ => rfl) (fun j => by rw [if_neg (by omega)]))

theorem c_copies1 (v : Nat) {a b : Nat} (ha : a + 45 ≤ 45) (hb : b + 45 ≤ 1080) (hQ : ∀ M', (∀ k i, ¬ (k = 25 ∧ i = 0) → M' k i = M k i) → (∀ j, M' 25 0 j = if b ≤ j ∧ j < b + 45 then M 22 v (a + (j - b)) else M 25 0 j) → Q none M') : wpd (d + 1) 115 [zR 22 v, zI (nI a), zR 25 0, zI (nI b)] M Q := by
  have loop : ∀ (n i : Nat) (M1 : Mem), i + n = 45 → (∀ k i, ¬ (k = 25 ∧ i = 0) → M1 k i = M k i) → (∀ j, M1 25 0 j = if b ≤ j ∧ j < b + i then M 22 v (a + (j - b)) else M 25 0 j) → WP (wpd d) 0 T_X5_copies Q (3, [zR 22 v, zI (nI a), zR 25 0, zI (nI b), zI (nI i)], []) M1 := by
    intro n
    induction n with
    | zero =>
      intro i M1 e f1 f2
      have e : i = 45 := by omega
      subst e
      exact cp_X5_copies_1_3 _ _ _ _ _ ⟨fun _ => hQ M1 f1 f2, fun z => absurd ((nle (by omega) (by omega)).mpr (Nat.le_refl _)) z⟩
    | succ n ih =>
      intro i M1 e f1 f2
      refine cp_X5_copies_1_3 _ _ _ _ _ ⟨fun z => ?_, fun _ => ?_⟩
      · rw [nle (by omega) (by omega)] at z
        omega
      · rw [nI_add a i, nI_add b i, nI_add i, ncl (by omega), ncl (by omega), f1 22 v (by omega)]
        refine ⟨vin_i (by omega) (by omega), vin_i (by omega) (by omega), ih (i + 1) _ (by omega) (fun k i y => (mup_r y).trans (f1 k i y)) (fun j => ?_)⟩
        rw [mup_ap]
        by_cases y : j = b + i
        · subst y
          rw [if_pos ⟨rfl, rfl, rfl⟩, if_pos (by omega), show b + i - b = i by omega]
        · rw [if_neg (by omega), f2 j]
          by_cases u : b ≤ j ∧ j < b + i
          · rw [if_pos u, if_pos (by omega)]
          · rw [if_neg u, if_neg (by omega)]
  exact en_X5_copies_1 _ _ _ _ (loop 45 0 M (by omega) (fun _ _ _ => rfl) (fun j => by rw [if_neg (by omega)]))

theorem c_copies2 (w : Nat) {a b : Nat} (ha : a + 45 ≤ 1080) (hb : b + 45 ≤ 45) (hQ : ∀ M', (∀ k i, ¬ (k = 22 ∧ i = w) → M' k i = M k i) → (∀ j, M' 22 w j = if b ≤ j ∧ j < b + 45 then M 25 0 (a + (j - b)) else M 22 w j) → Q none M') : wpd (d + 1) 115 [zR 25 0, zI (nI a), zR 22 w, zI (nI b)] M Q := by
  have loop : ∀ (n i : Nat) (M1 : Mem), i + n = 45 → (∀ k i, ¬ (k = 22 ∧ i = w) → M1 k i = M k i) → (∀ j, M1 22 w j = if b ≤ j ∧ j < b + i then M 25 0 (a + (j - b)) else M 22 w j) → WP (wpd d) 0 T_X5_copies Q (3, [zR 25 0, zI (nI a), zR 22 w, zI (nI b), zI (nI i)], []) M1 := by
    intro n
    induction n with
    | zero =>
      intro i M1 e f1 f2
      have e : i = 45 := by omega
      subst e
      exact cp_X5_copies_2_3 _ _ _ _ _ ⟨fun _ => hQ M1 f1 f2, fun z => absurd ((nle (by omega) (by omega)).mpr (Nat.le_refl _)) z⟩
    | succ n ih =>
      intro i M1 e f1 f2
      refine cp_X5_copies_2_3 _ _ _ _ _ ⟨fun z => ?_, fun _ => ?_⟩
      · rw [nle (by omega) (by omega)] at z
        omega
      · rw [nI_add a i, nI_add b i, nI_add i, ncl (by omega), ncl (by omega), f1 25 0 (by omega)]
        refine ⟨vin_i (by omega) (by omega), vin_i (by omega) (by omega), ih (i + 1) _ (by omega) (fun k i y => (mup_r y).trans (f1 k i y)) (fun j => ?_)⟩
        rw [mup_ap]
        by_cases y : j = b + i
        · subst y
          rw [if_pos ⟨rfl, rfl, rfl⟩, if_pos (by omega), show b + i - b = i by omega]
        · rw [if_neg (by omega), f2 j]
          by_cases u : b ≤ j ∧ j < b + i
          · rw [if_pos u, if_pos (by omega)]
          · rw [if_neg u, if_neg (by omega)]
  exact en_X5_copies_2 _ _ _ _ (loop 45 0 M (by omega) (fun _ _ _ => rfl) (fun j => by rw [if_neg (by omega)]))

theorem c_copies3 (v : Nat) {a b : Nat} (ha : a + 45 ≤ 45) (hb : b + 45 ≤ 90) (hQ : ∀ M', (∀ k i, ¬ (k = 26 ∧ i = 0) → M' k i = M k i) → (∀ j, M' 26 0 j = if b ≤ j ∧ j < b + 45 then M 22 v (a + (j - b)) else M 26 0 j) → Q none M') : wpd (d + 1) 115 [zR 22 v, zI (nI a), zR 26 0, zI (nI b)] M Q := by
  have loop : ∀ (n i : Nat) (M1 : Mem), i + n = 45 → (∀ k i, ¬ (k = 26 ∧ i = 0) → M1 k i = M k i) → (∀ j, M1 26 0 j = if b ≤ j ∧ j < b + i then M 22 v (a + (j - b)) else M 26 0 j) → WP (wpd d) 0 T_X5_copies Q (3, [zR 22 v, zI (nI a), zR 26 0, zI (nI b), zI (nI i)], []) M1 := by
    intro n
    induction n with
    | zero =>
      intro i M1 e f1 f2
      have e : i = 45 := by omega
      subst e
      exact cp_X5_copies_3_3 _ _ _ _ _ ⟨fun _ => hQ M1 f1 f2, fun z => absurd ((nle (by omega) (by omega)).mpr (Nat.le_refl _)) z⟩
    | succ n ih =>
      intro i M1 e f1 f2
      refine cp_X5_copies_3_3 _ _ _ _ _ ⟨fun z => ?_, fun _ => ?_⟩
      · rw [nle (by omega) (by omega)] at z
        omega
      · rw [nI_add a i, nI_add b i, nI_add i, ncl (by omega), ncl (by omega), f1 22 v (by omega)]
        refine ⟨vin_i (by omega) (by omega), vin_i (by omega) (by omega), ih (i + 1) _ (by omega) (fun k i y => (mup_r y).trans (f1 k i y)) (fun j => ?_)⟩
        rw [mup_ap]
        by_cases y : j = b + i
        · subst y
          rw [if_pos ⟨rfl, rfl, rfl⟩, if_pos (by omega), show b + i - b = i by omega]
        · rw [if_neg (by omega), f2 j]
          by_cases u : b ≤ j ∧ j < b + i
          · rw [if_pos u, if_pos (by omega)]
          · rw [if_neg u, if_neg (by omega)]
  exact en_X5_copies_3 _ _ _ _ (loop 45 0 M (by omega) (fun _ _ _ => rfl) (fun j => by rw [if_neg (by omega)]))

theorem c_copies4 (w : Nat) {a b : Nat} (ha : a + 45 ≤ 90) (hb : b + 45 ≤ 45) (hQ : ∀ M', (∀ k i, ¬ (k = 22 ∧ i = w) → M' k i = M k i) → (∀ j, M' 22 w j = if b ≤ j ∧ j < b + 45 then M 26 0 (a + (j - b)) else M 22 w j) → Q none M') : wpd (d + 1) 115 [zR 26 0, zI (nI a), zR 22 w, zI (nI b)] M Q := by
  have loop : ∀ (n i : Nat) (M1 : Mem), i + n = 45 → (∀ k i, ¬ (k = 22 ∧ i = w) → M1 k i = M k i) → (∀ j, M1 22 w j = if b ≤ j ∧ j < b + i then M 26 0 (a + (j - b)) else M 22 w j) → WP (wpd d) 0 T_X5_copies Q (3, [zR 26 0, zI (nI a), zR 22 w, zI (nI b), zI (nI i)], []) M1 := by
    intro n
    induction n with
    | zero =>
      intro i M1 e f1 f2
      have e : i = 45 := by omega
      subst e
      exact cp_X5_copies_4_3 _ _ _ _ _ ⟨fun _ => hQ M1 f1 f2, fun z => absurd ((nle (by omega) (by omega)).mpr (Nat.le_refl _)) z⟩
    | succ n ih =>
      intro i M1 e f1 f2
      refine cp_X5_copies_4_3 _ _ _ _ _ ⟨fun z => ?_, fun _ => ?_⟩
      · rw [nle (by omega) (by omega)] at z
        omega
      · rw [nI_add a i, nI_add b i, nI_add i, ncl (by omega), ncl (by omega), f1 26 0 (by omega)]
        refine ⟨vin_i (by omega) (by omega), vin_i (by omega) (by omega), ih (i + 1) _ (by omega) (fun k i y => (mup_r y).trans (f1 k i y)) (fun j => ?_)⟩
        rw [mup_ap]
        by_cases y : j = b + i
        · subst y
          rw [if_pos ⟨rfl, rfl, rfl⟩, if_pos (by omega), show b + i - b = i by omega]
        · rw [if_neg (by omega), f2 j]
          by_cases u : b ≤ j ∧ j < b + i
          · rw [if_pos u, if_pos (by omega)]
          · rw [if_neg u, if_neg (by omega)]
  exact en_X5_copies_4 _ _ _ _ (loop 45 0 M (by omega) (fun _ _ _ => rfl) (fun j => by rw [if_neg (by omega)]))

theorem c_become {t u : Nat} (hne : t ≠ u) (hQ : ∀ M', (∀ k i, ¬ (6 ≤ k ∧ k ≤ 11 ∧ i = t) → M' k i = M k i) → (∀ j, 5 ≤ j → j ≤ 11 → M' 6 t j = M 6 u j) → (∀ p, p < 8 → M' 7 t p = M 7 u p ∧ M' 8 t p = M 8 u p) → (∀ q, q < 6 → M' 9 t q = M 9 u q ∧ M' 10 t q = M 10 u q ∧ M' 11 t q = M 11 u q) → Q none M') : wpd (d + 1) 29 [zR 6 t, zR 6 u] M Q := by
  have hne2 : ¬ u = t := fun z => hne z.symm
  refine en_X3_become _ _ _ ⟨by decide, by decide, by decide, by decide, by decide, by decide, by decide, by decide, by decide, by decide, by decide, by decide, by decide, by decide, by decide, by decide, by decide, by decide, by decide, by decide, by decide, by decide, by decide, by decide, by decide, ?_⟩
  refine hQ _ (fun k i z => ?_) (fun j h1 h2 => ?_) (fun p hp => ?_) (fun q hq => ?_)
  · rw [mrow_n (by omega), mrow_n (by omega), mrow_n (by omega), mrow_n (by omega), mrow_n (by omega), mup_r (by omega), mup_r (by omega), mup_r (by omega), mup_r (by omega), mup_r (by omega), mup_r (by omega), mup_r (by omega)]
  · rw [mrow_n (by omega), mrow_n (by omega), mrow_n (by omega), mrow_n (by omega), mrow_n (by omega)]
    rcases (by omega : j = 5 ∨ j = 6 ∨ j = 7 ∨ j = 8 ∨ j = 9 ∨ j = 10 ∨ j = 11) with rfl | rfl | rfl | rfl | rfl | rfl | rfl <;> simp [mup_ap, hne2]
  · constructor
    · rw [mrow_n (by omega), mrow_n (by omega), mrow_n (by omega), mrow_n (by omega), mrow_s, pk_cpy_in (by omega) (by omega), Nat.zero_add, Nat.sub_zero]
    · rw [mrow_n (by omega), mrow_n (by omega), mrow_n (by omega), mrow_s, pk_cpy_in (by omega) (by omega), Nat.zero_add, Nat.sub_zero]
  · refine ⟨?_, ?_, ?_⟩
    · rw [mrow_n (by omega), mrow_n (by omega), mrow_s, pk_cpy_in (by omega) (by omega), Nat.zero_add, Nat.sub_zero]
    · rw [mrow_n (by omega), mrow_s, pk_cpy_in (by omega) (by omega), Nat.zero_add, Nat.sub_zero]
    · rw [mrow_s, pk_cpy_in (by omega) (by omega), Nat.zero_add, Nat.sub_zero]
/-- one town becomes another -/
theorem c_becomeT {t u : Nat} {T : Nat → Nat} (hne : t ≠ u) (h : CT M u T) (h8 : T 1 ≤ 8) (h6 : T 2 ≤ 6) (hQ : ∀ M', (∀ k i, ¬ (6 ≤ k ∧ k ≤ 11 ∧ i = t) → M' k i = M k i) → CT M' t T → Q none M') : wpd (d + 1) 29 [zR 6 t, zR 6 u] M Q := by
  refine c_become hne (fun M' f1 f2 f3 f4 => hQ M' f1 ?_)
  obtain ⟨⟨b1, b2, b3, b4, b5, b6, b7, b8⟩, b9⟩ := h
  refine ⟨⟨by rw [f2 5 (by omega) (by omega)]; exact b1, by rw [f2 6 (by omega) (by omega)]; exact b2, by rw [f2 7 (by omega) (by omega)]; exact b3, by rw [f2 9 (by omega) (by omega)]; exact b4, by rw [f2 8 (by omega) (by omega)]; exact b5, fun p hp => by rw [(f3 p (by omega)).1]; exact b6 p hp, fun p hp => by rw [(f3 p hp).2]; exact b7 p hp, fun q hq => ?_⟩, by rw [f2 10 (by omega) (by omega)]; exact b9⟩
  obtain ⟨c1, c2, c3⟩ := f4 q (by omega)
  rw [c1, c2, c3]
  exact b8 q hq
end Cp
theorem okG.b {T : Nat → Nat} (h : okG T) : T 1 ≤ 8 ∧ T 2 ≤ 6 := by
  rcases h with h | h
  · omega
  · exact ⟨h.1.2.2.1, h.1.2.2.2.1⟩
theorem okG.n {T : Nat → Nat} (h : okG T) (hp : 0 < T 1) : okN T := by
  rcases h with h | h
  · omega
  · exact h
theorem pr_kind (p1 : Int32) : PR 84 180 [zR 0 0, zI p1] [zR 16 0, zI p1] := by
  intro M I
  obtain ⟨T, hg, hc, hm⟩ := I.2.2.2.2.2.1
  have hb := hg.b
  rcases num_or p1 (T 2) with ⟨q, hq, rfl⟩ | hno
  · refine en_X4_kind _ _ (c_hasPlayer hc.1.2.1 hb.2 (fun _ _ _ => gTe ⟨vin_i (by omega) (by omega), gO_i ?_⟩) (fun h => absurd rfl (h q hq)))
    refine en_X5_kind _ _ (c_isPlayer5 (hm 2 (by omega)) hb.2 (fun _ _ _ => gTe ?_) (fun h => absurd rfl (h q hq)))
    refine en_X5_kindIn _ _ ?_
    rw [pk_mul, nI_add, ncl (by omega), ncl (by omega), hm _ (by omega), (hc.1.2.2.2.2.2.2.2 q hq).1]
    exact ⟨vin_i (by omega) (by omega), gO_i (gO_i ⟨rfl, I, fun _ _ => rfl⟩)⟩
  · refine en_X4_kind _ _ (c_hasPlayer hc.1.2.1 hb.2 (fun k hk e => absurd e (hno k hk)) (fun _ => gFe (gO_i ?_)))
    exact en_X5_kind _ _ (c_isPlayer5 (hm 2 (by omega)) hb.2 (fun k hk e => absurd e (hno k hk)) (fun _ => gFe (gO_i ⟨rfl, I, fun _ _ => rfl⟩)))
theorem pr_image (p1 : Int32) : PR 82 177 [zR 0 0, zI p1] [zR 16 0, zI p1] := by
  intro M I
  obtain ⟨T, hg, hc, hm⟩ := I.2.2.2.2.2.1
  have hb := hg.b
  have c5 : ∀ {Q : Option AV → Mem → Prop} {M : Mem}, (∀ k, k < 2 → p1 = nI k → Q (some (zI (nI 1))) M) → ((∀ k, k < 2 → p1 ≠ nI k) → Q (some (zI (nI 0))) M) → wpd 39 109 [zI p1, zI (nI 0), zI (nI 1)] M Q := by
    intro Q M h1 h0
    have := c_inN (d := 38) (Q := Q) (M := M) (v := p1) (N := 2) (by omega) h1 h0
    rw [pk_sub (by omega)] at this
    exact this
  rcases num_or p1 2 with ⟨k, hk, rfl⟩ | hno
  · by_cases hp : 0 < T 1
    · have hN := hg.n hp
      refine en_X4_image _ _ (c_isEither (fun _ _ _ => gTn ?_) (fun h => absurd rfl (h k hk)))
      refine c_stands hc.1.1 hb.1 (fun _ => gTn ?_) (fun z => by omega)
      rw [ncl (by omega)]
      refine ⟨vin_i (by omega) (by omega), c_becomeT (by omega) hc hb.1 hb.2 (fun M1 f1 f2 => gN_i (gO_i ?_))⟩
      have hm1 : MT M1 0 T := fun j hj => by rw [f1 22 0 (by omega)]; exact hm j hj
      refine en_X5_image _ _ (c5 (fun _ _ _ => gTn ?_) (fun h => absurd rfl (h k hk)))
      refine c_isTown5 (hm1 1 (by omega)) hb.1 (fun _ => gTn ?_) (fun z => by omega)
      rw [pk_mul]
      refine c_copies3 0 (by omega) (by omega) (fun M2 g1 g2 => gN_i ⟨rfl, vin_i (by omega) (by omega), gO_i ⟨rfl, ?_, fun k hk => ?_⟩⟩)
      · rw [ncl (by omega)]
        obtain ⟨h1, h2, h3, h4, h5, h6, h7, h8, h9⟩ := I
        have F : ∀ k' i', ¬ (6 ≤ k' ∧ k' ≤ 11 ∧ i' = 2 + k) → k' ≠ 26 → k' ≠ 27 → mup M2 27 0 k 1 k' i' = M k' i' := fun k' i' y1 y2 y3 => by rw [mup_r (by omega), g1 k' i' (by omega), f1 k' i' y1]
        refine ⟨h1.fr (fun r hr => ⟨F _ _ (by omega) (by omega) (by omega), F _ _ (by omega) (by omega) (by omega)⟩) (F _ _ (by omega) (by omega) (by omega)) (F _ _ (by omega) (by omega) (by omega)) (F _ _ (by omega) (by omega) (by omega)), h2.fr (by rw [F _ _ (by omega) (by omega) (by omega)]) (by rw [F _ _ (by omega) (by omega) (by omega)]) (F _ _ (by omega) (by omega) (by omega)) (F _ _ (by omega) (by omega) (by omega)), h3.fr (by rw [F _ _ (by omega) (by omega) (by omega)]) (by rw [F _ _ (by omega) (by omega) (by omega)]), h4.fr (by rw [F _ _ (by omega) (by omega) (by omega)]) (by rw [F _ _ (by omega) (by omega) (by omega)]), h5.fr (by rw [F _ _ (by omega) (by omega) (by omega)]) (by rw [F _ _ (by omega) (by omega) (by omega)]) (F _ _ (by omega) (by omega) (by omega)) (F _ _ (by omega) (by omega) (by omega)), h6.fr (fun k' _ _ => F _ _ (by omega) (by omega) (by omega)) (F _ _ (by omega) (by omega) (by omega)), h7.fr (fun k' i' _ _ _ => F _ _ (by omega) (by omega) (by omega)) (F _ _ (by omega) (by omega) (by omega)) (by rw [F _ _ (by omega) (by omega) (by omega)]) (F _ _ (by omega) (by omega) (by omega)), fun s hs => ?_, h9.fr (fun k' hk' => funext (fun i' => F _ _ (by omega) (by omega) (by omega)))⟩
        by_cases es : s = k
        · subst es
          refine Or.inr ⟨T, hN, f2.fr (fun k' y1 y2 => by rw [mup_r (by omega), g1 _ _ (by omega)]), ?_, fun j hj => ?_⟩
          · rw [mup_ap, if_pos ⟨rfl, rfl, rfl⟩]; rfl
          · rw [mup_r (by omega), g2, if_pos (by omega), hm1 _ (by omega), show 0 + (45 * s + j - 45 * s) = j by omega]
        · have e27 : mup M2 27 0 k 1 27 0 s = M 27 0 s := by rw [mup_ap, if_neg (by omega), g1 27 0 (by omega), f1 27 0 (by omega)]
          have e26 : ∀ j, j < 45 → mup M2 27 0 k 1 26 0 (45 * s + j) = M 26 0 (45 * s + j) := fun j hj => by rw [mup_r (by omega), g2, if_neg (by omega), f1 26 0 (by omega)]
          rw [e27, F 6 (2 + s) (by omega) (by omega) (by omega)]
          rcases h8 s hs with y | ⟨T', y1, y2, y3, y4⟩
          · exact Or.inl y
          · exact Or.inr ⟨T', y1, y2.fr (fun k' a1 a2 => F _ _ (by omega) (by omega) (by omega)), y3, fun j hj => by rw [e26 j hj]; exact y4 j hj⟩
      · rw [mup_k (by omega)]
        funext i
        rw [g1 _ _ (by omega), f1 _ _ (by omega)]
    · have h0 : T 1 = 0 := by omega
      refine en_X4_image _ _ (c_isEither (fun _ _ _ => gTn ?_) (fun h => absurd rfl (h k hk)))
      refine c_stands hc.1.1 hb.1 (fun z => by omega) (fun _ => gFn (gO_i ?_))
      refine en_X5_image _ _ (c5 (fun _ _ _ => gTn ?_) (fun h => absurd rfl (h k hk)))
      exact c_isTown5 (hm 1 (by omega)) hb.1 (fun z => by omega) (fun _ => gFn (gO_i ⟨rfl, I, fun _ _ => rfl⟩))
  · refine en_X4_image _ _ (c_isEither (fun k hk e => absurd e (hno k hk)) (fun _ => gFn (gO_i ?_)))
    exact en_X5_image _ _ (c5 (fun k hk e => absurd e (hno k hk)) (fun _ => gFn (gO_i ⟨rfl, I, fun _ _ => rfl⟩)))

