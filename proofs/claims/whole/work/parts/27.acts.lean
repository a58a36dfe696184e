/-! ACTS: what is kept of the past, on both sides -/
def CA (M : Mem) (n s : Nat) (H : Nat → Nat → Nat) : Prop := M 13 0 1 = nI s ∧ M 13 0 2 = nI n ∧ ∀ i, i < n → CT M (4 + (s + 24 - n + i) % 24) (H i)
def MA (M : Mem) (n : Nat) (H : Nat → Nat → Nat) : Prop := M 16 0 18 = nI n ∧ ∀ i, i < n → ∀ j, j < 45 → M 25 0 (45 * i + j) = nI (H i j)
def pn (n : Nat) : Nat := min 24 (n + 1)
def pH (n : Nat) (H : Nat → Nat → Nat) (T : Nat → Nat) : Nat → Nat → Nat := fun i => if n < 24 then (if i = n then T else H i) else (if i = 23 then T else H (i + 1))
theorem IActs.cm {M : Mem} (h : IActs M) : ∃ (n s : Nat) (H : Nat → Nat → Nat), n ≤ 24 ∧ s < 24 ∧ (∀ i, i < n → okN (H i)) ∧ CA M n s H ∧ MA M n H := by
  obtain ⟨n, s, H, h1, h2, h3, h4, h5, h6⟩ := h
  exact ⟨n, s, H, h1, h2, fun i hi => (h6 i hi).1, ⟨h3, h4, fun i hi => (h6 i hi).2.1⟩, ⟨h5, fun i hi => (h6 i hi).2.2⟩⟩
theorem IActs.mk {M : Mem} {n s : Nat} {H : Nat → Nat → Nat} (h1 : n ≤ 24) (h2 : s < 24) (h3 : ∀ i, i < n → okN (H i)) (h4 : CA M n s H) (h5 : MA M n H) : IActs M :=
  ⟨n, s, H, h1, h2, h4.1, h4.2.1, h5.1, fun i hi => ⟨h3 i hi, h4.2.2 i hi, h5.2 i hi⟩⟩
theorem pn_le (n : Nat) : pn n ≤ 24 := Nat.min_le_left _ _
theorem pH_ok {n : Nat} {H : Nat → Nat → Nat} {T : Nat → Nat} (hn : n ≤ 24) (h : ∀ i, i < n → okN (H i)) (hT : okN T) : ∀ i, i < pn n → okN (pH n H T i) := by
  intro i hi
  unfold pn at hi
  unfold pH
  split
  · split
    · exact hT
    · exact h i (by omega)
  · split
    · exact hT
    · exact h (i + 1) (by omega)
theorem CA.fr {M M' : Mem} {n s : Nat} {H : Nat → Nat → Nat} (h : CA M n s H) (a : M' 13 0 = M 13 0) (b : ∀ k i, 6 ≤ k → k ≤ 11 → 4 ≤ i → M' k i = M k i) : CA M' n s H :=
  ⟨by rw [a]; exact h.1, by rw [a]; exact h.2.1, fun i hi => (h.2.2 i hi).fr (fun k y1 y2 => b k _ y1 y2 (by omega))⟩
theorem MA.fr {M M' : Mem} {n : Nat} {H : Nat → Nat → Nat} (h : MA M n H) (a : M' 16 0 18 = M 16 0 18) (b : M' 25 0 = M 25 0) : MA M' n H :=
  ⟨by rw [a]; exact h.1, fun i hi j hj => by rw [b]; exact h.2 i hi j hj⟩
section Ac
variable {d : Nat} {Q : Option AV → Mem → Prop} {M : Mem} {n s : Nat} {H : Nat → Nat → Nat} {T : Nat → Nat}
theorem c_keep (h : CA M n s H) (hn : n ≤ 24) (hs : s < 24) (hT : CT M 0 T) (h8 : T 1 ≤ 8) (h6 : T 2 ≤ 6) (hQ : ∀ M', (∀ k i, ¬ (6 ≤ k ∧ k ≤ 11 ∧ 4 ≤ i) → ¬ (k = 13 ∧ i = 0) → M' k i = M k i) → CA M' (pn n) ((s + 1) % 24) (pH n H T) → Q none M') : wpd (d + 2) 0 [zR 13 0, zR 6 0] M Q := by
  refine en_X0_keep _ _ ?_
  rw [h.1, ncl (by omega)]
  refine ⟨vin_i (by omega) (by omega), c_becomeT (by omega) hT h8 h6 (fun M1 f1 f2 => gN_i ⟨by decide, ?_⟩)⟩
  rw [f1 13 0 (by omega), h.1, h.2.1, nI_add, nI_add, pk_rem (by omega) (by omega) (by omega)]
  have emin : (if (nI (n + 1) : Int32) < nI 24 then nI (n + 1) else nI 24) = nI (pn n) := by
    rw [min_if (by omega) (by omega)]
    unfold pn
    rw [Nat.min_comm]
  rw [emin]
  refine hQ _ (fun k i y1 y2 => by rw [mup_r y2, mup_r y2]; exact f1 k i (by omega)) ⟨?_, ?_, fun i hi => ?_⟩
  · rw [mup_ap, if_neg (by omega), mup_ap, if_pos ⟨rfl, rfl, rfl⟩]
  · rw [mup_ap, if_pos ⟨rfl, rfl, rfl⟩]
  · have fr : ∀ {t : Nat} {X : Nat → Nat}, CT M1 t X → CT (mup (mup M1 13 0 1 (nI ((s + 1) % 24))) 13 0 2 (nI (pn n))) t X := fun y => y.fr (fun k _ _ => by rw [mup_r (by omega), mup_r (by omega)])
    refine fr ?_
    unfold pn at hi
    unfold pH pn
    by_cases hl : n < 24
    · rw [Nat.min_eq_right (by omega)] at hi ⊢
      rw [if_pos hl]
      by_cases e : i = n
      · rw [if_pos e, show ((s + 1) % 24 + 24 - (n + 1) + i) % 24 = s by omega]
        exact f2
      · rw [if_neg e, show ((s + 1) % 24 + 24 - (n + 1) + i) % 24 = (s + 24 - n + i) % 24 by omega]
        exact (h.2.2 i (by omega)).fr (fun k y1 y2 => f1 k _ (by omega))
    · rw [Nat.min_eq_left (by omega)] at hi ⊢
      rw [if_neg hl]
      have hn24 : n = 24 := by omega
      by_cases e : i = 23
      · rw [if_pos e, show ((s + 1) % 24 + 24 - 24 + i) % 24 = s by omega]
        exact f2
      · rw [if_neg e, show ((s + 1) % 24 + 24 - 24 + i) % 24 = (s + 24 - n + (i + 1)) % 24 by omega]
        exact (h.2.2 (i + 1) (by omega)).fr (fun k y1 y2 => f1 k _ (by omega))
theorem m_notes (h : MA M n H) (hn : n ≤ 24) (hT : MT M 0 T) (hQ : ∀ M', (∀ k i, ¬ (k = 25 ∧ i = 0) → ¬ (k = 16 ∧ i = 0) → M' k i = M k i) → (∀ j, j ≠ 18 → M' 16 0 j = M 16 0 j) → MA M' (pn n) (pH n H T) → Q none M') : wpd (d + 2) 151 [zR 16 0] M Q := by
  have fin : ∀ (M1 : Mem) (m : Nat) (H1 : Nat → Nat → Nat), m < 24 → m + 1 = pn n → (∀ k i, ¬ (k = 25 ∧ i = 0) → ¬ (k = 16 ∧ i = 0) → M1 k i = M k i) → (∀ j, j ≠ 18 → M1 16 0 j = M 16 0 j) → MA M1 m H1 → (∀ i, i < m → pH n H T i = H1 i) → pH n H T m = T → wpd (d + 1) 115 [zR 22 0, zI (nI 0), zR 25 0, zI (nI (45 * m))] M1 (fun r1 M2 => gN r1 (Q none (mup M2 16 0 18 (M2 16 0 18 + nI 1)))) := by
    intro M1 m H1 hm e f1 f2 f3 f4 f5
    refine c_copies1 0 (by omega) (by omega) (fun M2 g1 g2 => gN_i ?_)
    rw [g1 16 0 (by omega), f3.1, nI_add]
    refine hQ _ (fun k i y1 y2 => by rw [mup_r y2, g1 k i y1]; exact f1 k i y1 y2) (fun j hj => ?_) ⟨?_, fun i hi j hj => ?_⟩
    · rw [mup_ap, if_neg (by omega), g1 16 0 (by omega)]; exact f2 j hj
    · rw [mup_ap, if_pos ⟨rfl, rfl, rfl⟩, e]
    · rw [mup_r (by omega), g2]
      by_cases u : i = m
      · subst u
        rw [if_pos (by omega), f5, f1 22 0 (by omega) (by omega), hT _ (by omega), show 0 + (45 * i + j - 45 * i) = j by omega]
      · rw [if_neg (by omega), f4 i (by omega)]
        exact f3.2 i (by omega) j hj
  refine en_X5_notes _ ⟨fun z => ?_, fun z => ?_⟩
  · have hn2 : n < 24 := by
      rcases Nat.lt_or_ge n 24 with y | y
      · exact y
      · exact absurd (by rw [h.1]; congr 1; omega) z
    rw [h.1, pk_mul]
    refine fin M n H hn2 ?_ (fun _ _ _ _ => rfl) (fun _ _ => rfl) h (fun i hi => ?_) ?_
    · unfold pn; omega
    · unfold pH; rw [if_pos hn2, if_neg (by omega)]
    · unfold pH; rw [if_pos hn2, if_pos rfl]
  · have hn2 : n = 24 := by
      rw [h.1] at z
      exact (neq (by omega) (by omega)).mp z
    subst hn2
    have loop : ∀ (r i : Nat) (M1 : Mem), i + r = 1035 → (∀ k i, ¬ (k = 25 ∧ i = 0) → M1 k i = M k i) → (∀ j, M1 25 0 j = if j < i then M 25 0 (j + 45) else M 25 0 j) → WP (wpd (d + 1)) 0 T_X5_notes Q (11, [zR 16 0, zI (nI i)], []) M1 := by
      intro r
      induction r with
      | zero =>
        intro i M1 e f1 f2
        have e : i = 1035 := by omega
        subst e
        refine cp_X5_notes_11 _ _ ⟨fun _ => ?_, fun z => absurd ((nle (by omega) (by omega)).mpr (Nat.le_refl _)) z⟩
        rw [f1 16 0 (by omega), h.1, pk_sub (by omega), pk_mul]
        refine fin _ 23 (fun i => H (i + 1)) (by omega) rfl (fun k i y1 y2 => by rw [mup_r y2]; exact f1 k i y1) (fun j hj => by rw [mup_ap, if_neg (by omega), f1 16 0 (by omega)]) ⟨?_, fun i hi j hj => ?_⟩ (fun i hi => ?_) ?_
        · rw [mup_ap, if_pos ⟨rfl, rfl, rfl⟩]
        · rw [mup_r (by omega), f2, if_pos (by omega), show 45 * i + j + 45 = 45 * (i + 1) + j by omega]
          exact h.2 (i + 1) (by omega) j hj
        · unfold pH; rw [if_neg (by omega), if_neg (by omega)]
        · unfold pH; rw [if_neg (by omega), if_pos rfl]
      | succ r ih =>
        intro i M1 e f1 f2
        refine cp_X5_notes_11 _ _ ⟨fun z => ?_, fun _ => ?_⟩
        · rw [nle (by omega) (by omega)] at z
          omega
        · rw [nI_add i 45, nI_add i 1, ncl (by omega), ncl (by omega)]
          refine ⟨vin_i (by omega) (by omega), vin_i (by omega) (by omega), ih (i + 1) _ (by omega) (fun k i y => (mup_r y).trans (f1 k i y)) (fun j => ?_)⟩
          have e45 : M1 25 0 (i + 45) = M 25 0 (i + 45) := by rw [f2, if_neg (by omega)]
          rw [e45, mup_ap]
          by_cases u : j = i
          · subst u
            rw [if_pos ⟨rfl, rfl, rfl⟩, if_pos (by omega)]
          · rw [if_neg (by omega), f2 j]
            by_cases v : j < i
            · rw [if_pos v, if_pos (by omega)]
            · rw [if_neg v, if_neg (by omega)]
    exact loop 1035 0 M (by omega) (fun _ _ _ => rfl) (fun j => by rw [if_neg (by omega)])
end Ac
/-- a change of the town that is now, and of the past, keeps the rest -/
theorem Inv.act {M M' : Mem} (I : Inv M) (fr : ∀ k i, ¬ (6 ≤ k ∧ k ≤ 11 ∧ (i = 0 ∨ i = 1 ∨ 4 ≤ i)) → ¬ (k = 13 ∧ i = 0) → ¬ (k = 22) → ¬ (k = 25 ∧ i = 0) → ¬ (k = 28) → ¬ (k = 16 ∧ i = 0) → M' k i = M k i) (f16 : ∀ j, j ≠ 18 → M' 16 0 j = M 16 0 j) (ht : ITown M') (ha : IActs M') : Inv M' ∧ ∀ k, 30 ≤ k → M' k = M k := by
  obtain ⟨h1, h2, h3, h4, h5, h6, h7, h8, h9⟩ := I
  have f30 : ∀ k, 30 ≤ k → M' k = M k := fun k hk => funext (fun i => fr k i (by omega) (by omega) (by omega) (by omega) (by omega) (by omega))
  refine ⟨⟨h1.fr (fun r hr => ⟨fr _ _ (by omega) (by omega) (by omega) (by omega) (by omega) (by omega), fr _ _ (by omega) (by omega) (by omega) (by omega) (by omega) (by omega)⟩) (fr _ _ (by omega) (by omega) (by omega) (by omega) (by omega) (by omega)) (fr _ _ (by omega) (by omega) (by omega) (by omega) (by omega) (by omega)) (fr _ _ (by omega) (by omega) (by omega) (by omega) (by omega) (by omega)), h2.fr (by rw [fr 4 0 (by omega) (by omega) (by omega) (by omega) (by omega) (by omega)]) (f16 6 (by omega)) (fr _ _ (by omega) (by omega) (by omega) (by omega) (by omega) (by omega)) (fr _ _ (by omega) (by omega) (by omega) (by omega) (by omega) (by omega)), h3.fr (by rw [fr 4 0 (by omega) (by omega) (by omega) (by omega) (by omega) (by omega)]) (f16 7 (by omega)), h4.fr (by rw [fr 0 0 (by omega) (by omega) (by omega) (by omega) (by omega) (by omega)]) (f16 4 (by omega)), h5.fr (by rw [fr 0 0 (by omega) (by omega) (by omega) (by omega) (by omega) (by omega)]) (f16 23 (by omega)) (fr _ _ (by omega) (by omega) (by omega) (by omega) (by omega) (by omega)) (fr _ _ (by omega) (by omega) (by omega) (by omega) (by omega) (by omega)), ht, ha, h8.fr (fun k i _ _ _ _ => fr _ _ (by omega) (by omega) (by omega) (by omega) (by omega) (by omega)) (fr _ _ (by omega) (by omega) (by omega) (by omega) (by omega) (by omega)) (fr _ _ (by omega) (by omega) (by omega) (by omega) (by omega) (by omega)), h9.fr f30⟩, f30⟩
