/-! ROWS: set, drop; the tape: feed -/
theorem ne_m1 {l : Nat} (h : l < 2147483648) : ¬ (nI l : Int32) = -1 := fun z => by
  have : (-1 : Int32) < 0 := by decide
  rw [← z] at this
  exact nI_pos h this
theorem ne_no {l : Nat} (h : l < 2147483648) : ¬ (nI l : Int32) = -1000000 := fun z => by
  have : (-1000000 : Int32) < 0 := by decide
  rw [← z] at this
  exact nI_pos h this
section Rw2
variable {d : Nat} {Q : Option AV → Mem → Prop} {M : Mem}
theorem c_miss4 {r : Nat} (h1 : M 2 r 1 = -1 → Q (some (zI (nI 1))) M) (h0 : ¬ M 2 r 1 = -1 → Q (some (zI (nI 0))) M) : wpd (d + 1) 3 [zR 2 r] M Q :=
  en_X1_isMissing _ _ ⟨fun z => ⟨z0, h0 z⟩, fun z => ⟨z1, h1 z⟩⟩
theorem c_miss5 {r : Nat} (hr : r < 8) (h1 : M 17 0 r = -1000000 → Q (some (zI (nI 1))) M) (h0 : ¬ M 17 0 r = -1000000 → Q (some (zI (nI 0))) M) : wpd (d + 1) 117 [zR 16 0, zI (nI r)] M Q := by
  refine en_X5_isMissing _ _ ⟨vin_i (by omega) (by omega), ?_⟩
  rw [ncl (by omega)]
  exact ⟨fun z => ⟨z0, h0 z⟩, fun z => ⟨z1, h1 z⟩⟩
theorem c_hasItems {r n : Nat} {p1 p2 : Int32} (hl : M 2 r 2 = nI n) (hn : n ≤ 40) (h1 : ∀ a b : Nat, p1 = nI a → p2 = nI b → a + b ≤ n → Q (some (zI (nI 1))) M) (h0 : (∀ a b : Nat, p1 = nI a → p2 = nI b → ¬ a + b ≤ n) → Q (some (zI (nI 0))) M) : wpd (d + 1) 6 [zR 2 r, zI p1, zI p2] M Q := by
  by_cases h : ∃ a b : Nat, p1 = nI a ∧ p2 = nI b ∧ a + b ≤ n
  · obtain ⟨a, b, rfl, rfl, hab⟩ := h
    refine en_X1_hasItems _ _ _ _ ?_
    rw [hl]
    refine ⟨fun z => absurd z (nI_pos (by omega)), fun _ => ⟨fun z => absurd z (nI_pos (by omega)), fun _ => ⟨fun z => ?_, fun _ => ?_⟩⟩⟩
    · rw [nlt (by omega) (by omega)] at z
      omega
    · rw [pk_sub (by omega)]
      refine ⟨fun z => ?_, fun _ => ⟨z1, h1 a b rfl rfl hab⟩⟩
      rw [nlt (by omega) (by omega)] at z
      omega
  · have hno : ∀ a b : Nat, p1 = nI a → p2 = nI b → ¬ a + b ≤ n := fun a b e1 e2 e3 => h ⟨a, b, e1, e2, e3⟩
    refine en_X1_hasItems _ _ _ _ ⟨fun _ => ⟨z0, h0 hno⟩, fun z => ⟨fun _ => ⟨z0, h0 hno⟩, fun z2 => ⟨fun _ => ⟨z0, h0 hno⟩, fun z3 => ⟨fun _ => ⟨z0, h0 hno⟩, fun z4 => ?_⟩⟩⟩⟩
    exfalso
    obtain ⟨a, ha, rfl⟩ := nI_of (x := p1) z
    obtain ⟨b, hb, rfl⟩ := nI_of (x := p2) z2
    rw [hl, nlt (by omega) hb] at z3
    rw [hl, pk_sub (by omega), nlt (by omega) ha] at z4
    exact hno a b rfl rfl (by omega)
theorem c_narrowed {r l : Nat} {v : Int32} (hl : M 2 r 1 = nI l) (h2 : l ≤ 2) (h : Q (some (zI (if l = 0 then v.toInt8.toInt32 else if l = 1 then v.toInt16.toInt32 else v))) M) : wpd (d + 1) 7 [zR 2 r, zI v] M Q := by
  refine en_X1_narrowed _ _ _ ?_
  rw [hl]
  refine ⟨fun z => ?_, fun z => ⟨fun z2 => ?_, fun z2 => ?_⟩⟩
  · rw [if_pos ((neq (by omega) (by omega)).mp z)] at h; exact h
  · have z2 := (neq (by omega) (by omega)).mp z2
    rw [if_neg (by omega), if_pos z2] at h; exact h
  · rw [if_neg (fun y => z (by rw [y])), if_neg (fun y => z2 (by rw [y]))] at h; exact h
theorem c_cut {l : Nat} {v : Int32} (h2 : l ≤ 2) (h : Q (some (zI (if l = 0 then v.toInt8.toInt32 else if l = 1 then v.toInt16.toInt32 else v))) M) : wpd (d + 1) 118 [zI (nI l), zI v] M Q := by
  refine en_X5_cut _ _ _ ?_
  rw [cut8, cut16]
  refine ⟨fun z => ⟨fun z2 => ?_, fun z2 => ?_⟩, fun z => ?_⟩
  · rw [if_neg (fun y => z (by rw [y])), if_neg (fun y => z2 (by rw [y]))] at h; exact h
  · have z2 := (neq (by omega) (by omega)).mp z2
    rw [if_neg (by omega), if_pos z2] at h; exact h
  · rw [if_pos ((neq (by omega) (by omega)).mp z)] at h; exact h
end Rw2
theorem pr_drop (p1 : Int32) : PR 57 123 [zR 0 0, zI p1] [zR 16 0, zI p1] := by
  intro M I
  rcases num_or p1 8 with ⟨r, hr, rfl⟩ | hno
  · rcases I.1 r hr with ⟨m4, m5⟩ | ⟨l, n, w1, w2, w3, w4, w5, w6, w7⟩
    · refine en_X4_drop _ _ (c_isRow4 (fun _ _ _ => gTn ?_) (fun h => absurd rfl (h r hr)))
      rw [ncl (by omega), Nat.zero_add]
      refine ⟨vin_i (by omega) (by omega), c_miss4 (fun _ => gTe ?_) (fun z => absurd m4 z)⟩
      refine en_X4_found _ _ (gO_i (gO_i ?_))
      refine en_X5_drop _ _ (c_isRow5 (fun _ _ _ => gTn ?_) (fun h => absurd rfl (h r hr)))
      refine c_miss5 hr (fun _ => gTe ?_) (fun z => absurd (by rw [mup_r (by omega)]; exact m5) z)
      exact en_X5_found _ _ (gO_i (gO_i ⟨rfl, I.find, find_30⟩))
    · refine en_X4_drop _ _ (c_isRow4 (fun _ _ _ => gTn ?_) (fun h => absurd rfl (h r hr)))
      rw [ncl (by omega), Nat.zero_add]
      refine ⟨vin_i (by omega) (by omega), c_miss4 (fun z => absurd (w3 ▸ z) (ne_m1 (by omega))) (fun _ => gFe ?_)⟩
      rw [w4]
      refine en_X1_end _ _ (gN_i (en_X4_foundNothing _ _ (gO_i (gO_i ?_))))
      refine en_X5_drop _ _ (c_isRow5 (fun _ _ _ => gTn ?_) (fun h => absurd rfl (h r hr)))
      refine c_miss5 hr (fun z => ?_) (fun _ => gFe ?_)
      · rw [mup_r (by omega), mup_r (by omega), mup_r (by omega), w5] at z
        exact absurd z (ne_no (by omega))
      · rw [ncl (by omega), mup_r (by omega), mup_r (by omega), mup_r (by omega), w6]
        refine ⟨vin_i (by omega) (by omega), vin_i (by omega) (by omega), en_X5_well _ _ (gO_i (gO_i ⟨rfl, ?_⟩))⟩
        refine I.rows (fun k i a1 a2 a3 a4 a5 a6 a7 a8 => ?_) (fun j hj => ?_) (fun j hj => ?_) ?_ (fun s hs => ?_)
        · rw [mup_r a8, mup_r (by omega), mup_r a7, mup_r (by omega), mup_r (by omega)]
        · rw [mup_r (by omega), mup_r (by omega), mup_ap, if_neg (by omega), mup_r (by omega), mup_r (by omega)]
        · rw [mup_ap, if_neg (by omega), mup_r (by omega), mup_r (by omega), mup_r (by omega), mup_r (by omega)]
        · rw [mup_r (by omega), mup_r (by omega), mup_ap, if_pos ⟨rfl, rfl, rfl⟩, mup_ap, if_pos ⟨rfl, rfl, rfl⟩]
        · by_cases es : s = r
          · subst es
            refine Or.inl ⟨?_, ?_⟩
            · rw [mup_r (by omega), mup_r (by omega), mup_r (by omega), mup_ap, if_neg (by omega), mup_ap, if_pos ⟨rfl, rfl, rfl⟩]
            · rw [mup_r (by omega), mup_ap, if_pos ⟨rfl, rfl, rfl⟩]
          · rw [mup_r (k' := 2) (i' := s) (by omega), mup_r (k' := 2) (i' := s) (by omega), mup_r (k' := 2) (i' := s) (by omega), mup_r (k' := 2) (i' := s) (by omega), mup_r (k' := 2) (i' := s) (by omega), mup_r (k' := 3) (i' := s) (by omega), mup_r (k' := 3) (i' := s) (by omega), mup_r (k' := 3) (i' := s) (by omega), mup_r (k' := 3) (i' := s) (by omega), mup_r (k' := 3) (i' := s) (by omega), mup_r (k := 16) (i := 0) (k' := 17) (i' := 0) (by omega), mup_ap _ 17 0 r _ 17 0 s, if_neg (by omega), mup_r (k' := 17) (by omega), mup_r (k' := 17) (by omega), mup_r (k' := 17) (by omega), mup_r (k' := 18) (by omega), mup_r (k' := 18) (by omega), mup_r (k' := 18) (by omega), mup_r (k' := 18) (by omega), mup_r (k' := 18) (by omega), mup_r (k' := 19) (by omega), mup_r (k' := 19) (by omega), mup_r (k' := 19) (by omega), mup_r (k' := 19) (by omega), mup_r (k' := 19) (by omega)]
            exact I.1 s hs
  · refine en_X4_drop _ _ (c_isRow4 (fun r hr e => absurd e (hno r hr)) (fun _ => gFn (gO_i ?_)))
    exact en_X5_drop _ _ (c_isRow5 (fun r hr e => absurd e (hno r hr)) (fun _ => gFn (gO_i ⟨rfl, I, fun _ _ => rfl⟩)))
theorem pr_feed (p1 : Int32) : PR 58 124 [zR 0 0, zI p1] [zR 16 0, zI p1] := by
  intro M I
  obtain ⟨n, hn, e1, e2, e3⟩ := I.2.1
  have bad : ¬ (nI 0 ≤ p1 ∧ p1 ≤ nI 255) → wpd 40 124 [zR 16 0, zI p1] M (fun r' M2 => gO r' fun v' => (-1000001 : Int32) = v' ∧ Inv M2 ∧ ∀ k, 30 ≤ k → M2 k = M k) := fun h =>
    en_X5_feed _ _ (c_in (fun y1 y2 => absurd ⟨y1, y2⟩ h) (fun _ => gFn (gO_i ⟨rfl, I, fun _ _ => rfl⟩)))
  refine en_X4_feed _ _ ⟨fun z => gO_i (bad (fun y => Int32.not_le.mpr z y.1)), fun z => ⟨fun z2 => ?_, fun z2 => gO_i (bad (fun y => z2 y.2))⟩⟩
  obtain ⟨b, hb, rfl⟩ := nI_of2 (x := p1) (M := nI 255) (n := 255) (by decide) z z2
  refine en_X2_isFull _ ?_
  rw [e1]
  refine ⟨fun y => ⟨z0, gFe ?_⟩, fun y => ⟨z1, gTe (gO_i ?_)⟩⟩
  · rw [nlt (by omega) (by omega)] at y
    refine en_X2_add _ _ ?_
    rw [e1, ncl (by omega), nI_add]
    refine ⟨vin_i (by omega) (by omega), gO_i (gO_i ?_)⟩
    refine en_X5_feed _ _ (c_in (fun _ _ => gTn ?_) (fun w => absurd ⟨Int32.not_lt.mp z, z2⟩ w))
    rw [mup_r (by omega), mup_r (by omega), e2, ncl (by omega), nI_add]
    refine ⟨fun _ => ⟨vin_i (by omega) (by omega), gO_i ⟨rfl, ?_, fun k hk => by rw [mup_k (by omega), mup_k (by omega), mup_k (by omega), mup_k (by omega)]⟩⟩, fun w => ?_⟩
    · obtain ⟨h1, h2, h3, h4, h5, h6, h7, h8, h9⟩ := I
      refine ⟨h1.fr (fun r hr => ⟨?_, ?_⟩) ?_ ?_ ?_, ⟨n + 1, by omega, ?_, ?_, fun j hj => ?_⟩, h3.fr ?_ ?_, h4.fr ?_ ?_, h5.fr ?_ ?_ ?_ ?_, h6.fr (fun k _ _ => ?_) ?_, h7.fr (fun k i _ _ _ => ?_) ?_ ?_ ?_, h8.fr (fun k i _ _ _ _ => ?_) ?_ ?_, h9.fr (fun k hk => by rw [mup_k (by omega), mup_k (by omega), mup_k (by omega), mup_k (by omega)])⟩
      all_goals first
        | (rw [mup_r (by omega), mup_r (by omega), mup_r (by omega), mup_r (by omega)]; done)
        | (rw [mup_ap, if_neg (by omega), mup_r (by omega), mup_r (by omega), mup_r (by omega)]; done)
        | (rw [mup_r (by omega), mup_r (by omega), mup_ap, if_neg (by omega), mup_r (by omega)]; done)
        | skip
      · rw [mup_r (by omega), mup_r (by omega), mup_ap, if_pos ⟨rfl, rfl, rfl⟩]
      · rw [mup_ap, if_pos ⟨rfl, rfl, rfl⟩]
      · have a5 : mup (mup (mup (mup M 5 0 n (nI b)) 4 0 1 (nI (n + 1))) 21 0 n (nI b)) 16 0 6 (nI (n + 1)) 5 0 j = if j = n then nI b else M 5 0 j := by
          rw [mup_r (by omega), mup_r (by omega), mup_r (by omega), mup_ap]
          by_cases u : j = n
          · rw [if_pos ⟨rfl, rfl, u⟩, if_pos u]
          · rw [if_neg (by omega), if_neg u]
        have a21 : mup (mup (mup (mup M 5 0 n (nI b)) 4 0 1 (nI (n + 1))) 21 0 n (nI b)) 16 0 6 (nI (n + 1)) 21 0 j = if j = n then nI b else M 21 0 j := by
          rw [mup_r (by omega), mup_ap, mup_r (by omega), mup_r (by omega)]
          by_cases u : j = n
          · rw [if_pos ⟨rfl, rfl, u⟩, if_pos u]
          · rw [if_neg (by omega), if_neg u]
        rw [a5, a21]
        by_cases u : j = n
        · rw [if_pos u, if_pos u]
          exact ⟨rfl, b, by omega, rfl⟩
        · rw [if_neg u, if_neg u]
          exact e3 j (by omega)
    · have w := (neq (by omega) (by omega)).mp w
      omega
  · rw [nlt (by omega) (by omega)] at y
    have : n = 90 := by omega
    subst this
    refine en_X5_feed _ _ (c_in (fun _ _ => gTn ?_) (fun w => absurd ⟨Int32.not_lt.mp z, z2⟩ w))
    exact ⟨fun w => absurd e2 w, fun _ => gO_i ⟨rfl, I, fun _ _ => rfl⟩⟩
