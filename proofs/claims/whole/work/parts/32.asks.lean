/-! player, place, count, gap, as -/
theorem up_ind {P : Nat → Prop} {n : Nat} (h0 : P n) (hs : ∀ i, i < n → P (i + 1) → P i) : P 0 := by
  have : ∀ r i, i + r = n → P i := by
    intro r
    induction r with
    | zero =>
      intro i e
      have e : i = n := by omega
      rw [e]; exact h0
    | succ r ih =>
      intro i e
      exact hs i (by omega) (ih (i + 1) (by omega))
  exact this n 0 (by omega)
def bcF (p1 : Int32) : Int32 := ((((((((p1 - (((p1.toUInt32 >>> ((nI 1).toUInt32 &&& Int32.toUInt32 31)).toInt32) &&& (nI 1431655765))) &&& (nI 858993459)) + ((((p1 - (((p1.toUInt32 >>> ((nI 1).toUInt32 &&& Int32.toUInt32 31)).toInt32) &&& (nI 1431655765))).toUInt32 >>> ((nI 2).toUInt32 &&& Int32.toUInt32 31)).toInt32) &&& (nI 858993459))) + (((((p1 - (((p1.toUInt32 >>> ((nI 1).toUInt32 &&& Int32.toUInt32 31)).toInt32) &&& (nI 1431655765))) &&& (nI 858993459)) + ((((p1 - (((p1.toUInt32 >>> ((nI 1).toUInt32 &&& Int32.toUInt32 31)).toInt32) &&& (nI 1431655765))).toUInt32 >>> ((nI 2).toUInt32 &&& Int32.toUInt32 31)).toInt32) &&& (nI 858993459))).toUInt32 >>> ((nI 4).toUInt32 &&& Int32.toUInt32 31)).toInt32)) &&& (nI 252645135)) + (((((((p1 - (((p1.toUInt32 >>> ((nI 1).toUInt32 &&& Int32.toUInt32 31)).toInt32) &&& (nI 1431655765))) &&& (nI 858993459)) + ((((p1 - (((p1.toUInt32 >>> ((nI 1).toUInt32 &&& Int32.toUInt32 31)).toInt32) &&& (nI 1431655765))).toUInt32 >>> ((nI 2).toUInt32 &&& Int32.toUInt32 31)).toInt32) &&& (nI 858993459))) + (((((p1 - (((p1.toUInt32 >>> ((nI 1).toUInt32 &&& Int32.toUInt32 31)).toInt32) &&& (nI 1431655765))) &&& (nI 858993459)) + ((((p1 - (((p1.toUInt32 >>> ((nI 1).toUInt32 &&& Int32.toUInt32 31)).toInt32) &&& (nI 1431655765))).toUInt32 >>> ((nI 2).toUInt32 &&& Int32.toUInt32 31)).toInt32) &&& (nI 858993459))).toUInt32 >>> ((nI 4).toUInt32 &&& Int32.toUInt32 31)).toInt32)) &&& (nI 252645135)).toUInt32 >>> ((nI 8).toUInt32 &&& Int32.toUInt32 31)).toInt32)) + ((((((((p1 - (((p1.toUInt32 >>> ((nI 1).toUInt32 &&& Int32.toUInt32 31)).toInt32) &&& (nI 1431655765))) &&& (nI 858993459)) + ((((p1 - (((p1.toUInt32 >>> ((nI 1).toUInt32 &&& Int32.toUInt32 31)).toInt32) &&& (nI 1431655765))).toUInt32 >>> ((nI 2).toUInt32 &&& Int32.toUInt32 31)).toInt32) &&& (nI 858993459))) + (((((p1 - (((p1.toUInt32 >>> ((nI 1).toUInt32 &&& Int32.toUInt32 31)).toInt32) &&& (nI 1431655765))) &&& (nI 858993459)) + ((((p1 - (((p1.toUInt32 >>> ((nI 1).toUInt32 &&& Int32.toUInt32 31)).toInt32) &&& (nI 1431655765))).toUInt32 >>> ((nI 2).toUInt32 &&& Int32.toUInt32 31)).toInt32) &&& (nI 858993459))).toUInt32 >>> ((nI 4).toUInt32 &&& Int32.toUInt32 31)).toInt32)) &&& (nI 252645135)) + (((((((p1 - (((p1.toUInt32 >>> ((nI 1).toUInt32 &&& Int32.toUInt32 31)).toInt32) &&& (nI 1431655765))) &&& (nI 858993459)) + ((((p1 - (((p1.toUInt32 >>> ((nI 1).toUInt32 &&& Int32.toUInt32 31)).toInt32) &&& (nI 1431655765))).toUInt32 >>> ((nI 2).toUInt32 &&& Int32.toUInt32 31)).toInt32) &&& (nI 858993459))) + (((((p1 - (((p1.toUInt32 >>> ((nI 1).toUInt32 &&& Int32.toUInt32 31)).toInt32) &&& (nI 1431655765))) &&& (nI 858993459)) + ((((p1 - (((p1.toUInt32 >>> ((nI 1).toUInt32 &&& Int32.toUInt32 31)).toInt32) &&& (nI 1431655765))).toUInt32 >>> ((nI 2).toUInt32 &&& Int32.toUInt32 31)).toInt32) &&& (nI 858993459))).toUInt32 >>> ((nI 4).toUInt32 &&& Int32.toUInt32 31)).toInt32)) &&& (nI 252645135)).toUInt32 >>> ((nI 8).toUInt32 &&& Int32.toUInt32 31)).toInt32)).toUInt32 >>> ((nI 16).toUInt32 &&& Int32.toUInt32 31)).toInt32)) &&& (nI 63))
theorem bcF_v : ∀ m, m < 256 → bcF (nI m) = nI (pc8 m) := by decide +kernel
theorem pc8_bso {f : Nat → Bool} {n : Nat} (h : n ≤ 8) : pc8 (bso f n) = sumN (fun k => cond (f k) 1 0) n := by
  have b := bso_bit f n
  unfold pc8
  have b0 := b 0
  have b1 := b 1
  have b2 := b 2
  have b3 := b 3
  have b4 := b 4
  have b5 := b 5
  have b6 := b 6
  have b7 := b 7
  rw [Nat.pow_zero, Nat.div_one] at b0
  rw [show (2:Nat)^1 = 2 by decide] at b1
  rw [show (2:Nat)^2 = 4 by decide] at b2
  rw [show (2:Nat)^3 = 8 by decide] at b3
  rw [show (2:Nat)^4 = 16 by decide] at b4
  rw [show (2:Nat)^5 = 32 by decide] at b5
  rw [show (2:Nat)^6 = 64 by decide] at b6
  rw [show (2:Nat)^7 = 128 by decide] at b7
  rw [b0, b1, b2, b3, b4, b5, b6, b7]
  rcases (by omega : n = 0 ∨ n = 1 ∨ n = 2 ∨ n = 3 ∨ n = 4 ∨ n = 5 ∨ n = 6 ∨ n = 7 ∨ n = 8) with rfl | rfl | rfl | rfl | rfl | rfl | rfl | rfl | rfl <;> simp [sumN]
def crN (T : Nat → Nat) : Nat := sumN (fun q => T (24 + 4 * q)) (T 2)
section Pl
variable {d : Nat} {Q : Option AV → Mem → Prop} {M : Mem} {w t : Nat} {T : Nat → Nat} {q : Nat} {x : Int32}
theorem c_clapsAt1 {a : Nat} (hP : M 22 w 1 = nI (T 1)) (h8 : T 1 ≤ 8) (ha : a < T 1) (hsit : ∀ p, p < 8 → M 22 w (13 + p) = nI (T (13 + p))) (hQ : Q (some (zI (nI (near T a)))) M) : wpd (d + 2) 147 [zR 22 w, zR 22 w, zI (nI 13), zI (nI a)] M Q := by
  unfold near at hQ
  have isin : ∀ {v : Int32} {k : Nat}, v = nI k → k < 100 → (k < T 1 → Q (some (zI (nI 1))) M → Q (some (zI (nI 1))) M) → True := fun _ _ _ => trivial
  have st3 : ∀ s0 : Nat, s0 + (if a + 1 < T 1 then T (13 + (a + 1)) else 0) = (if 0 < a then T (13 + (a - 1)) else 0) + T (13 + a) + (if a + 1 < T 1 then T (13 + (a + 1)) else 0) → WP (wpd (d + 1)) 1 T_X5_clapsAt Q (8, [zR 22 w, zR 22 w, zI (nI 13), zI (nI a), zI (nI s0), zI (nI (a + 1))], []) M := by
    intro s0 e0
    have fin : WP (wpd (d + 1)) 1 T_X5_clapsAt Q (8, [zR 22 w, zR 22 w, zI (nI 13), zI (nI a), zI (nI (s0 + (if a + 1 < T 1 then T (13 + (a + 1)) else 0))), zI (nI (a + 1 + 1))], []) M := by
      refine cp_X5_clapsAt_1_8 _ _ _ _ _ _ _ ⟨fun _ => by rw [e0]; exact hQ, fun z => ?_⟩
      rw [nI_add, nle (by omega) (by omega)] at z
      omega
    refine cp_X5_clapsAt_1_8 _ _ _ _ _ _ _ ⟨fun z => ?_, fun _ => ⟨vin_i (by omega) (by omega), ?_⟩⟩
    · rw [nI_add, nle (by omega) (by omega)] at z
      omega
    · rw [hP, pk_sub (by omega)]
      refine c_in (fun y1 y2 => gTe ?_) (fun y => gFe ?_)
      · rw [nle (by omega) (by omega)] at y2
        rw [nI_add 13, ncl (by omega), hsit (a + 1) (by omega), nI_add, nI_add]
        rw [if_pos (by omega)] at fin
        exact ⟨vin_i (by omega) (by omega), fin⟩
      · rw [nI_add, nI_add]
        rw [if_neg (fun z => y ⟨(nle (by omega) (by omega)).mpr (by omega), (nle (by omega) (by omega)).mpr (by omega)⟩)] at fin
        exact fin
  have st2 : ∀ s0 : Nat, s0 = (if 0 < a then T (13 + (a - 1)) else 0) → WP (wpd (d + 1)) 1 T_X5_clapsAt Q (8, [zR 22 w, zR 22 w, zI (nI 13), zI (nI a), zI (nI s0), zI (nI a)], []) M := by
    intro s0 e0
    refine cp_X5_clapsAt_1_8 _ _ _ _ _ _ _ ⟨fun z => ?_, fun _ => ⟨vin_i (by omega) (by omega), ?_⟩⟩
    · rw [nI_add, nle (by omega) (by omega)] at z
      omega
    · rw [hP, pk_sub (by omega)]
      refine c_in (fun y1 y2 => gTe ?_) (fun y => absurd ⟨(nle (by omega) (by omega)).mpr (by omega), (nle (by omega) (by omega)).mpr (by omega)⟩ y)
      rw [nI_add 13, ncl (by omega), hsit a (by omega), nI_add, nI_add]
      exact ⟨vin_i (by omega) (by omega), st3 (s0 + T (13 + a)) (by rw [e0])⟩
  refine en_X5_clapsAt_1 _ _ _ _ _ ?_
  by_cases h0 : 0 < a
  · rw [pk_sub (by omega)]
    refine cp_X5_clapsAt_1_8 _ _ _ _ _ _ _ ⟨fun z => ?_, fun _ => ⟨vin_i (by omega) (by omega), ?_⟩⟩
    · rw [nI_add, nle (by omega) (by omega)] at z
      omega
    · rw [hP, pk_sub (by omega)]
      refine c_in (fun y1 y2 => gTe ?_) (fun y => absurd ⟨(nle (by omega) (by omega)).mpr (by omega), (nle (by omega) (by omega)).mpr (by omega)⟩ y)
      rw [nI_add 13 (a - 1), ncl (by omega), hsit (a - 1) (by omega), nI_add, nI_add, show a - 1 + 1 = a by omega]
      exact ⟨vin_i (by omega) (by omega), st2 (0 + T (13 + (a - 1))) (by rw [if_pos h0]; omega)⟩
  · have e0 : a = 0 := by omega
    subst e0
    refine cp_X5_clapsAt_1_8 _ _ _ _ _ _ _ ⟨fun z => absurd z (by decide), fun _ => ⟨vin_i (by omega) (by omega), ?_⟩⟩
    rw [hP, pk_sub (a := T 1) (b := 1) (by omega)]
    refine c_in (fun y1 y2 => absurd y1 (by decide)) (fun y => gFe ?_)
    rw [show (nI 0 - nI 1 + nI 1 : Int32) = nI 0 by decide, nI_add]
    exact st2 0 rfl
theorem c_bits {m : Nat} (hm : m < 256) (h : Q (some (zI (nI (pc8 m)))) M) : wpd (d + 1) 192 [zI (nI m)] M Q := by
  refine en_J6_bitCount_0f7a4 _ _ ?_
  show Q (some (zI (bcF (nI m)))) M
  rw [bcF_v m hm]; exact h
theorem c_crossers (hc : CT M t T) (ok : okT T) (h : Q (some (zI (nI (crN T)))) M) : wpd (d + 1) 192 [zI (M 6 t 8)] M Q := by
  have h6 := ok.2.2.2.1
  rw [hc.1.2.2.2.2.1]
  have hl := bso_lt (fun q => decide (T (24 + 4 * q) = 1)) (T 2)
  have hp : 2 ^ (T 2) ≤ 2 ^ 6 := Nat.pow_le_pow_right (by omega) h6
  refine c_bits (by omega) ?_
  rw [pc8_bso (by omega), sumN_c (g := fun q => T (24 + 4 * q)) (T 2) (fun k hk => ?_)]
  · exact h
  · have := (ok.2.2.2.2.2.2.2 k hk).2.2.2.2
    rcases (by omega : T (24 + 4 * k) = 0 ∨ T (24 + 4 * k) = 1) with z | z
    · show cond (decide (T (24 + 4 * k) = 1)) 1 0 = T (24 + 4 * k)
      rw [z]; rfl
    · show cond (decide (T (24 + 4 * k) = 1)) 1 0 = T (24 + 4 * k)
      rw [z]; rfl
theorem m_crossed (hm : MT M w T) (h6 : T 2 ≤ 6) (h : Q (some (zI (nI (crN T)))) M) : wpd (d + 1) 149 [zR 22 w] M Q := by
  refine en_X5_crossed _ _ ?_
  refine up_ind (P := fun i => WP (wpd d) 1 T_X5_crossed Q (4, [zR 22 w, zI (nI (sumN (fun q => T (24 + 4 * q)) i)), zI (nI i)], []) M) (n := T 2) ?_ ?_
  · refine cp_X5_crossed_4 _ _ _ _ ⟨vin_i (by omega) (by omega), fun _ => h, fun z => ?_⟩
    rw [hm 2 (by omega)] at z
    exact absurd ((nle (by omega) (by omega)).mpr (Nat.le_refl _)) z
  · intro i hi ih
    refine cp_X5_crossed_4 _ _ _ _ ⟨vin_i (by omega) (by omega), fun z => ?_, fun _ => ?_⟩
    · rw [hm 2 (by omega), nle (by omega) (by omega)] at z
      omega
    · rw [pk_mul, nI_add 21, nI_add, show 21 + 4 * i + 3 = 24 + 4 * i by omega, ncl (by omega), hm _ (by omega), nI_add, nI_add]
      exact ⟨vin_i (by omega) (by omega), ih⟩
theorem c_sitAll (hc : CT M t T) (h8 : T 1 ≤ 8) (h : Q (some (zI (nI (sumN (fun p => T (13 + p)) (T 1))))) M) : wpd (d + 1) 37 [zR 6 t] M Q := by
  refine en_X3_sittersInAll _ _ ?_
  refine up_ind (P := fun i => WP (wpd d) 1 T_X3_sittersInAll Q (4, [zR 6 t, zI (nI (sumN (fun p => T (13 + p)) i)), zI (nI i)], []) M) (n := T 1) ?_ ?_
  · refine cp_X3_sittersInAll_4 _ _ _ _ ⟨fun _ => h, fun z => ?_⟩
    rw [hc.1.1] at z
    exact absurd ((nle (by omega) (by omega)).mpr (Nat.le_refl _)) z
  · intro i hi ih
    refine cp_X3_sittersInAll_4 _ _ _ _ ⟨fun z => ?_, fun _ => ?_⟩
    · rw [hc.1.1, nle (by omega) (by omega)] at z
      omega
    · rw [ncl (by omega), hc.1.2.2.2.2.2.2.1 i (by omega), nI_add, nI_add]
      exact ⟨vin_i (by omega) (by omega), ih⟩
theorem m_sitters (hm : MT M 0 T) (h8 : T 1 ≤ 8) (h : Q (some (zI (nI (sumN (fun p => T (13 + p)) (T 1))))) M) : wpd (d + 1) 189 [zR 16 0] M Q := by
  refine en_X5_sitters _ ?_
  refine up_ind (P := fun i => WP (wpd d) 1 T_X5_sitters Q (4, [zR 16 0, zI (nI (sumN (fun p => T (13 + p)) i)), zI (nI i)], []) M) (n := T 1) ?_ ?_
  · refine cp_X5_sitters_4 _ _ _ ⟨vin_i (by omega) (by omega), fun _ => h, fun z => ?_⟩
    rw [hm 1 (by omega)] at z
    exact absurd ((nle (by omega) (by omega)).mpr (Nat.le_refl _)) z
  · intro i hi ih
    refine cp_X5_sitters_4 _ _ _ ⟨vin_i (by omega) (by omega), fun z => ?_, fun _ => ?_⟩
    · rw [hm 1 (by omega), nle (by omega) (by omega)] at z
      omega
    · rw [nI_add 13, ncl (by omega), hm _ (by omega), nI_add, nI_add]
      exact ⟨vin_i (by omega) (by omega), ih⟩
theorem c_rowsAre (h : Q (some (zI (nI (sumN (fun r => if M 2 r 1 = -1 then 0 else 1) 8)))) M) : wpd (d + 2) 96 [zR 0 0] M Q := by
  refine en_X4_rowsThatAre _ ?_
  refine up_ind (P := fun i => WP (wpd (d + 1)) 1 T_X4_rowsThatAre Q (4, [zR 0 0, zI (nI (sumN (fun r => if M 2 r 1 = -1 then 0 else 1) i)), zI (nI i)], []) M) (n := 8) ?_ ?_
  · exact cp_X4_rowsThatAre_4 _ _ _ ⟨fun _ => h, fun z => absurd ((nle (by omega) (by omega)).mpr (Nat.le_refl _)) z⟩
  · intro i hi ih
    refine cp_X4_rowsThatAre_4 _ _ _ ⟨fun z => ?_, fun _ => ⟨vin_i (by omega) (by omega), ?_⟩⟩
    · rw [nle (by omega) (by omega)] at z
      omega
    · rw [ncl (by omega), Nat.zero_add]
      refine c_miss4 (fun y => gTn ?_) (fun y => gFn ?_)
      · rw [nI_add]
        rw [show sumN (fun r => if M 2 r 1 = -1 then 0 else 1) (i + 1) = sumN (fun r => if M 2 r 1 = -1 then 0 else 1) i + (if M 2 i 1 = -1 then 0 else 1) from rfl, if_pos y] at ih
        exact ih
      · rw [nI_add, nI_add]
        rw [show sumN (fun r => if M 2 r 1 = -1 then 0 else 1) (i + 1) = sumN (fun r => if M 2 r 1 = -1 then 0 else 1) i + (if M 2 i 1 = -1 then 0 else 1) from rfl, if_neg y] at ih
        exact ih
theorem m_rowsAre (h : Q (some (zI (nI (sumN (fun r => if M 17 0 r = -1000000 then 0 else 1) 8)))) M) : WP (wpd (d + 1)) 1 T_X5_count Q (58, [zR 16 0, zU, zI (nI 0), zI (nI 0)], []) M := by
  refine up_ind (P := fun i => WP (wpd (d + 1)) 1 T_X5_count Q (58, [zR 16 0, zU, zI (nI (sumN (fun r => if M 17 0 r = -1000000 then 0 else 1) i)), zI (nI i)], []) M) (n := 8) ?_ ?_
  · exact cp_X5_count_58 _ _ _ ⟨fun _ => h, fun z => absurd ((nle (by omega) (by omega)).mpr (Nat.le_refl _)) z⟩
  · intro i hi ih
    refine cp_X5_count_58 _ _ _ ⟨fun z => ?_, fun _ => ?_⟩
    · rw [nle (by omega) (by omega)] at z
      omega
    · refine c_miss5 hi (fun y => gTe ?_) (fun y => gFe ?_)
      · rw [nI_add, nI_add]
        rw [show sumN (fun r => if M 17 0 r = -1000000 then 0 else 1) (i + 1) = sumN (fun r => if M 17 0 r = -1000000 then 0 else 1) i + (if M 17 0 i = -1000000 then 0 else 1) from rfl, if_pos y] at ih
        exact ih
      · rw [nI_add, nI_add]
        rw [show sumN (fun r => if M 17 0 r = -1000000 then 0 else 1) (i + 1) = sumN (fun r => if M 17 0 r = -1000000 then 0 else 1) i + (if M 17 0 i = -1000000 then 0 else 1) from rfl, if_neg y] at ih
        exact ih
theorem c_playersAt (hc : CT M t T) (h6 : T 2 ≤ 6) (hx : ∀ q, q < T 2 → T (24 + 4 * q) ≤ 1) (h : Q (some (zI (nI (bso (fun q => decide (whr T q = x)) (T 2))))) M) : wpd (d + 3) 36 [zR 6 t, zI x] M Q := by
  refine en_X3_playersAt _ _ _ ?_
  refine up_ind (P := fun i => WP (wpd (d + 2)) 1 T_X3_playersAt Q (4, [zR 6 t, zI x, zI (nI (bso (fun q => decide (whr T q = x)) i)), zI (nI i)], []) M) (n := T 2) ?_ ?_
  · refine cp_X3_playersAt_4 _ _ _ _ _ ⟨fun _ => h, fun z => ?_⟩
    rw [hc.1.2.1] at z
    exact absurd ((nle (by omega) (by omega)).mpr (Nat.le_refl _)) z
  · intro i hi ih
    have hb := bso_lt (fun q => decide (whr T q = x)) i
    refine cp_X3_playersAt_4 _ _ _ _ _ ⟨fun z => ?_, fun _ => ?_⟩
    · rw [hc.1.2.1, nle (by omega) (by omega)] at z
      omega
    · refine c_whr hc h6 hi (hx i hi) (gO_i ⟨fun y => ?_, fun y => ?_⟩)
      · rw [show bso (fun q => decide (whr T q = x)) (i + 1) = bso (fun q => decide (whr T q = x)) i + cond (decide (whr T i = x)) (2 ^ i) 0 from rfl, decide_eq_false y] at ih
        rw [nI_add]; exact ih
      · rw [show bso (fun q => decide (whr T q = x)) (i + 1) = bso (fun q => decide (whr T q = x)) i + cond (decide (whr T i = x)) (2 ^ i) 0 from rfl, decide_eq_true y] at ih
        rw [nI_add, or_b i (by omega) _ hb]; exact ih
theorem m_playersIn (hm : MT M 0 T) (h6 : T 2 ≤ 6) (hx : ∀ q, q < T 2 → T (24 + 4 * q) ≤ 1) (h : Q (some (zI (nI (bso (fun q => decide (whr T q = x)) (T 2))))) M) : wpd (d + 2) 159 [zR 16 0, zI x] M Q := by
  refine en_X5_playersIn _ _ ?_
  refine up_ind (P := fun i => WP (wpd (d + 1)) 1 T_X5_playersIn Q (4, [zR 16 0, zI x, zI (nI (bso (fun q => decide (whr T q = x)) i)), zI (nI i)], []) M) (n := T 2) ?_ ?_
  · refine cp_X5_playersIn_4 _ _ _ _ ⟨vin_i (by omega) (by omega), fun _ => h, fun z => ?_⟩
    rw [hm 2 (by omega)] at z
    exact absurd ((nle (by omega) (by omega)).mpr (Nat.le_refl _)) z
  · intro i hi ih
    have hb := bso_lt (fun q => decide (whr T q = x)) i
    refine cp_X5_playersIn_4 _ _ _ _ ⟨vin_i (by omega) (by omega), fun z => ?_, fun _ => ?_⟩
    · rw [hm 2 (by omega), nle (by omega) (by omega)] at z
      omega
    · refine m_whr hm (by omega) (hx i hi) (gO_i ⟨fun y => ?_, fun y => ?_⟩)
      · rw [show bso (fun q => decide (whr T q = x)) (i + 1) = bso (fun q => decide (whr T q = x)) i + cond (decide (whr T i = x)) (2 ^ i) 0 from rfl, decide_eq_false y] at ih
        rw [nI_add, or_0]; exact ih
      · rw [show bso (fun q => decide (whr T q = x)) (i + 1) = bso (fun q => decide (whr T q = x)) i + cond (decide (whr T i = x)) (2 ^ i) 0 from rfl, decide_eq_true y] at ih
        rw [nI_add, or_b i (by omega) _ hb]; exact ih
end Pl
theorem pr_player (p1 p2 : Int32) : PR 67 158 [zR 0 0, zI p1, zI p2] [zR 16 0, zI p1, zI p2] := by
  intro M I
  obtain ⟨T, hg, hc, hm⟩ := I.2.2.2.2.2.1
  have hb := hg.b
  rcases num_or p1 (T 2) with ⟨q, hq, rfl⟩ | hno
  · have hN := hg.p hq
    obtain ⟨w1, w2, w3, w4, w5⟩ := hN.1.2.2.2.2.2.2.2 q hq
    have ho := hN.1.o (T (22 + 4 * q)) (by omega)
    refine en_X4_player _ _ _ (c_hasPlayer hc.1.2.1 hb.2 (fun _ _ _ => gTn ?_) (fun h => absurd rfl (h q hq)))
    have fin : ∀ v : Int32, gO (some (zI v)) fun v' => v = v' ∧ Inv M ∧ ∀ k, 30 ≤ k → M k = M k := fun v => gO_i ⟨rfl, I, fun _ _ => rfl⟩
    have en5 : ∀ v : Int32, (p2 = nI 0 → v = whr T q) → (p2 = nI 1 → v = nI (T (23 + 4 * q))) → (p2 = nI 2 → v = nI (T (24 + 4 * q))) → (p2 = nI 3 → v = nI (clQ T T (lB T) q)) → (¬ p2 = nI 0 → ¬ p2 = nI 1 → ¬ p2 = nI 2 → ¬ p2 = nI 3 → v = -1000001) → wpd 40 158 [zR 16 0, zI (nI q), zI p2] M (fun r' M2 => gO r' fun v' => v = v' ∧ Inv M2 ∧ ∀ k, 30 ≤ k → M2 k = M k) := by
      intro v v0 v1 v2 v3 v4
      refine en_X5_player _ _ _ (c_isPlayer5 (hm 2 (by omega)) hb.2 (fun _ _ _ => gTn ?_) (fun h => absurd rfl (h q hq)))
      rw [pk_mul, nI_add, nI_add, nI_add, nI_add, show 21 + 4 * q + 3 = 24 + 4 * q by omega, show 21 + 4 * q + 1 = 22 + 4 * q by omega, show 21 + 4 * q + 2 = 23 + 4 * q by omega, ncl (by omega), ncl (by omega), ncl (by omega), hm _ (by omega), hm _ (by omega), hm _ (by omega), nI_add, ncl (by omega)]
      refine ⟨vin_i (by omega) (by omega), fun z => ?_, fun n0 => ⟨fun z => ?_, fun n1 => ⟨fun z => ?_, fun n2 => ⟨fun z => ?_, fun n3 => ?_⟩⟩⟩⟩
      · rw [v0 z]; exact m_whr hm (by omega) w5 (gO_i (fin _))
      · rw [v1 z]; exact ⟨vin_i (by omega) (by omega), fin _⟩
      · rw [v2 z]; exact ⟨vin_i (by omega) (by omega), fin _⟩
      · rw [v3 z]
        unfold clQ
        refine c_hasCr5 hm (by omega) w5 (fun y => gTn ?_) (fun y => gFn ?_)
        · rw [if_neg (by omega)]; exact fin _
        · rw [hm (5 + T (22 + 4 * q)) (by omega)]
          refine ⟨vin_i (by omega) (by omega), fun u => ?_, fun u => ?_⟩
          · have hl : lB T (T (22 + 4 * q)) = true := by
              unfold lB
              rw [decide_eq_true w3, Bool.true_and]
              refine decide_eq_true (Nat.pos_of_ne_zero (fun e => u (by rw [e])))
            rw [if_pos ⟨y, hl⟩]
            exact c_clapsAt1 (hm 1 (by omega)) hb.1 w3 (fun p hp => hm _ (by omega)) (gO_i (fin _))
          · rw [neq (by omega) (by omega)] at u
            have hl : ¬ lB T (T (22 + 4 * q)) = true := by
              unfold lB
              rw [u]
              simp
            rw [if_neg (fun e => hl e.2)]; exact fin _
      · rw [v4 n0 n1 n2 n3]; exact fin _
    refine ⟨fun z => ?_, fun n0 => ⟨fun z => ?_, fun n1 => ⟨fun z => ?_, fun n2 => ⟨fun z => ?_, fun n3 => ?_⟩⟩⟩⟩
    · refine c_whr hc hb.2 hq w5 (gO_i (gO_i (en5 _ (fun _ => rfl) ?_ ?_ ?_ ?_))) <;> intro y
      · rw [z] at y; exact absurd y c01
      · rw [z] at y; exact absurd y (by decide)
      · rw [z] at y; exact absurd y (by decide)
      · exact absurd z y
    · refine ⟨vin_i (by omega) (by omega), gO_i (en5 _ ?_ (fun _ => ?_) ?_ ?_ ?_)⟩
      · intro y; exact absurd y n0
      · rw [ncl (by omega), (hc.1.2.2.2.2.2.2.2 q hq).2.2]
      · intro y; rw [z] at y; exact absurd y (by decide)
      · intro y; rw [z] at y; exact absurd y (by decide)
      · intro _ y; exact absurd z y
    · refine c_hasCrossed hc.1 hb.2 hq w5 (fun y => gTe (gO_i (en5 _ ?_ ?_ (fun _ => by rw [y]) ?_ ?_))) (fun y => gFe (gO_i (en5 _ ?_ ?_ (fun _ => by rw [y]) ?_ ?_)))
      · intro y; exact absurd y n0
      · intro y; exact absurd y n1
      · intro y; rw [z] at y; exact absurd y (by decide)
      · intro _ _ y; exact absurd z y
      · intro y; exact absurd y n0
      · intro y; exact absurd y n1
      · intro y; rw [z] at y; exact absurd y (by decide)
      · intro _ _ y; exact absurd z y
    · refine c_litPlaces hc.1.1 hb.1 hc.1.2.2.2.2.2.1 (fun p hp => by have := hN.1.o p (by omega); omega) (gO_i ?_)
      refine c_clapsFor (T := T) (g := fun p => decide (0 < T (5 + p))) hc.1 hN.1.s rfl hq hN.1.z rfl (gO_i (gO_i (en5 _ ?_ ?_ ?_ (fun _ => rfl) ?_)))
      · intro y; exact absurd y n0
      · intro y; exact absurd y n1
      · intro y; exact absurd y n2
      · intro _ _ _ y; exact absurd z y
    · refine gO_i (en5 _ ?_ ?_ ?_ ?_ (fun _ _ _ _ => rfl))
      · intro y; exact absurd y n0
      · intro y; exact absurd y n1
      · intro y; exact absurd y n2
      · intro y; exact absurd y n3
  · refine en_X4_player _ _ _ (c_hasPlayer hc.1.2.1 hb.2 (fun k hk e => absurd e (hno k hk)) (fun _ => gFn (gO_i ?_)))
    exact en_X5_player _ _ _ (c_isPlayer5 (hm 2 (by omega)) hb.2 (fun k hk e => absurd e (hno k hk)) (fun _ => gFn (gO_i ⟨rfl, I, fun _ _ => rfl⟩)))
theorem pr_place (p1 p2 : Int32) : PR 68 160 [zR 0 0, zI p1, zI p2] [zR 16 0, zI p1, zI p2] := by
  intro M I
  obtain ⟨T, hg, hc, hm⟩ := I.2.2.2.2.2.1
  have hb := hg.b
  rcases num_or p1 (T 1) with ⟨q, hq, rfl⟩ | hno
  · have hN := hg.n (by omega)
    have ho := hN.1.o q (by omega)
    have hx : ∀ q, q < T 2 → T (24 + 4 * q) ≤ 1 := fun q hq => (hN.1.2.2.2.2.2.2.2 q hq).2.2.2.2
    have fin : ∀ v : Int32, gO (some (zI v)) fun v' => v = v' ∧ Inv M ∧ ∀ k, 30 ≤ k → M k = M k := fun v => gO_i ⟨rfl, I, fun _ _ => rfl⟩
    have e7 : M 7 0 q = nI (T (5 + q)) := hc.1.2.2.2.2.2.1 q hq
    have e8 : M 8 0 q = nI (T (13 + q)) := hc.1.2.2.2.2.2.2.1 q (by omega)
    refine en_X4_place _ _ _ (c_hasPlace hc.1.1 hb.1 (fun _ _ _ => gTn ?_) (fun h => absurd rfl (h q hq)))
    rw [ncl (by omega), e7, e8]
    have en5 : ∀ v : Int32, (p2 = nI 0 → v = nI (T (5 + q))) → (p2 = nI 1 → v = if T (5 + q) = 0 then nI 0 else nI 1) → (p2 = nI 2 → v = nI (T (13 + q))) → (p2 = nI 3 → v = nI (bso (fun r => decide (whr T r = nI q)) (T 2))) → (¬ p2 = nI 0 → ¬ p2 = nI 1 → ¬ p2 = nI 2 → ¬ p2 = nI 3 → v = -1000001) → wpd 40 160 [zR 16 0, zI (nI q), zI p2] M (fun r' M2 => gO r' fun v' => v = v' ∧ Inv M2 ∧ ∀ k, 30 ≤ k → M2 k = M k) := by
      intro v v0 v1 v2 v3 v4
      refine en_X5_place _ _ _ (c_isPlace5 (hm 1 (by omega)) hb.1 (fun _ _ _ => gTn ?_) (fun h => absurd rfl (h q hq)))
      rw [nI_add, nI_add, ncl (by omega), ncl (by omega), hm _ (by omega), hm _ (by omega)]
      refine ⟨fun z => ?_, fun n0 => ⟨fun z => ?_, fun n1 => ⟨fun z => ?_, fun n2 => ⟨fun z => ?_, fun n3 => ?_⟩⟩⟩⟩
      · rw [v0 z]; exact ⟨vin_i (by omega) (by omega), fin _⟩
      · rw [v1 z]
        refine ⟨vin_i (by omega) (by omega), fun y => ?_, fun y => ?_⟩
        · rw [nle (by omega) (by omega)] at y
          rw [if_pos (by omega)]; exact fin _
        · rw [nle (by omega) (by omega)] at y
          rw [if_neg (by omega)]; exact fin _
      · rw [v2 z]; exact ⟨vin_i (by omega) (by omega), fin _⟩
      · rw [v3 z]; exact m_playersIn hm hb.2 hx (gO_i (fin _))
      · rw [v4 n0 n1 n2 n3]; exact fin _
    refine ⟨fun z => ?_, fun n0 => ⟨fun z => ?_, fun n1 => ⟨fun z => ?_, fun n2 => ⟨fun z => ?_, fun n3 => ?_⟩⟩⟩⟩
    · refine ⟨vin_i (by omega) (by omega), gO_i (en5 _ (fun _ => rfl) ?_ ?_ ?_ ?_)⟩ <;> intro y
      · rw [z] at y; exact absurd y c01
      · rw [z] at y; exact absurd y (by decide)
      · rw [z] at y; exact absurd y (by decide)
      · exact absurd z y
    · have k : ∀ v : Int32, (v = if T (5 + q) = 0 then nI 0 else nI 1) → wpd 40 160 [zR 16 0, zI (nI q), zI p2] M (fun r' M2 => gO r' fun v' => v = v' ∧ Inv M2 ∧ ∀ k, 30 ≤ k → M2 k = M k) := by
        intro v hv
        refine en5 v ?_ (fun _ => hv) ?_ ?_ ?_
        · intro y; exact absurd y n0
        · intro y; rw [z] at y; exact absurd y (by decide)
        · intro y; rw [z] at y; exact absurd y (by decide)
        · intro _ y; exact absurd z y
      refine ⟨vin_i (by omega) (by omega), fun y => gO_i (k _ ?_), fun y => gO_i (k _ ?_)⟩
      · rw [nle (by omega) (by omega)] at y
        rw [if_pos (by omega)]
      · rw [nle (by omega) (by omega)] at y
        rw [if_neg (by omega)]
    · refine ⟨vin_i (by omega) (by omega), gO_i (en5 _ ?_ ?_ (fun _ => rfl) ?_ ?_)⟩
      · intro y; exact absurd y n0
      · intro y; exact absurd y n1
      · intro y; rw [z] at y; exact absurd y (by decide)
      · intro _ _ y; exact absurd z y
    · refine c_playersAt hc hb.2 hx (gO_i (gO_i (en5 _ ?_ ?_ ?_ (fun _ => rfl) ?_)))
      · intro y; exact absurd y n0
      · intro y; exact absurd y n1
      · intro y; exact absurd y n2
      · intro _ _ _ y; exact absurd z y
    · refine gO_i (en5 _ ?_ ?_ ?_ ?_ (fun _ _ _ _ => rfl))
      · intro y; exact absurd y n0
      · intro y; exact absurd y n1
      · intro y; exact absurd y n2
      · intro y; exact absurd y n3
  · refine en_X4_place _ _ _ (c_hasPlace hc.1.1 hb.1 (fun k hk e => absurd e (hno k hk)) (fun _ => gFn (gO_i ?_)))
    exact en_X5_place _ _ _ (c_isPlace5 (hm 1 (by omega)) hb.1 (fun k hk e => absurd e (hno k hk)) (fun _ => gFn (gO_i ⟨rfl, I, fun _ _ => rfl⟩)))
theorem pr_count (p1 : Int32) : PR 88 190 [zR 0 0, zI p1] [zR 16 0, zI p1] := by
  intro M I
  obtain ⟨T, hg, hc, hm⟩ := I.2.2.2.2.2.1
  obtain ⟨n, s, H, hn, hs, hH, ca, ma⟩ := I.2.2.2.2.2.2.1.cm
  obtain ⟨tn, tn1, tn2, tn3, tn4⟩ := I.2.1
  have hb := hg.b
  have fin : ∀ v : Int32, gO (some (zI v)) fun v' => v = v' ∧ Inv M ∧ ∀ k, 30 ≤ k → M k = M k := fun v => gO_i ⟨rfl, I, fun _ _ => rfl⟩
  have rows : sumN (fun r => if M 2 r 1 = -1 then 0 else 1) 8 = sumN (fun r => if M 17 0 r = -1000000 then 0 else 1) 8 := by
    refine sumN_c 8 (fun r hr => ?_)
    rcases I.1 r hr with ⟨m4, m5⟩ | ⟨l, n, w1, w2, w3, w4, w5, w6, w7⟩
    · show (if M 2 r 1 = -1 then 0 else 1) = (if M 17 0 r = -1000000 then 0 else 1)
      rw [if_pos m4, if_pos m5]
    · show (if M 2 r 1 = -1 then 0 else 1) = (if M 17 0 r = -1000000 then 0 else 1)
      rw [w3, w5, if_neg (ne_m1 (by omega)), if_neg (ne_no (by omega))]
  have cr0 : T 1 = 0 → T 2 = 0 := fun h => by
    rcases hg with z | z
    · exact z.2
    · have := z.1.2.1
      omega
  have ol : ∀ p, p < T 1 → T (5 + p) < 2147483648 := fun p hp => by
    have := (hg.n (by omega)).1.o p (by omega)
    omega
  refine en_X4_count _ _ ⟨fun z => ?_, fun n0 => ⟨fun z => ?_, fun n1 => ⟨fun z => ?_, fun n2 => ⟨fun z => ?_, fun n3 => ⟨fun z => ?_, fun n4 => ⟨fun z => ?_, fun n5 => ⟨fun z => ?_, fun n6 => ⟨fun z => ?_, fun n7 => ⟨fun z => ?_, fun n8 => ⟨fun z => ?_, fun n9 => ?_⟩⟩⟩⟩⟩⟩⟩⟩⟩⟩
  · refine c_rowsAre (gO_i (gO_i ?_))
    refine en_X5_count _ _ (⟨fun _ => by rw [rows]; exact m_rowsAre (fin _), fun y => absurd z y⟩)
  · refine gO_i ?_
    refine en_X5_count _ _ (⟨fun y => absurd y n0, fun _ => ⟨fun _ => ⟨vin_i (by omega) (by omega), by rw [hc.1.1, hm 1 (by omega)]; exact fin _⟩, fun y => absurd z y⟩⟩)
  · refine gO_i ?_
    refine en_X5_count _ _ (⟨fun y => absurd y n0, fun _ => ⟨fun y => absurd y n1, fun _ => ⟨fun _ => ⟨vin_i (by omega) (by omega), by rw [hc.1.2.1, hm 2 (by omega)]; exact fin _⟩, fun y => absurd z y⟩⟩⟩)
  · refine gO_i ?_
    refine en_X5_count _ _ (⟨fun y => absurd y n0, fun _ => ⟨fun y => absurd y n1, fun _ => ⟨fun y => absurd y n2, fun _ => ⟨fun _ => ⟨vin_i (by omega) (by omega), by rw [hc.1.2.2.2.1, hm 3 (by omega)]; exact fin _⟩, fun y => absurd z y⟩⟩⟩⟩)
  · refine gO_i ?_
    refine en_X5_count _ _ (⟨fun y => absurd y n0, fun _ => ⟨fun y => absurd y n1, fun _ => ⟨fun y => absurd y n2, fun _ => ⟨fun y => absurd y n3, fun _ => ⟨fun _ => ⟨vin_i (by omega) (by omega), by rw [hc.2, hm 4 (by omega)]; exact fin _⟩, fun y => absurd z y⟩⟩⟩⟩⟩)
  · by_cases t0 : 0 < T 1
    · refine c_crossers hc (hg.n t0).1 (gO_i (gO_i ?_))
      refine en_X5_count _ _ ⟨fun y => absurd y n0, fun _ => ⟨fun y => absurd y n1, fun _ => ⟨fun y => absurd y n2, fun _ => ⟨fun y => absurd y n3, fun _ => ⟨fun y => absurd y n4, fun _ => ⟨fun _ => m_crossed hm hb.2 (gO_i (fin _)), fun y => absurd z y⟩⟩⟩⟩⟩⟩
    · have t2 := cr0 (by omega)
      have e8 : M 6 0 8 = nI 0 := by rw [hc.1.2.2.2.2.1, t2]; rfl
      rw [e8]
      refine c_bits (by omega) (gO_i (gO_i ?_))
      have ec : crN T = pc8 0 := by unfold crN; rw [t2]; rfl
      rw [← ec]
      refine en_X5_count _ _ ⟨fun y => absurd y n0, fun _ => ⟨fun y => absurd y n1, fun _ => ⟨fun y => absurd y n2, fun _ => ⟨fun y => absurd y n3, fun _ => ⟨fun y => absurd y n4, fun _ => ⟨fun _ => m_crossed hm hb.2 (gO_i (fin _)), fun y => absurd z y⟩⟩⟩⟩⟩⟩
  · refine c_sitAll hc hb.1 (gO_i (gO_i ?_))
    refine en_X5_count _ _ (⟨fun y => absurd y n0, fun _ => ⟨fun y => absurd y n1, fun _ => ⟨fun y => absurd y n2, fun _ => ⟨fun y => absurd y n3, fun _ => ⟨fun y => absurd y n4, fun _ => ⟨fun y => absurd y n5, fun _ => ⟨fun _ => m_sitters hm hb.1 (gO_i (fin _)), fun y => absurd z y⟩⟩⟩⟩⟩⟩⟩)
  · refine c_litPlaces hc.1.1 hb.1 hc.1.2.2.2.2.2.1 ol (gO_i (gO_i ?_))
    refine en_X5_count _ _ (⟨fun y => absurd y n0, fun _ => ⟨fun y => absurd y n1, fun _ => ⟨fun y => absurd y n2, fun _ => ⟨fun y => absurd y n3, fun _ => ⟨fun y => absurd y n4, fun _ => ⟨fun y => absurd y n5, fun _ => ⟨fun y => absurd y n6, fun _ => ⟨fun _ => c_litOf hm hb.1 ol (gO_i (fin _)), fun y => absurd z y⟩⟩⟩⟩⟩⟩⟩⟩)
  · refine gO_i ?_
    refine en_X5_count _ _ (⟨fun y => absurd y n0, fun _ => ⟨fun y => absurd y n1, fun _ => ⟨fun y => absurd y n2, fun _ => ⟨fun y => absurd y n3, fun _ => ⟨fun y => absurd y n4, fun _ => ⟨fun y => absurd y n5, fun _ => ⟨fun y => absurd y n6, fun _ => ⟨fun y => absurd y n7, fun _ => ⟨fun _ => by rw [ca.2.1, ma.1]; exact fin _, fun y => absurd z y⟩⟩⟩⟩⟩⟩⟩⟩⟩)
  · refine gO_i ?_
    refine en_X5_count _ _ (⟨fun y => absurd y n0, fun _ => ⟨fun y => absurd y n1, fun _ => ⟨fun y => absurd y n2, fun _ => ⟨fun y => absurd y n3, fun _ => ⟨fun y => absurd y n4, fun _ => ⟨fun y => absurd y n5, fun _ => ⟨fun y => absurd y n6, fun _ => ⟨fun y => absurd y n7, fun _ => ⟨fun y => absurd y n8, fun _ => ⟨fun _ => by rw [tn2, tn3]; exact fin _, fun y => absurd z y⟩⟩⟩⟩⟩⟩⟩⟩⟩⟩)
  · refine gO_i ?_
    refine en_X5_count _ _ (⟨fun y => absurd y n0, fun _ => ⟨fun y => absurd y n1, fun _ => ⟨fun y => absurd y n2, fun _ => ⟨fun y => absurd y n3, fun _ => ⟨fun y => absurd y n4, fun _ => ⟨fun y => absurd y n5, fun _ => ⟨fun y => absurd y n6, fun _ => ⟨fun y => absurd y n7, fun _ => ⟨fun y => absurd y n8, fun _ => ⟨fun y => absurd y n9, fun _ => fin _⟩⟩⟩⟩⟩⟩⟩⟩⟩⟩)
