/-! wind, fill: sets of places (pure) -/
def cnt (m n : Nat) : Nat := sumN (fun k => (m.testBit k).toNat) n
def sbB (m l : Nat) : Nat → Bool
  | 0 => true
  | n + 1 => sbB m l n && (!m.testBit n || l.testBit n)
def wgt (c m l : Nat) : Nat → Nat
  | 0 => 1
  | n + 1 => wgt c m l n * (if l.testBit n = true then (if m.testBit n = true then c else 10 - c) else 1)
theorem sbB_s (m l n : Nat) : sbB m l (n + 1) = (sbB m l n && (!m.testBit n || l.testBit n)) := rfl
theorem wgt_s (c m l n : Nat) : wgt c m l (n + 1) = wgt c m l n * (if l.testBit n = true then (if m.testBit n = true then c else 10 - c) else 1) := rfl
theorem sumN_split {f : Nat → Nat} (a : Nat) : ∀ b, sumN f (a + b) = sumN f a + sumN (fun i => f (a + i)) b
  | 0 => rfl
  | b + 1 => by
    show sumN f (a + b) + f (a + b) = sumN f a + (sumN (fun i => f (a + i)) b + f (a + b))
    rw [sumN_split a b]; omega
theorem sumN_mul {f : Nat → Nat} (a : Nat) : ∀ n, sumN (fun k => f k * a) n = sumN f n * a
  | 0 => (Nat.zero_mul a).symm
  | n + 1 => by
    unfold sumN
    rw [sumN_mul a n, Nat.add_mul]
theorem sumN_0 {f : Nat → Nat} : ∀ n, (∀ k, k < n → f k = 0) → sumN f n = 0
  | 0, _ => rfl
  | n + 1, h => by
    unfold sumN
    rw [sumN_0 n (fun k hk => h k (by omega)), h n (by omega)]
theorem sbB_c {m m' l : Nat} : ∀ n, (∀ k, k < n → m.testBit k = m'.testBit k) → sbB m l n = sbB m' l n
  | 0, _ => rfl
  | n + 1, h => by
    unfold sbB
    rw [sbB_c n (fun k hk => h k (by omega)), h n (by omega)]
theorem wgt_c {c m m' l : Nat} : ∀ n, (∀ k, k < n → m.testBit k = m'.testBit k) → wgt c m l n = wgt c m' l n
  | 0, _ => rfl
  | n + 1, h => by
    unfold wgt
    rw [wgt_c n (fun k hk => h k (by omega)), h n (by omega)]
theorem wgt_sum {c l : Nat} (hc : c ≤ 10) : ∀ n, sumN (fun m => if sbB m l n = true then wgt c m l n else 0) (2 ^ n) = 10 ^ cnt l n
  | 0 => by simp [sumN, sbB, wgt, cnt]
  | n + 1 => by
    have ih := wgt_sum (c := c) (l := l) hc n
    rw [show 2 ^ (n + 1) = 2 ^ n + 2 ^ n by rw [Nat.pow_succ]; omega, sumN_split, ← sumN_add]
    have hp : ∀ i, i < 2 ^ n → (if sbB i l (n + 1) = true then wgt c i l (n + 1) else 0) + (if sbB (2 ^ n + i) l (n + 1) = true then wgt c (2 ^ n + i) l (n + 1) else 0) = (if sbB i l n = true then wgt c i l n else 0) * 10 ^ (l.testBit n).toNat := by
      intro i hi
      have b1 : i.testBit n = false := Nat.testBit_lt_two_pow hi
      have b2 : (2 ^ n + i).testBit n = true := by rw [Nat.testBit_two_pow_add_eq, b1]; rfl
      have e1 : sbB (2 ^ n + i) l n = sbB i l n := sbB_c n (fun k hk => Nat.testBit_two_pow_add_gt hk i)
      have e2 : wgt c (2 ^ n + i) l n = wgt c i l n := wgt_c n (fun k hk => Nat.testBit_two_pow_add_gt hk i)
      rw [sbB_s, sbB_s, wgt_s, wgt_s, b1, b2, e1, e2]
      cases hs : sbB i l n with
      | false => simp
      | true =>
        cases hl : l.testBit n with
        | false => simp
        | true =>
          simp
          rw [← Nat.mul_add, show 10 - c + c = 10 by omega]
    rw [sumN_c (2 ^ n) hp, sumN_mul, ih]
    show 10 ^ cnt l n * 10 ^ (l.testBit n).toNat = 10 ^ (cnt l n + (l.testBit n).toNat)
    rw [Nat.pow_add]
theorem cnt_le {m l : Nat} : ∀ n, sbB m l n = true → cnt m n ≤ cnt l n
  | 0, _ => Nat.le_refl _
  | n + 1, h => by
    unfold sbB at h
    rw [Bool.and_eq_true] at h
    have := cnt_le n h.1
    have h2 := h.2
    show cnt m n + (m.testBit n).toNat ≤ cnt l n + (l.testBit n).toNat
    cases hm : m.testBit n with
    | false => simp; omega
    | true =>
      rw [hm] at h2
      have h3 : l.testBit n = true := by simpa using h2
      rw [h3]; omega
theorem cnt_n (m : Nat) : ∀ n, cnt m n ≤ n
  | 0 => Nat.le_refl _
  | n + 1 => by
    have := cnt_n m n
    show cnt m n + (m.testBit n).toNat ≤ n + 1
    have := Bool.toNat_le (m.testBit n)
    omega
theorem wgt_pw {c m l : Nat} : ∀ n, sbB m l n = true → wgt c m l n = c ^ cnt m n * (10 - c) ^ (cnt l n - cnt m n)
  | 0, _ => by simp [wgt, cnt, sumN]
  | n + 1, h => by
    unfold sbB at h
    rw [Bool.and_eq_true] at h
    have hl := cnt_le n h.1
    have h2 := h.2
    have em : cnt m (n + 1) = cnt m n + (m.testBit n).toNat := rfl
    have el : cnt l (n + 1) = cnt l n + (l.testBit n).toNat := rfl
    unfold wgt
    rw [wgt_pw n h.1, em, el]
    cases hm : m.testBit n with
    | false =>
      cases hb : l.testBit n with
      | false => simp
      | true =>
        simp
        rw [show cnt l n + 1 - cnt m n = (cnt l n - cnt m n) + 1 by omega, Nat.pow_succ, Nat.mul_assoc]
    | true =>
      rw [hm] at h2
      have h3 : l.testBit n = true := by simpa using h2
      rw [h3]
      simp
      rw [Nat.pow_succ, Nat.mul_right_comm]
theorem sbB_iff {m l : Nat} : ∀ n, sbB m l n = true ↔ ∀ k, k < n → m.testBit k = true → l.testBit k = true
  | 0 => ⟨fun _ k hk => absurd hk (by omega), fun _ => rfl⟩
  | n + 1 => by
    unfold sbB
    rw [Bool.and_eq_true, sbB_iff n]
    constructor
    · intro h k hk hm
      by_cases e : k = n
      · subst e
        have h2 := h.2
        rw [hm] at h2
        simpa using h2
      · exact h.1 k (by omega) hm
    · intro h
      refine ⟨fun k hk => h k (by omega), ?_⟩
      have := h n (by omega)
      cases hm : m.testBit n with
      | false => rfl
      | true => simpa using this hm
theorem land_sb {m l : Nat} (hm : m < 256) : (m &&& l = m) ↔ sbB m l 8 = true := by
  rw [sbB_iff]
  constructor
  · intro h k hk hb
    have := congrArg (fun z => z.testBit k) h
    simp only [Nat.testBit_and] at this
    rw [hb] at this
    simpa using this
  · intro h
    refine Nat.eq_of_testBit_eq (fun i => ?_)
    rw [Nat.testBit_and]
    cases hb : m.testBit i with
    | false => rfl
    | true =>
      by_cases hi : i < 8
      · rw [h i hi hb]; rfl
      · have : m.testBit i = false := Nat.testBit_lt_two_pow (Nat.lt_of_lt_of_le hm (show 2 ^ 8 ≤ 2 ^ i from Nat.pow_le_pow_right (by omega) (by omega)))
        rw [this] at hb
        cases hb
theorem sb_le {m l : Nat} (hm : m < 256) (h : sbB m l 8 = true) : m ≤ l := by
  have := (land_sb hm).mpr h
  have h2 := @Nat.and_le_right m l
  omega
theorem wgt_hi {c m l P : Nat} (hl : l < 2 ^ P) : ∀ n, P ≤ n → wgt c m l n = wgt c m l P
  | 0, h => by
    have : P = 0 := by omega
    rw [this]
  | n + 1, h => by
    by_cases e : P = n + 1
    · rw [e]
    · rw [wgt_s]
      have : l.testBit n = false := Nat.testBit_lt_two_pow (Nat.lt_of_lt_of_le hl (Nat.pow_le_pow_right (by omega) (by omega)))
      rw [this, wgt_hi hl n (by omega)]
      simp
theorem tb_has {m k : Nat} (hm : m < 256) (hk : k < 32) : hasB (nI m) k (m.testBit k) := by
  unfold hasB
  rw [bit_v (by omega) hk, ← Nat.toNat_testBit]
  cases m.testBit k <;> rfl
theorem cnt_pc (m : Nat) : cnt m 8 = pc8 m := by
  simp [cnt, sumN, Nat.toNat_testBit, pc8]
  rcases Nat.mod_two_eq_zero_or_one m with h | h <;> simp [h]
/-- the greatest common divisor, in not too many steps -/
theorem gcd_step (x y : Nat) : Nat.gcd x y = Nat.gcd y (x % y) := by
  rw [Nat.gcd_comm x y, Nat.gcd_rec, Nat.gcd_comm]
theorem rem_half {r s : Nat} (hs : 0 < s) (h : s < r) : 2 * (r % s) < r := by
  by_cases e : 2 * s ≤ r
  · have := Nat.mod_lt r hs
    omega
  · rw [Nat.mod_eq_sub_mod (by omega), Nat.mod_eq_of_lt (by omega)]
    omega
section Gc
variable {d : Nat} {Q : Option AV → Mem → Prop} {M : Mem}
theorem c_gcd_loop {g : Nat} (h : Q (some (zI (nI g))) M) (hg : 0 < g) : ∀ (k c r i : Nat), Nat.gcd c r = g → c < 2147483648 → r < 2147483648 → r < 2 ^ k → i + 2 * k < 100 → WP (wpd d) 1 T_X4_greatestCommon Q (7, [zU, zU, zI (nI c), zI (nI r), zI (nI i), zU], []) M := by
  have fin : ∀ c r i, Nat.gcd c r = g → c < 2147483648 → r = 0 → i < 100 → WP (wpd d) 1 T_X4_greatestCommon Q (7, [zU, zU, zI (nI c), zI (nI r), zI (nI i), zU], []) M := by
    intro c r i e hc hr hi
    subst hr
    rw [Nat.gcd_zero_right] at e
    subst e
    refine cp_X4_greatestCommon_7 _ _ _ _ ⟨fun z => ?_, fun _ => ⟨fun _ => ?_, fun z => absurd ((nle (by omega) (by omega)).mpr (Nat.le_refl 0)) z⟩⟩
    · rw [nle (by omega) (by omega)] at z
      omega
    · by_cases e : (nI 1 : Int32) < nI c
      · rw [if_pos e]; exact h
      · rw [if_neg e]
        rw [nlt (by omega) hc] at e
        have : c = 1 := by omega
        rw [this] at h
        exact h
  intro k
  induction k with
  | zero => intro c r i e hc hr h0 hi; exact fin c r i e hc (by omega) (by omega)
  | succ k ih =>
    intro c r i e hc hr hk hi
    by_cases r0 : r = 0
    · exact fin c r i e hc r0 (by omega)
    · have hs := Nat.mod_lt c (show 0 < r by omega)
      have step : ∀ c r i, 0 < r → c < 2147483648 → r < 2147483648 → i < 100 → WP (wpd d) 1 T_X4_greatestCommon Q (7, [zU, zU, zI (nI r), zI (nI (c % r)), zI (nI (i + 1)), zU], []) M → WP (wpd d) 1 T_X4_greatestCommon Q (7, [zU, zU, zI (nI c), zI (nI r), zI (nI i), zU], []) M := by
        intro c r i h0 hc hr hi w
        refine cp_X4_greatestCommon_7 _ _ _ _ ⟨fun z => ?_, fun _ => ⟨fun z => ?_, fun _ => ⟨fun z => ?_, ?_⟩⟩⟩
        · rw [nle (by omega) (by omega)] at z
          omega
        · rw [nle (by omega) (by omega)] at z
          omega
        · have z : nI r = nI 0 := z
          rw [neq (by omega) (by omega)] at z
          omega
        · rw [pk_rem (by omega) h0 (by omega), nI_add]
          exact w
      refine step c r i (by omega) hc hr (by omega) ?_
      have e1 : Nat.gcd r (c % r) = g := by rw [← gcd_step]; exact e
      by_cases s0 : c % r = 0
      · exact fin _ _ _ e1 hr s0 (by omega)
      · refine step r (c % r) (i + 1) (by omega) hr (by omega) (by omega) ?_
        have h2 := rem_half (show 0 < c % r by omega) hs
        have h3 : 2 ^ (k + 1) = 2 * 2 ^ k := Nat.pow_succ'
        refine ih _ _ _ (by rw [← gcd_step]; exact e1) (by omega) (by omega) (by omega) (by omega)
theorem c_gcd {a b : Nat} (ha : a ≤ 100000000) (hb : b ≤ 100000000) (h0 : 0 < b) (h : Q (some (zI (nI (Nat.gcd a b)))) M) : wpd (d + 1) 105 [zI (nI a), zI (nI b)] M Q :=
  en_X4_greatestCommon _ _ _ (c_gcd_loop h (Nat.gcd_pos_of_pos_right _ h0) 27 b a 0 (Nat.gcd_comm b a) (by omega) (by omega) (by omega) (by omega))
theorem c_power {b t : Nat} (hb : b < 2147483648) (ht : t < 2147483648) (h : Q (some (zI (nI (b ^ t)))) M) : wpd (d + 1) 104 [zI (nI b), zI (nI t)] M Q := by
  refine en_X4_power _ _ _ ?_
  have := up_ind (P := fun i => WP (wpd d) 1 T_X4_power Q (4, [zI (nI b), zI (nI t), zI (nI (b ^ i)), zI (nI i)], []) M) (n := t) ?_ ?_
  · exact this
  · exact cp_X4_power_4 _ _ _ _ _ ⟨fun _ => h, fun z => absurd ((nle (by omega) (by omega)).mpr (Nat.le_refl _)) z⟩
  · intro i hi ih
    refine cp_X4_power_4 _ _ _ _ _ ⟨fun z => ?_, fun _ => ?_⟩
    · rw [nle (by omega) (by omega)] at z
      omega
    · rw [pk_mul, nI_add, ← Nat.pow_succ]
      exact ih
theorem c_ones {m : Nat} (hm : m < 256) (h : Q (some (zI (nI (cnt m 8)))) M) : wpd (d + 1) 111 [zI (nI m)] M Q := by
  refine en_X5_ones _ _ ?_
  have := up_ind (P := fun i => WP (wpd d) 1 T_X5_ones Q (4, [zI (nI m), zI (nI (cnt m i)), zI (nI i)], []) M) (n := 8) ?_ ?_
  · exact this
  · exact cp_X5_ones_4 _ _ _ _ ⟨fun _ => h, fun z => absurd ((nle (by omega) (by omega)).mpr (Nat.le_refl _)) z⟩
  · intro i hi ih
    refine cp_X5_ones_4 _ _ _ _ ⟨fun z => ?_, fun _ => ?_⟩
    · rw [nle (by omega) (by omega)] at z
      omega
    · rw [bit_v (by omega) (by omega), nI_add, nI_add, ← Nat.toNat_testBit]
      exact ih
end Gc
