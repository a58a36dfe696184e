/-! NUMBERS, BITS, MEMORY -/
theorem vin {n N : Nat} (hn : n < 2147483648) : vp_in (nI n) N ↔ n < N := by
  unfold vp_in
  rw [nI_clamp hn]
  constructor
  · intro h
    omega
  · intro h z
    rcases z with z | z
    · exact absurd z (nI_pos hn)
    · omega
theorem vin_i {n N : Nat} (h : n < N) (hN : N ≤ 2147483648) : vp_in (nI n) N := (vin (by omega)).mpr h
theorem nle {a b : Nat} (ha : a < 2147483648) (hb : b < 2147483648) : nI a ≤ nI b ↔ a ≤ b := nI_leI ha hb
theorem nlt {a b : Nat} (ha : a < 2147483648) (hb : b < 2147483648) : nI a < nI b ↔ a < b := nI_ltI ha hb
theorem neq {a b : Nat} (ha : a < 2147483648) (hb : b < 2147483648) : nI a = nI b ↔ a = b := nI_eq ha hb
theorem ncl {a : Nat} (ha : a < 2147483648) : (nI a).toNatClampNeg = a := nI_clamp ha
theorem sh_1 : ∀ p, p < 31 → nI 1 <<< (nI p &&& 31) = nI (2 ^ p) := by decide +kernel
theorem sh_k : ∀ k, k < 32 → ((nI k &&& 31).toBitVec.smod 32).toNat = k := by decide +kernel
theorem bit_v {m k : Nat} (hm : m < 2147483648) (hk : k < 32) : (nI m >>> (nI k &&& 31)) &&& nI 1 = nI (m / 2 ^ k % 2) := by
  rw [pk_shrN hm (nI k &&& 31) k (sh_k k hk)]
  have h1 : m / 2 ^ k < 2 ^ 32 := Nat.lt_of_le_of_lt (Nat.div_le_self _ _) (by omega)
  rw [pk_andN h1 1 (by decide)]
theorem or_b : ∀ p, p < 8 → ∀ m, m < 2 ^ p → nI m ||| (nI 1 <<< (nI p &&& 31)) = nI (m + 2 ^ p) := by decide +kernel
theorem or_0 (x : Int32) : x ||| nI 0 = x := Int32.or_zero
def bso (f : Nat → Bool) : Nat → Nat
  | 0 => 0
  | n + 1 => bso f n + cond (f n) (2 ^ n) 0
theorem bso_lt (f : Nat → Bool) : ∀ n, bso f n < 2 ^ n
  | 0 => by simp [bso]
  | n + 1 => by
    have h := bso_lt f n
    have e : 2 ^ (n + 1) = 2 * 2 ^ n := Nat.pow_succ'
    unfold bso
    cases f n <;> simp only [cond_true, cond_false] <;> omega
theorem bso_bit (f : Nat → Bool) : ∀ (n k : Nat), bso f n / 2 ^ k % 2 = cond (decide (k < n) && f k) 1 0
  | 0, k => by simp [bso]
  | n + 1, k => by
    have hl := bso_lt f n
    unfold bso
    rcases Nat.lt_trichotomy k n with h | h | h
    · have ih := bso_bit f n k
      have e : 2 ^ n = 2 ^ k * (2 * 2 ^ (n - k - 1)) := by
        rw [← Nat.pow_succ', ← Nat.pow_add]; congr 1; omega
      have hp : 0 < 2 ^ k := Nat.two_pow_pos k
      have e2 : (bso f n + cond (f n) (2 ^ n) 0) / 2 ^ k % 2 = bso f n / 2 ^ k % 2 := by
        cases f n
        · simp
        · simp only [cond_true]
          rw [e, Nat.add_mul_div_left _ _ hp, Nat.add_mul_mod_self_left]
      rw [e2, ih]
      simp [h, Nat.lt_succ_of_lt h]
    · subst h
      have hp : 0 < 2 ^ k := Nat.two_pow_pos k
      cases hf : f k
      · simp [Nat.div_eq_of_lt hl]
      · simp only [cond_true]
        rw [show bso f k + 2 ^ k = bso f k + 2 ^ k * 1 by omega, Nat.add_mul_div_left _ _ hp, Nat.div_eq_of_lt hl]
        simp
    · have e : 2 ^ (n + 1) ≤ 2 ^ k := Nat.pow_le_pow_right (by omega) h
      have e1 : 2 ^ (n + 1) = 2 * 2 ^ n := Nat.pow_succ'
      have hlt : bso f n + cond (f n) (2 ^ n) 0 < 2 ^ k := by
        cases f n <;> simp only [cond_true, cond_false] <;> omega
      rw [Nat.div_eq_of_lt hlt]
      simp [show ¬ k < n + 1 by omega]
theorem bso_cong {f g : Nat → Bool} : ∀ n, (∀ k, k < n → f k = g k) → bso f n = bso g n
  | 0, _ => rfl
  | n + 1, h => by
    unfold bso
    rw [bso_cong n (fun k hk => h k (by omega)), h n (by omega)]
/-- the bit k of x is b -/
def hasB (x : Int32) (k : Nat) (b : Bool) : Prop := (x >>> (nI k &&& 31)) &&& nI 1 = nI (cond b 1 0)
theorem hasB_bso {f : Nat → Bool} {n k : Nat} (hn : n ≤ 8) (hk : k < 32) : hasB (nI (bso f n)) k (decide (k < n) && f k) := by
  unfold hasB
  have h := bso_lt f n
  have e : 2 ^ n ≤ 2 ^ 8 := Nat.pow_le_pow_right (by omega) hn
  rw [bit_v (by omega) hk, bso_bit]
theorem not_b : ∀ m, m < 256 → ∀ k, k < 16 → ((nI m ^^^ (-1)) >>> (nI k &&& 31)) &&& nI 1 = nI (1 - m / 2 ^ k % 2) := by decide +kernel
theorem hasB_not {f : Nat → Bool} {n k : Nat} (hn : n ≤ 8) (hk : k < 16) : hasB (nI (bso f n) ^^^ (-1)) k (!(decide (k < n) && f k)) := by
  unfold hasB
  have h := bso_lt f n
  have e : 2 ^ n ≤ 2 ^ 8 := Nat.pow_le_pow_right (by omega) hn
  rw [not_b _ (by omega) k hk, bso_bit]
  cases (decide (k < n) && f k) <;> rfl
def pc8 (m : Nat) : Nat := m % 2 + m / 2 % 2 + m / 4 % 2 + m / 8 % 2 + m / 16 % 2 + m / 32 % 2 + m / 64 % 2 + m / 128 % 2
theorem c10 : ¬ (nI 1 : Int32) = nI 0 := by decide
theorem c01 : ¬ (nI 0 : Int32) = nI 1 := by decide
theorem z0 : (nI 0 : Int32) = 0 ∨ (nI 0 : Int32) = 1 := Or.inl rfl
theorem z1 : (nI 1 : Int32) = 0 ∨ (nI 1 : Int32) = 1 := Or.inr rfl
/-! branches behind a call that answers a boolean -/
theorem gTe {A B : Int32 → Prop} (h : B (nI 1)) : gO (some (zI (nI 1))) fun v => (v = nI 0 → A v) ∧ (¬ v = nI 0 → B v) := ⟨fun z => absurd z c10, fun _ => h⟩
theorem gFe {A B : Int32 → Prop} (h : A (nI 0)) : gO (some (zI (nI 0))) fun v => (v = nI 0 → A v) ∧ (¬ v = nI 0 → B v) := ⟨fun _ => h, fun z => absurd rfl z⟩
theorem gTn {A B : Int32 → Prop} (h : A (nI 1)) : gO (some (zI (nI 1))) fun v => (¬ v = nI 0 → A v) ∧ (v = nI 0 → B v) := ⟨fun _ => h, fun z => absurd z c10⟩
theorem gFn {A B : Int32 → Prop} (h : B (nI 0)) : gO (some (zI (nI 0))) fun v => (¬ v = nI 0 → A v) ∧ (v = nI 0 → B v) := ⟨fun z => absurd rfl z, fun _ => h⟩
/-! memory -/
theorem mup_ap (M : Mem) (k i j : Nat) (v : Int32) (k' i' j' : Nat) : mup M k i j v k' i' j' = if k' = k ∧ i' = i ∧ j' = j then v else M k' i' j' := by
  unfold mup mrow upd
  by_cases h : k' = k ∧ i' = i
  · obtain ⟨rfl, rfl⟩ := h
    simp
  · rw [if_neg h, if_neg (fun z => h ⟨z.1, z.2.1⟩)]
theorem mup_r {M : Mem} {k i j : Nat} {v : Int32} {k' i' : Nat} (h : ¬ (k' = k ∧ i' = i)) : mup M k i j v k' i' = M k' i' := mrow_n h
theorem mup_k {M : Mem} {k i j : Nat} {v : Int32} {k' : Nat} (h : k' ≠ k) : mup M k i j v k' = M k' := mrow_k h
theorem mrow_ap (M : Mem) (k i : Nat) (f : Nat → Int32) (k' i' : Nat) : mrow M k i f k' i' = if k' = k ∧ i' = i then f else M k' i' := rfl
/-- nothing but S has changed -/
def Sm (S : Nat → Nat → Prop) (M M' : Mem) : Prop := ∀ k i, ¬ S k i → M' k i = M k i
theorem Sm.rf {S : Nat → Nat → Prop} {M : Mem} : Sm S M M := fun _ _ _ => rfl
theorem Sm.tr {S : Nat → Nat → Prop} {M M1 M2 : Mem} (h : Sm S M M1) (g : Sm S M1 M2) : Sm S M M2 := fun k i n => (g k i n).trans (h k i n)
theorem Sm.up {S : Nat → Nat → Prop} {M M1 : Mem} {k i j : Nat} {v : Int32} (h : Sm S M M1) (hs : S k i) : Sm S M (mup M1 k i j v) := fun k' i' n => (mup_r (fun z => n (by rw [z.1, z.2]; exact hs))).trans (h k' i' n)
theorem Sm.row {S : Nat → Nat → Prop} {M M1 : Mem} {k i : Nat} {f : Nat → Int32} (h : Sm S M M1) (hs : S k i) : Sm S M (mrow M1 k i f) := fun k' i' n => (mrow_n (fun z => n (by rw [z.1, z.2]; exact hs))).trans (h k' i' n)
theorem Sm.mono {S S' : Nat → Nat → Prop} {M M' : Mem} (h : Sm S M M') (hs : ∀ k i, S k i → S' k i) : Sm S' M M' := fun k i n => h k i (fun z => n (hs k i z))
/-! small methods -/
section Small
variable {d : Nat} {Q : Option AV → Mem → Prop} {M : Mem}
theorem c_has {x : Int32} {k : Nat} {b : Bool} (h : hasB x k b) (h1 : b = true → Q (some (zI (nI 1))) M) (h0 : b = false → Q (some (zI (nI 0))) M) : wpd (d + 1) 110 [zI x, zI (nI k)] M Q := by
  refine en_X5_has _ _ _ ?_
  rw [h]
  cases b with
  | true => exact ⟨fun z => absurd rfl z, fun _ => ⟨z1, h1 rfl⟩⟩
  | false => exact ⟨fun _ => ⟨z0, h0 rfl⟩, fun z => absurd z c01⟩
theorem c_hasBit {x : Int32} {k : Nat} {b : Bool} (h : hasB x k b) (h1 : b = true → Q (some (zI (nI 1))) M) (h0 : b = false → Q (some (zI (nI 0))) M) : wpd (d + 1) 93 [zI x, zI (nI k)] M Q := by
  refine en_X4_hasBit _ _ _ ?_
  rw [h]
  cases b with
  | true => exact ⟨fun z => absurd rfl z, fun _ => ⟨z1, h1 rfl⟩⟩
  | false => exact ⟨fun _ => ⟨z0, h0 rfl⟩, fun z => absurd z c01⟩
theorem c_in {v lo hi : Int32} (h1 : lo ≤ v → v ≤ hi → Q (some (zI (nI 1))) M) (h0 : ¬ (lo ≤ v ∧ v ≤ hi) → Q (some (zI (nI 0))) M) : wpd (d + 1) 109 [zI v, zI lo, zI hi] M Q := by
  refine en_X5_in _ _ _ _ ?_
  refine ⟨fun z => ⟨z0, h0 (fun q => ?_)⟩, fun z => ⟨fun z2 => ⟨z0, h0 (fun q => ?_)⟩, fun z2 => ⟨z1, h1 ?_ ?_⟩⟩⟩
  · exact absurd q.1 (Int32.not_le.mpr z)
  · exact absurd q.2 (Int32.not_le.mpr z2)
  · exact Int32.not_lt.mp z
  · exact Int32.not_lt.mp z2
theorem c_isWithin {v lo hi : Int32} (h1 : lo ≤ v → v ≤ hi → Q (some (zI (nI 1))) M) (h0 : ¬ (lo ≤ v ∧ v ≤ hi) → Q (some (zI (nI 0))) M) : wpd (d + 1) 91 [zI v, zI lo, zI hi] M Q := by
  refine en_X4_isWithin _ _ _ _ ?_
  refine ⟨fun z => ⟨z0, h0 (fun q => ?_)⟩, fun z => ⟨fun z2 => ⟨z0, h0 (fun q => ?_)⟩, fun z2 => ⟨z1, h1 ?_ ?_⟩⟩⟩
  · exact absurd q.1 (Int32.not_le.mpr z)
  · exact absurd q.2 (Int32.not_le.mpr z2)
  · exact Int32.not_lt.mp z
  · exact Int32.not_lt.mp z2
theorem c_lesser {a b : Int32} (h : Q (some (zI (if a < b then a else b))) M) : wpd (d + 1) 112 [zI a, zI b] M Q := by
  refine en_X5_lesser _ _ _ ?_
  by_cases e : a < b
  · rw [if_pos e] at h
    exact ⟨fun z => absurd e (Int32.not_lt.mpr z), fun _ => h⟩
  · rw [if_neg e] at h
    exact ⟨fun _ => h, fun z => absurd (Int32.not_lt.mp e) z⟩
end Small
