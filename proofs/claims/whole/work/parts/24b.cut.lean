/-! cutting an int: shifts left and right are the narrowing -/
theorem bmv {n : Nat} (h : n < 4294967296) : (n : Int).bmod 4294967296 = if n < 2147483648 then (n : Int) else (n : Int) - 4294967296 := by
  rw [Int.bmod_def]
  have e : ((n : Int) % ((4294967296 : Nat) : Int)) = n := Int.emod_eq_of_lt (by omega) (by omega)
  rw [e]
  by_cases c : n < 2147483648
  · rw [if_pos c, if_pos (by omega)]
  · rw [if_neg c, if_neg (by omega)]
    rfl
theorem shv {m k : Nat} {K L : Nat} (hK : K * L = 4294967296) (hL : 2 ≤ L) (hK0 : 0 < K) (hm : m < L) (he : L = 2 * k) : (((m * K : Nat) : Int).bmod 4294967296) / (K : Int) = if m < k then (m : Int) else (m : Int) - L := by
  have hlt : m * K < 4294967296 := by
    rw [← hK, Nat.mul_comm K L]
    exact Nat.mul_lt_mul_of_pos_right hm hK0
  rw [bmv hlt]
  have hk : k * K = 2147483648 := by
    have : 2 * (k * K) = 4294967296 := by rw [← hK, he, Nat.mul_comm K, Nat.mul_assoc]
    omega
  by_cases c : m < k
  · have : m * K < k * K := Nat.mul_lt_mul_of_pos_right c hK0
    rw [if_pos c, if_pos (by omega), Int.natCast_mul, Int.mul_ediv_cancel _ (by omega)]
  · have : k * K ≤ m * K := Nat.mul_le_mul_right K (by omega)
    rw [if_neg c, if_neg (by omega)]
    have e : ((m * K : Nat) : Int) - 4294967296 = ((m : Int) - L) * K := by
      rw [Int.sub_mul, Int.natCast_mul, ← Int.natCast_mul L K, Nat.mul_comm L K, hK]
      rfl
    rw [e, Int.mul_ediv_cancel _ (by omega)]
theorem bms {n L k : Nat} (h : n < 4294967296) {K : Nat} (hK : K * L = 4294967296) (hL : 2 ≤ L) (he : L = 2 * k) : ((n : Int).bmod 4294967296).bmod L = if n % L < k then ((n % L : Nat) : Int) else ((n % L : Nat) : Int) - L := by
  rw [bmv h]
  have key : ∀ z : Int, z % (L : Int) = ((n % L : Nat) : Int) → z.bmod L = if n % L < k then ((n % L : Nat) : Int) else ((n % L : Nat) : Int) - L := by
    intro z hz
    rw [Int.bmod_def, hz]
    by_cases c : n % L < k
    · rw [if_pos c, if_pos (by omega)]
    · rw [if_neg c, if_neg (by omega)]
  split
  · exact key _ (Int.natCast_emod n L).symm
  · refine key _ ?_
    rw [show (4294967296 : Int) = ((K : Int) * (L : Int)) by rw [← Int.natCast_mul, hK]; rfl, Int.sub_mul_emod_self_right]
    exact (Int.natCast_emod n L).symm
theorem cutV {v : Int32} {s : Int32} {c K L k : Nat} (hs : (s.toBitVec.smod 32).toNat = c) (hc : 2 ^ c = K) (hK : K * L = 4294967296) (hL : 2 ≤ L) (he : L = 2 * k) (hK0 : 0 < K) : ((v <<< s) >>> s).toInt = v.toInt.bmod L := by
  have hn : v.toBitVec.toNat < 4294967296 := v.toBitVec.isLt
  have h1 : (v <<< s).toInt = ((v.toBitVec.toNat * K % 4294967296 : Nat) : Int).bmod 4294967296 := by
    rw [← hc, show (4294967296 : Nat) = 2 ^ 32 by decide, ← pk_shl v s c hs]; exact BitVec.toInt_eq_toNat_bmod _
  have h2 : v.toInt = (v.toBitVec.toNat : Int).bmod 4294967296 := BitVec.toInt_eq_toNat_bmod _
  rw [pk_shr _ _ c hs, h1, h2, Int.shiftRight_eq_div_pow, bms hn hK hL he]
  generalize v.toBitVec.toNat = n at *
  have e : n * K % 4294967296 = (n % L) * K := by rw [← hK, Nat.mul_comm K L, Nat.mul_mod_mul_right]
  have e2 : ((2 ^ c : Nat) : Int) = (K : Int) := by rw [hc]
  rw [e, e2]
  exact shv hK hL hK0 (Nat.mod_lt _ (by omega)) he
theorem cut8 (v : Int32) : (v <<< (nI 24 &&& 31)) >>> (nI 24 &&& 31) = v.toInt8.toInt32 := by
  apply Int32.toInt_inj.mp
  rw [Int8.toInt_toInt32, Int32.toInt_toInt8, cutV (c := 24) (K := 16777216) (L := 256) (k := 128) (by decide) (by decide) (by decide) (by decide) (by decide) (by decide)]
theorem cut16 (v : Int32) : (v <<< (nI 16 &&& 31)) >>> (nI 16 &&& 31) = v.toInt16.toInt32 := by
  apply Int32.toInt_inj.mp
  rw [Int16.toInt_toInt32, Int32.toInt_toInt16, cutV (c := 16) (K := 65536) (L := 65536) (k := 32768) (by decide) (by decide) (by decide) (by decide) (by decide) (by decide)]
