/-! TOWNS: an abstract value T in the reference's layout: 0 burn 1 places 2 players 3 evening 4 claps, 5+p oil, 13+p sitters, 21+4q kind, 22+4q place, 23+4q way, 24+4q crossed -/
def ups (T : Nat → Nat) (j v : Nat) : Nat → Nat := fun i => if i = j then v else T i
theorem ups_s {T : Nat → Nat} {j v : Nat} : ups T j v j = v := if_pos rfl
theorem ups_n {T : Nat → Nat} {j v i : Nat} (h : i ≠ j) : ups T j v i = T i := if_neg h
/-- the place's flame burns -/
def lB (T : Nat → Nat) (k : Nat) : Bool := decide (k < T 1) && decide (0 < T (5 + k))
def litM (T : Nat → Nat) : Nat := bso (fun p => decide (0 < T (5 + p))) (T 1)
/-- one place nearer to the nearest of S, of two the lesser -/
def nr (S : Nat → Bool) (P a : Nat) : Nat → Nat → Nat
  | 0, _ => a
  | n + 1, f => if f ≤ a ∧ S (a - f) = true then (if f = 0 then a else a - 1) else if a + f < P ∧ S (a + f) = true then (if f = 0 then a else a + 1) else nr S P a n (f + 1)
def inW (T : Nat → Nat) (q : Nat) : Bool := if T (23 + 4 * q) = 1 then decide (T (22 + 4 * q) + 1 < T 1) else decide (0 < T (22 + 4 * q))
def byW (T : Nat → Nat) (q : Nat) : Nat := if T (23 + 4 * q) = 1 then T (22 + 4 * q) + 1 else T (22 + 4 * q) - 1
def crs (T : Nat → Nat) (q : Nat) : Nat → Nat := ups (ups T (24 + 4 * q) 1) (13 + T (22 + 4 * q)) (T (13 + T (22 + 4 * q)) + 1)
def cartT (T : Nat → Nat) (q : Nat) : Nat → Nat := if inW T q = true then ups T (22 + 4 * q) (byW T q) else crs T q
def goT (T : Nat → Nat) (L : Nat → Bool) (q : Nat) : Nat → Nat :=
  if T (21 + 4 * q) = 1 then ups T (22 + 4 * q) (nr L (T 1) (T (22 + 4 * q)) (T 1) 0)
  else if T (21 + 4 * q) = 2 then (if L (T (22 + 4 * q)) = true then ups T (22 + 4 * q) (nr (fun k => !L k) (T 1) (T (22 + 4 * q)) (T 1) 0) else crs T q)
  else if T (21 + 4 * q) = 3 then (if inW T q = true ∧ L (byW T q) = true then ups T (22 + 4 * q) (byW T q) else ups T (23 + 4 * q) (1 - T (23 + 4 * q)))
  else if T (21 + 4 * q) = 4 then cartT T q
  else if T 3 % 2 = 0 then cartT T q else T
/-- the players up to n have gone -/
def evG (T : Nat → Nat) : Nat → Nat → Nat
  | 0 => T
  | n + 1 => if evG T n (24 + 4 * n) = 0 then goT (evG T n) (lB T) n else evG T n
/-- the sitters near a place -/
def near (T : Nat → Nat) (a : Nat) : Nat := (if 0 < a then T (13 + (a - 1)) else 0) + T (13 + a) + (if a + 1 < T 1 then T (13 + (a + 1)) else 0)
/-- claps for a player, by the lights L, of the players' places E, the sitters T -/
def clQ (T E : Nat → Nat) (L : Nat → Bool) (q : Nat) : Nat := if E (24 + 4 * q) = 0 ∧ L (E (22 + 4 * q)) = true then near T (E (22 + 4 * q)) else 0
def sumN (f : Nat → Nat) : Nat → Nat
  | 0 => 0
  | n + 1 => sumN f n + f n
def clS (T : Nat → Nat) : Nat := sumN (clQ T (evG T (T 2)) (lB T)) (T 2)
/-- how many stay at a place -/
def atN (E : Nat → Nat) (p n : Nat) : Nat := sumN (fun q => if E (24 + 4 * q) = 0 ∧ E (22 + 4 * q) = p then 1 else 0) n
/-- one evening -/
def ev (T : Nat → Nat) : Nat → Nat := fun j =>
  if j = 3 then T 3 + 1
  else if j = 4 then min 999999 (T 4 + clS T)
  else if 5 ≤ j ∧ j < 13 then (if lB T (j - 5) = true then T j - atN (evG T (T 2)) (j - 5) (T 2) - T 0 else T j)
  else evG T (T 2) j
/-- a town that stands -/
def okT (T : Nat → Nat) : Prop := T 0 ≤ 3 ∧ 4 ≤ T 1 ∧ T 1 ≤ 8 ∧ T 2 ≤ 6 ∧ T 4 ≤ 999999 ∧ (∀ p, p < 8 → T (5 + p) ≤ 1000) ∧ (∀ p, p < 8 → T (13 + p) ≤ 6 + sumN (fun q => T (24 + 4 * q)) (T 2)) ∧
  (∀ q, q < T 2 → 1 ≤ T (21 + 4 * q) ∧ T (21 + 4 * q) ≤ 5 ∧ T (22 + 4 * q) < T 1 ∧ T (23 + 4 * q) ≤ 1 ∧ T (24 + 4 * q) ≤ 1)
/-- the players and the shape, as the class's town t has them -/
def CTx (M : Mem) (t : Nat) (E O Z : Nat → Nat) : Prop :=
  M 6 t 5 = nI (E 1) ∧ M 6 t 6 = nI (E 2) ∧ M 6 t 7 = nI (E 0) ∧ M 6 t 9 = nI (E 3) ∧ M 6 t 8 = nI (bso (fun q => decide (E (24 + 4 * q) = 1)) (E 2)) ∧
  (∀ p, p < E 1 → M 7 t p = nI (O p)) ∧ (∀ p, p < 8 → M 8 t p = nI (Z p)) ∧ (∀ q, q < E 2 → M 9 t q = nI (E (21 + 4 * q)) ∧ M 10 t q = nI (E (22 + 4 * q)) ∧ M 11 t q = nI (E (23 + 4 * q)))
def CT (M : Mem) (t : Nat) (T : Nat → Nat) : Prop := CTx M t T (fun p => T (5 + p)) (fun p => T (13 + p)) ∧ M 6 t 10 = nI (T 4)
def MT (M : Mem) (w : Nat) (T : Nat → Nat) : Prop := ∀ j, j < 45 → M 22 w j = nI (T j)
/-- the shape that keeps while players go -/
def shp1 (E : Nat → Nat) : Prop := 1 ≤ E 1 ∧ E 1 ≤ 8 ∧ E 2 ≤ 6 ∧ ∀ q, q < E 2 → E (22 + 4 * q) < E 1 ∧ E (23 + 4 * q) ≤ 1 ∧ E (24 + 4 * q) ≤ 1
theorem lB_lt {T : Nat → Nat} {k : Nat} (h : lB T k = true) : k < T 1 := by
  unfold lB at h
  rw [Bool.and_eq_true] at h
  exact of_decide_eq_true h.1
theorem litM_b {T : Nat → Nat} {k : Nat} (h : T 1 ≤ 8) (hk : k < 32) : hasB (nI (litM T)) k (lB T k) := hasB_bso h hk
theorem bso_set {f g : Nat → Bool} {q : Nat} : ∀ n, q < n → f q = false → g q = true → (∀ k, k ≠ q → g k = f k) → bso g n = bso f n + 2 ^ q
  | 0, h, _, _, _ => absurd h (by omega)
  | n + 1, h, hf, hg, hk => by
    unfold bso
    by_cases e : q = n
    · subst e
      rw [bso_cong q (fun k hq => hk k (by omega)), hf, hg]
      rfl
    · rw [bso_set n (by omega) hf hg hk, hk n (fun z => e z.symm)]
      omega
theorem or_c : ∀ m, m < 64 → ∀ q, q < 6 → m / 2 ^ q % 2 = 0 → nI m ||| (nI 1 <<< (nI q &&& 31)) = nI (m + 2 ^ q) := by decide +kernel
section Ct
variable {M : Mem} {t : Nat} {E O Z : Nat → Nat}
theorem CTx.at {q v : Nat} (h : CTx M t E O Z) : CTx (mup M 10 t q (nI v)) t (ups E (22 + 4 * q) v) O Z := by
  obtain ⟨h1, h2, h3, h4, h5, h6, h7, h8⟩ := h
  have e1 : ups E (22 + 4 * q) v 1 = E 1 := ups_n (by omega)
  have e2 : ups E (22 + 4 * q) v 2 = E 2 := ups_n (by omega)
  refine ⟨by rw [mup_r (by omega), e1]; exact h1, by rw [mup_r (by omega), e2]; exact h2, by rw [mup_r (by omega), ups_n (by omega)]; exact h3, by rw [mup_r (by omega), ups_n (by omega)]; exact h4, ?_, ?_, ?_, ?_⟩
  · rw [mup_r (by omega), h5, e2]
    congr 1
    exact bso_cong _ (fun k _ => by rw [ups_n (by omega)])
  · intro p hp
    rw [e1] at hp
    rw [mup_r (by omega)]; exact h6 p hp
  · intro p hp
    rw [mup_r (by omega)]; exact h7 p hp
  · intro r hr
    rw [e2] at hr
    obtain ⟨a, b, c⟩ := h8 r hr
    refine ⟨by rw [mup_r (by omega), ups_n (by omega)]; exact a, ?_, by rw [mup_r (by omega), ups_n (by omega)]; exact c⟩
    rw [mup_ap]
    by_cases z : r = q
    · subst z
      rw [if_pos ⟨rfl, rfl, rfl⟩, ups_s]
    · rw [if_neg (by omega), ups_n (by omega)]; exact b
theorem CTx.wy {q v : Nat} (h : CTx M t E O Z) : CTx (mup M 11 t q (nI v)) t (ups E (23 + 4 * q) v) O Z := by
  obtain ⟨h1, h2, h3, h4, h5, h6, h7, h8⟩ := h
  have e1 : ups E (23 + 4 * q) v 1 = E 1 := ups_n (by omega)
  have e2 : ups E (23 + 4 * q) v 2 = E 2 := ups_n (by omega)
  refine ⟨by rw [mup_r (by omega), e1]; exact h1, by rw [mup_r (by omega), e2]; exact h2, by rw [mup_r (by omega), ups_n (by omega)]; exact h3, by rw [mup_r (by omega), ups_n (by omega)]; exact h4, ?_, ?_, ?_, ?_⟩
  · rw [mup_r (by omega), h5, e2]
    congr 1
    exact bso_cong _ (fun k _ => by rw [ups_n (by omega)])
  · intro p hp
    rw [e1] at hp
    rw [mup_r (by omega)]; exact h6 p hp
  · intro p hp
    rw [mup_r (by omega)]; exact h7 p hp
  · intro r hr
    rw [e2] at hr
    obtain ⟨a, b, c⟩ := h8 r hr
    refine ⟨by rw [mup_r (by omega), ups_n (by omega)]; exact a, by rw [mup_r (by omega), ups_n (by omega)]; exact b, ?_⟩
    rw [mup_ap]
    by_cases z : r = q
    · subst z
      rw [if_pos ⟨rfl, rfl, rfl⟩, ups_s]
    · rw [if_neg (by omega), ups_n (by omega)]; exact c
theorem crs_n {q j : Nat} (ha : E (22 + 4 * q) < 8) (hj : j ≠ 24 + 4 * q) (h : j < 13 ∨ 21 ≤ j) : crs E q j = E j := by
  unfold crs
  rw [ups_n (by omega), ups_n hj]
theorem crs_c {q : Nat} (ha : E (22 + 4 * q) < 8) : crs E q (24 + 4 * q) = 1 := by
  unfold crs
  rw [ups_n (by omega), ups_s]
theorem CTx.cr {q : Nat} (h : CTx M t E O Z) (hn : E 2 ≤ 6) (hq : q < E 2) (ha : E (22 + 4 * q) < 8) (hc : E (24 + 4 * q) = 0) : CTx (mup M 6 t 8 (M 6 t 8 ||| (nI 1 <<< (nI q &&& 31)))) t (crs E q) O Z := by
  obtain ⟨h1, h2, h3, h4, h5, h6, h7, h8⟩ := h
  have e1 : crs E q 1 = E 1 := crs_n ha (by omega) (by omega)
  have e2 : crs E q 2 = E 2 := crs_n ha (by omega) (by omega)
  refine ⟨by rw [mup_ap, if_neg (by omega), e1]; exact h1, by rw [mup_ap, if_neg (by omega), e2]; exact h2, by rw [mup_ap, if_neg (by omega), crs_n ha (by omega) (by omega)]; exact h3, by rw [mup_ap, if_neg (by omega), crs_n ha (by omega) (by omega)]; exact h4, ?_, ?_, ?_, ?_⟩
  · rw [mup_ap, if_pos ⟨rfl, rfl, rfl⟩, h5, e2]
    have hl := bso_lt (fun q => decide (E (24 + 4 * q) = 1)) (E 2)
    have hp : 2 ^ (E 2) ≤ 2 ^ 6 := Nat.pow_le_pow_right (by omega) hn
    have hb := bso_bit (fun q => decide (E (24 + 4 * q) = 1)) (E 2) q
    have hf : (fun q => decide (E (24 + 4 * q) = 1)) q = false := by show decide (E (24 + 4 * q) = 1) = false; rw [hc]; rfl
    have hf2 : decide (E (24 + 4 * q) = 1) = false := hf
    rw [hf2, Bool.and_false] at hb
    rw [or_c _ (by omega) q (by omega) hb]
    congr 1
    symm
    refine bso_set (E 2) hq hf ?_ ?_
    · show decide (crs E q (24 + 4 * q) = 1) = true
      rw [crs_c ha]; rfl
    · intro k hk
      show decide (crs E q (24 + 4 * k) = 1) = decide (E (24 + 4 * k) = 1)
      rw [crs_n ha (by omega) (by omega)]
  · intro p hp
    rw [e1] at hp
    rw [mup_r (by omega)]; exact h6 p hp
  · intro p hp
    rw [mup_r (by omega)]; exact h7 p hp
  · intro r hr
    rw [e2] at hr
    obtain ⟨a, b, c⟩ := h8 r hr
    exact ⟨by rw [mup_r (by omega), crs_n ha (by omega) (by omega)]; exact a, by rw [mup_r (by omega), crs_n ha (by omega) (by omega)]; exact b, by rw [mup_r (by omega), crs_n ha (by omega) (by omega)]; exact c⟩
end Ct
/-! the nearest -/
theorem nr_far {S : Nat → Bool} {P a : Nat} (ha : a < P) : ∀ n f, P ≤ f → nr S P a n f = a
  | 0, _, _ => rfl
  | n + 1, f, h => by
    unfold nr
    rw [if_neg (by omega), if_neg (by omega)]
    exact nr_far ha n (f + 1) (by omega)
theorem nr_more {S : Nat → Bool} {P a : Nat} (ha : a < P) : ∀ n m f, P ≤ f + n → nr S P a (n + m) f = nr S P a n f
  | 0, m, f, h => by rw [nr_far ha _ _ (by omega), nr_far ha _ _ (by omega)]
  | n + 1, m, f, h => by
    rw [show n + 1 + m = (n + m) + 1 by omega]
    unfold nr
    rw [nr_more ha n m (f + 1) (by omega)]
theorem nr_0 {S : Nat → Bool} {P a : Nat} (h : S a = false) (hP : 1 ≤ P) (ha : a < P) (h8 : P ≤ 8) : nr S P a P 0 = nr S P a 7 1 := by
  obtain ⟨n, rfl⟩ : ∃ n, P = n + 1 := ⟨P - 1, by omega⟩
  rw [show nr S (n + 1) a (n + 1) 0 = nr S (n + 1) a n 1 by
    conv => lhs; unfold nr
    rw [Nat.sub_zero, Nat.add_zero, h]
    simp]
  have := nr_more (S := S) ha n (7 - n) 1 (by omega)
  rw [show n + (7 - n) = 7 by omega] at this
  exact this.symm
theorem nr_s {S : Nat → Bool} {P a : Nat} (h : S a = true) (hP : 1 ≤ P) : nr S P a P 0 = a := by
  obtain ⟨n, rfl⟩ : ∃ n, P = n + 1 := ⟨P - 1, by omega⟩
  unfold nr
  rw [if_pos ⟨Nat.zero_le _, by rw [Nat.sub_zero]; exact h⟩, if_pos rfl]
theorem nr_lt {S : Nat → Bool} {P a : Nat} (ha : a < P) : ∀ n f, nr S P a n f < P
  | 0, _ => ha
  | n + 1, f => by
    unfold nr
    split
    · split <;> omega
    · split
      · split <;> omega
      · exact nr_lt ha n (f + 1)
