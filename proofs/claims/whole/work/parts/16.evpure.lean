/-! one evening: what stays, what grows (pure) -/
section Pure
variable {T E : Nat → Nat} {L : Nat → Bool} {q : Nat}
/-- goT changes the player's place, way, crossed, and, when it crosses, the sitters at its place -/
theorem goT_cases (T : Nat → Nat) (L : Nat → Bool) (q : Nat) : (∃ v, goT T L q = ups T (22 + 4 * q) v ∧ (T 1 ≤ 8 → 1 ≤ T 1 → T (22 + 4 * q) < T 1 → v < T 1)) ∨ goT T L q = ups T (23 + 4 * q) (1 - T (23 + 4 * q)) ∨ goT T L q = crs T q ∨ goT T L q = T := by
  have cart : (∃ v, cartT T q = ups T (22 + 4 * q) v ∧ (T 1 ≤ 8 → 1 ≤ T 1 → T (22 + 4 * q) < T 1 → v < T 1)) ∨ cartT T q = crs T q := by
    unfold cartT
    split
    · rename_i h
      refine Or.inl ⟨_, rfl, fun _ _ _ => ?_⟩
      unfold inW at h
      unfold byW
      split at h
      · rename_i w; rw [if_pos w]; exact of_decide_eq_true h
      · rename_i w; rw [if_neg w]; omega
    · exact Or.inr rfl
  unfold goT
  split
  · exact Or.inl ⟨_, rfl, fun _ _ h => nr_lt h _ _⟩
  · split
    · split
      · exact Or.inl ⟨_, rfl, fun _ _ h => nr_lt h _ _⟩
      · exact Or.inr (Or.inr (Or.inl rfl))
    · split
      · split
        · rename_i h
          refine Or.inl ⟨_, rfl, fun _ _ _ => ?_⟩
          have h := h.1
          unfold inW at h
          unfold byW
          split at h
          · rename_i w; rw [if_pos w]; exact of_decide_eq_true h
          · rename_i w; rw [if_neg w]; omega
        · exact Or.inr (Or.inl rfl)
      · split
        · rcases cart with h | h
          · exact Or.inl h
          · exact Or.inr (Or.inr (Or.inl h))
        · split
          · rcases cart with h | h
            · exact Or.inl h
            · exact Or.inr (Or.inr (Or.inl h))
          · exact Or.inr (Or.inr (Or.inr rfl))
theorem goT_o (ha : T (22 + 4 * q) < 8) {j : Nat} (h : j < 13 ∨ (21 ≤ j ∧ j ≠ 22 + 4 * q ∧ j ≠ 23 + 4 * q ∧ j ≠ 24 + 4 * q)) : goT T L q j = T j := by
  rcases goT_cases T L q with ⟨v, e, -⟩ | e | e | e
  · rw [e, ups_n (by omega)]
  · rw [e, ups_n (by omega)]
  · rw [e, crs_n ha (by omega) (by omega)]
  · rw [e]
theorem goT_s (hs : shp1 T) (hq : q < T 2) : shp1 (goT T L q) := by
  obtain ⟨s1, s2, s3, s4⟩ := hs
  obtain ⟨a1, a2, a3⟩ := s4 q hq
  have e1 : goT T L q 1 = T 1 := goT_o (by omega) (by omega)
  have e2 : goT T L q 2 = T 2 := goT_o (by omega) (by omega)
  refine ⟨by rw [e1]; exact s1, by rw [e1]; exact s2, by rw [e2]; exact s3, fun r hr => ?_⟩
  rw [e2] at hr
  rw [e1]
  by_cases z : r = q
  · subst z
    rcases goT_cases T L r with ⟨v, e, hv⟩ | e | e | e
    · rw [e, ups_s, ups_n (by omega), ups_n (by omega)]
      exact ⟨hv s2 s1 a1, a2, a3⟩
    · rw [e, ups_s, ups_n (by omega), ups_n (by omega)]
      exact ⟨a1, by omega, a3⟩
    · rw [e, crs_c (by omega), crs_n (by omega) (by omega) (by omega), crs_n (by omega) (by omega) (by omega)]
      exact ⟨a1, a2, by omega⟩
    · rw [e]; exact ⟨a1, a2, a3⟩
  · rw [goT_o (by omega) (by omega), goT_o (by omega) (by omega), goT_o (by omega) (by omega)]
    exact s4 r hr
/-- the sitters behind a player's going -/
theorem goT_z (ha : T (22 + 4 * q) < 8) (hc : T (24 + 4 * q) = 0) {p : Nat} (hp : p < 8) : goT T L q (13 + p) = T (13 + p) + (if goT T L q (24 + 4 * q) = 1 ∧ goT T L q (22 + 4 * q) = p then 1 else 0) := by
  rcases goT_cases T L q with ⟨v, e, -⟩ | e | e | e
  · rw [e, ups_n (by omega), ups_n (show 24 + 4 * q ≠ 22 + 4 * q by omega), hc, if_neg (by omega)]; rfl
  · rw [e, ups_n (by omega), ups_n (show 24 + 4 * q ≠ 23 + 4 * q by omega), hc, if_neg (by omega)]; rfl
  · rw [e, crs_c ha, crs_n ha (show 22 + 4 * q ≠ 24 + 4 * q by omega) (by omega)]
    unfold crs
    by_cases z : T (22 + 4 * q) = p
    · rw [if_pos ⟨rfl, z⟩, z, ups_s]
    · rw [if_neg (by omega), ups_n (by omega), ups_n (by omega)]; rfl
  · rw [e, hc, if_neg (by omega)]; rfl
theorem evG_s {T : Nat → Nat} (hs : shp1 T) : ∀ n, n ≤ T 2 → shp1 (evG T n) ∧ (∀ j, j < 13 → evG T n j = T j) ∧ (∀ r, evG T n (21 + 4 * r) = T (21 + 4 * r)) ∧ (∀ r, n ≤ r → ∀ c, 1 ≤ c → c ≤ 3 → evG T n (21 + 4 * r + c) = T (21 + 4 * r + c))
  | 0, _ => ⟨hs, fun _ _ => rfl, fun _ => rfl, fun _ _ _ _ _ => rfl⟩
  | n + 1, h => by
    obtain ⟨i1, i2, i3, i4⟩ := evG_s hs n (by omega)
    have hn : n < evG T n 2 := by rw [i2 2 (by omega)]; omega
    have ha : evG T n (22 + 4 * n) < 8 := by
      have := i1.2.2.2 n hn
      have := i1.2.1
      omega
    unfold evG
    split
    · refine ⟨goT_s i1 hn, fun j hj => by rw [goT_o ha (by omega)]; exact i2 j hj, fun r => by rw [goT_o ha (by omega)]; exact i3 r, fun r hr c h1 h2 => by rw [goT_o ha (by omega)]; exact i4 r (by omega) c h1 h2⟩
    · exact ⟨i1, i2, i3, fun r hr => i4 r (by omega)⟩
/-- players that have gone stay as they are -/
theorem evG_k {T : Nat → Nat} (hs : shp1 T) {r : Nat} : ∀ n, r < n → n ≤ T 2 → ∀ c, 1 ≤ c → c ≤ 3 → evG T n (21 + 4 * r + c) = evG T (r + 1) (21 + 4 * r + c)
  | 0, h, _, _, _, _ => absurd h (by omega)
  | n + 1, h, hn, c, h1, h2 => by
    by_cases e : r = n
    · rw [e]
    · have ih := evG_k hs (r := r) n (by omega) (by omega) c h1 h2
      obtain ⟨i1, i2, i3, i4⟩ := evG_s hs n (by omega)
      have hn2 : n < evG T n 2 := by rw [i2 2 (by omega)]; omega
      have ha : evG T n (22 + 4 * n) < 8 := by
        have := i1.2.2.2 n hn2
        have := i1.2.1
        omega
      rw [← ih]
      conv => lhs; unfold evG
      split
      · exact goT_o ha (by omega)
      · rfl
/-- who newly sits at p, of the first n players -/
def nw (T E : Nat → Nat) (p n : Nat) : Nat := sumN (fun r => if T (24 + 4 * r) = 0 ∧ E (24 + 4 * r) = 1 ∧ E (22 + 4 * r) = p then 1 else 0) n
theorem sumN_c {f g : Nat → Nat} : ∀ n, (∀ k, k < n → f k = g k) → sumN f n = sumN g n
  | 0, _ => rfl
  | n + 1, h => by unfold sumN; rw [sumN_c n (fun k hk => h k (by omega)), h n (by omega)]
theorem sumN_le {f g : Nat → Nat} : ∀ n, (∀ k, k < n → f k ≤ g k) → sumN f n ≤ sumN g n
  | 0, _ => Nat.le_refl _
  | n + 1, h => by
    have := sumN_le n (fun k hk => h k (by omega))
    have := h n (by omega)
    unfold sumN; omega
theorem sumN_b {f : Nat → Nat} {b : Nat} : ∀ n, (∀ k, k < n → f k ≤ b) → sumN f n ≤ b * n
  | 0, _ => Nat.zero_le _
  | n + 1, h => by
    have h1 := sumN_b n (fun k hk => h k (by omega))
    have h2 := h n (by omega)
    unfold sumN
    rw [Nat.mul_succ]
    omega
theorem evG_z {T : Nat → Nat} (hs : shp1 T) {p : Nat} (hp : p < 8) : ∀ n, n ≤ T 2 → evG T n (13 + p) = T (13 + p) + nw T (evG T n) p n
  | 0, _ => rfl
  | n + 1, h => by
    have ih := evG_z hs hp n (by omega)
    obtain ⟨i1, i2, i3, i4⟩ := evG_s hs n (by omega)
    have hn : n < evG T n 2 := by rw [i2 2 (by omega)]; omega
    have ha : evG T n (22 + 4 * n) < 8 := by
      have := i1.2.2.2 n hn
      have := i1.2.1
      omega
    have e24 : evG T n (24 + 4 * n) = T (24 + 4 * n) := by
      have := i4 n (Nat.le_refl n) 3 (by omega) (by omega)
      rw [show 21 + 4 * n + 3 = 24 + 4 * n by omega] at this
      exact this
    by_cases hc : evG T n (24 + 4 * n) = 0
    · have e : evG T (n + 1) = goT (evG T n) (lB T) n := by
        conv => lhs; unfold evG
        rw [if_pos hc]
      rw [e, goT_z ha hc hp, ih]
      have e2 : nw T (goT (evG T n) (lB T) n) p n = nw T (evG T n) p n := by
        unfold nw
        refine sumN_c n (fun k hk => ?_)
        rw [goT_o ha (by omega), goT_o ha (by omega)]
      show _ = T (13 + p) + (nw T (goT (evG T n) (lB T) n) p n + _)
      rw [e2]
      have hT : T (24 + 4 * n) = 0 := by rw [← e24]; exact hc
      simp only [hT, true_and]
      omega
    · have e : evG T (n + 1) = evG T n := by
        conv => lhs; unfold evG
        rw [if_neg hc]
      rw [e, ih]
      show _ = T (13 + p) + (nw T (evG T n) p n + (if T (24 + 4 * n) = 0 ∧ evG T n (24 + 4 * n) = 1 ∧ evG T n (22 + 4 * n) = p then 1 else 0))
      rw [if_neg (fun z => hc (by rw [e24]; exact z.1))]
      omega
/-- crossed stays crossed -/
theorem evG_c {T : Nat → Nat} (hs : shp1 T) {r : Nat} : ∀ n, n ≤ T 2 → T (24 + 4 * r) ≤ evG T n (24 + 4 * r)
  | 0, _ => Nat.le_refl _
  | n + 1, h => by
    have ih := evG_c hs (r := r) n (by omega)
    obtain ⟨i1, i2, i3, i4⟩ := evG_s hs n (by omega)
    have hn : n < evG T n 2 := by rw [i2 2 (by omega)]; omega
    have ha : evG T n (22 + 4 * n) < 8 := by
      have := i1.2.2.2 n hn
      have := i1.2.1
      omega
    unfold evG
    split
    · rename_i hc
      by_cases e : r = n
      · subst e
        omega
      · rw [goT_o ha (by omega)]; exact ih
    · exact ih
theorem evG_lB {T : Nat → Nat} (hs : shp1 T) {n : Nat} (hn : n ≤ T 2) : lB (evG T n) = lB T := by
  obtain ⟨-, i2, -, -⟩ := evG_s hs n hn
  funext k
  unfold lB
  rw [i2 1 (by omega)]
  by_cases h : k < T 1
  · have := hs.2.1
    rw [i2 (5 + k) (by omega)]
  · rw [decide_eq_false h]; rfl
end Pure
