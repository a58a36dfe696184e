/-! THE CLASS's TOWN: small methods, how players go -/
section CTown
variable {d : Nat} {Q : Option AV → Mem → Prop} {M : Mem} {t : Nat} {E O Z : Nat → Nat}
theorem c_hasPlace {P : Nat} {p1 : Int32} (hP : M 6 t 5 = nI P) (h8 : P ≤ 8) (h1 : ∀ k : Nat, k < P → p1 = nI k → Q (some (zI (nI 1))) M) (h0 : (∀ k : Nat, k < P → p1 ≠ nI k) → Q (some (zI (nI 0))) M) : wpd (d + 1) 25 [zR 6 t, zI p1] M Q := by
  refine en_X3_hasPlace _ _ _ ?_
  rw [hP]
  have key : (∃ k : Nat, k < P ∧ p1 = nI k) → Q (some (zI (nI 1))) M := fun ⟨k, a, b⟩ => h1 k a b
  refine ⟨fun z => ⟨z0, h0 (fun k hk e => ?_)⟩, fun z => ⟨fun z2 => ⟨z0, h0 (fun k hk e => ?_)⟩, fun z2 => ⟨z1, key ?_⟩⟩⟩
  · rw [e] at z
    exact absurd z (nI_pos (by omega))
  · rw [e, nle (by omega) (by omega)] at z2
    omega
  · obtain ⟨j, hj, e⟩ := nI_of (x := p1) z
    rw [e, nle (by omega) hj] at z2
    exact ⟨j, by omega, e⟩
theorem c_hasPlayer {P : Nat} {p1 : Int32} (hP : M 6 t 6 = nI P) (h8 : P ≤ 6) (h1 : ∀ k : Nat, k < P → p1 = nI k → Q (some (zI (nI 1))) M) (h0 : (∀ k : Nat, k < P → p1 ≠ nI k) → Q (some (zI (nI 0))) M) : wpd (d + 1) 26 [zR 6 t, zI p1] M Q := by
  refine en_X3_hasPlayer _ _ _ ?_
  rw [hP]
  have key : (∃ k : Nat, k < P ∧ p1 = nI k) → Q (some (zI (nI 1))) M := fun ⟨k, a, b⟩ => h1 k a b
  refine ⟨fun z => ⟨z0, h0 (fun k hk e => ?_)⟩, fun z => ⟨fun z2 => ⟨z0, h0 (fun k hk e => ?_)⟩, fun z2 => ⟨z1, key ?_⟩⟩⟩
  · rw [e] at z
    exact absurd z (nI_pos (by omega))
  · rw [e, nle (by omega) (by omega)] at z2
    omega
  · obtain ⟨j, hj, e⟩ := nI_of (x := p1) z
    rw [e, nle (by omega) hj] at z2
    exact ⟨j, by omega, e⟩
theorem c_hasCrossed {q : Nat} (h : CTx M t E O Z) (hn : E 2 ≤ 6) (hq : q < E 2) (hc : E (24 + 4 * q) ≤ 1) (h1 : E (24 + 4 * q) = 1 → Q (some (zI (nI 1))) M) (h0 : E (24 + 4 * q) = 0 → Q (some (zI (nI 0))) M) : wpd (d + 1) 27 [zR 6 t, zI (nI q)] M Q := by
  refine en_X3_hasCrossed _ _ _ ?_
  have hb := hasB_bso (f := fun q => decide (E (24 + 4 * q) = 1)) (n := E 2) (k := q) (by omega) (by omega)
  unfold hasB at hb
  rw [← h.2.2.2.2.1] at hb
  rw [hb]
  have e : decide (q < E 2) = true := decide_eq_true hq
  rw [e, Bool.true_and]
  rcases (by omega : E (24 + 4 * q) = 0 ∨ E (24 + 4 * q) = 1) with z | z
  · rw [z]
    exact ⟨fun _ => ⟨z0, h0 z⟩, fun y => absurd y c01⟩
  · rw [z]
    exact ⟨fun y => absurd rfl y, fun _ => ⟨z1, h1 z⟩⟩
theorem litP_loop {n : Nat} {f : Nat → Nat} (hP : M 6 t 5 = nI n) (h8 : n ≤ 8) (ho : ∀ p, p < n → M 7 t p = nI (f p)) (hf : ∀ p, p < n → f p < 2147483648) (h : Q (some (zI (nI (bso (fun p => decide (0 < f p)) n)))) M) :
    ∀ (r i : Nat), i + r = n → WP (wpd d) 1 T_X3_litPlaces Q (4, [zR 6 t, zI (nI (bso (fun p => decide (0 < f p)) i)), zI (nI i)], []) M
  | 0, i, e => by
    have : i = n := by omega
    subst this
    refine cp_X3_litPlaces_4 _ _ _ _ ⟨fun _ => h, fun z => ?_⟩
    rw [hP] at z
    exact absurd ((nle (by omega) (by omega)).mpr (Nat.le_refl i)) z
  | r + 1, i, e => by
    have ih := litP_loop hP h8 ho hf h r (i + 1) (by omega)
    have hb := bso_lt (fun p => decide (0 < f p)) i
    refine cp_X3_litPlaces_4 _ _ _ _ ⟨fun z => ?_, fun z => ⟨vin_i (by omega) (by omega), ?_⟩⟩
    · rw [hP, nle (by omega) (by omega)] at z
      omega
    · rw [ncl (by omega), ho i (by omega), nI_add]
      refine ⟨fun z => ?_, fun z => ?_⟩
      · rw [nle (hf i (by omega)) (by omega)] at z
        rw [show bso (fun p => decide (0 < f p)) (i + 1) = bso (fun p => decide (0 < f p)) i by
          show bso (fun p => decide (0 < f p)) i + cond (decide (0 < f i)) (2 ^ i) 0 = _
          rw [decide_eq_false (by omega)]; rfl] at ih
        exact ih
      · rw [nle (hf i (by omega)) (by omega)] at z
        rw [or_b i (by omega) _ hb]
        rw [show bso (fun p => decide (0 < f p)) (i + 1) = bso (fun p => decide (0 < f p)) i + 2 ^ i by
          show bso (fun p => decide (0 < f p)) i + cond (decide (0 < f i)) (2 ^ i) 0 = _
          rw [decide_eq_true (by omega)]; rfl] at ih
        exact ih
theorem c_litPlaces {n : Nat} {f : Nat → Nat} (hP : M 6 t 5 = nI n) (h8 : n ≤ 8) (ho : ∀ p, p < n → M 7 t p = nI (f p)) (hf : ∀ p, p < n → f p < 2147483648) (h : Q (some (zI (nI (bso (fun p => decide (0 < f p)) n)))) M) : wpd (d + 1) 38 [zR 6 t] M Q :=
  en_X3_litPlaces _ _ (litP_loop hP h8 ho hf h n 0 (by omega))
theorem c_nextByWay {q : Nat} (h : CTx M t E O Z) (hn : E 2 ≤ 6) (hq : q < E 2) (ha : E (22 + 4 * q) < 8) (hw : E (23 + 4 * q) ≤ 1) (h1 : E (23 + 4 * q) = 1 → Q (some (zI (nI (E (22 + 4 * q) + 1)))) M) (h0 : E (23 + 4 * q) = 0 → Q (some (zI (nI (E (22 + 4 * q)) - nI 1))) M) : wpd (d + 1) 49 [zR 6 t, zI (nI q)] M Q := by
  obtain ⟨-, a, b⟩ := h.2.2.2.2.2.2.2 q hq
  refine en_X3_nextByWay _ _ _ ⟨vin_i (by omega) (by omega), ?_⟩
  rw [ncl (by omega), a, b]
  rcases (by omega : E (23 + 4 * q) = 0 ∨ E (23 + 4 * q) = 1) with z | z
  · rw [z]
    exact ⟨fun _ => ⟨vin_i (by omega) (by omega), h0 z⟩, fun y => absurd y c01⟩
  · rw [z]
    exact ⟨fun y => absurd rfl y, fun _ => ⟨vin_i (by omega) (by omega), by rw [nI_add]; exact h1 z⟩⟩
theorem st_loop {x : Int32} {S : Nat → Bool} {P a : Nat} (hS : ∀ k, k < 16 → hasB x k (S k)) (hP : ∀ k, S k = true → k < P) (ha : a < 8) :
    ∀ (n f : Nat), 1 ≤ f → f + n = 8 → (∀ v : Int32, nI a + v = nI (nr S P a n f) → Q (some (zI v)) M) → WP (wpd d) 1 T_X3_stepTowards Q (2, [zI x, zI (nI a), zI (nI f)], []) M
  | 0, f, h1, e, h => by
    have : f = 8 := by omega
    subst this
    refine cp_X3_stepTowards_2 _ _ _ _ ⟨fun _ => h _ (by rw [nI_add]; rfl), fun z => absurd ((nle (by omega) (by omega)).mpr (Nat.le_refl 8)) z⟩
  | n + 1, f, h1, e, h => by
    have ih : (¬ (f ≤ a ∧ S (a - f) = true)) → (¬ (a + f < P ∧ S (a + f) = true)) → WP (wpd d) 1 T_X3_stepTowards Q (2, [zI x, zI (nI a), zI (nI f + nI 1)], []) M := by
      intro y1 y2
      rw [nI_add]
      refine st_loop hS hP ha n (f + 1) (by omega) (by omega) (fun v hv => h v ?_)
      rw [hv]
      conv => rhs; unfold nr
      rw [if_neg y1, if_neg y2]
    have up : (¬ (f ≤ a ∧ S (a - f) = true)) → ((¬ (((x >>> ((nI a + nI f) &&& 31)) &&& nI 1 : Int32) = nI 1) → WP (wpd d) 1 T_X3_stepTowards Q (2, [zI x, zI (nI a), zI (nI f + nI 1)], []) M) ∧ ((((x >>> ((nI a + nI f) &&& 31)) &&& nI 1 : Int32) = nI 1) → Q (some (zI (nI 1))) M)) := by
      intro y1
      have hb := hS (a + f) (by omega)
      unfold hasB at hb
      rw [nI_add, hb]
      cases hs : S (a + f) with
      | false => exact ⟨fun _ => ih y1 (by rw [hs]; simp), fun y => absurd y c01⟩
      | true =>
        refine ⟨fun y => absurd rfl y, fun _ => h _ ?_⟩
        unfold nr
        rw [if_neg y1, if_pos ⟨hP _ hs, hs⟩, if_neg (by omega), nI_add]
    refine cp_X3_stepTowards_2 _ _ _ _ ⟨fun z => ?_, fun z => ⟨fun z2 => ?_, fun z2 => ?_⟩⟩
    · rw [nle (by omega) (by omega)] at z
      omega
    · rw [nlt (by omega) (by omega)] at z2
      exact up (by omega)
    · rw [nlt (by omega) (by omega)] at z2
      have hb := hS (a - f) (by omega)
      unfold hasB at hb
      rw [pk_sub (by omega), hb]
      cases hs : S (a - f) with
      | false => exact ⟨fun _ => up (by rw [hs]; simp), fun y => absurd y c01⟩
      | true =>
        refine ⟨fun y => absurd rfl y, fun _ => h _ ?_⟩
        unfold nr
        rw [if_pos ⟨by omega, hs⟩, if_neg (by omega)]
        obtain ⟨b, rfl⟩ : ∃ b, a = b + 1 := ⟨a - 1, by omega⟩
        rw [pk_m1, Nat.add_sub_cancel]
theorem c_stepTowards {x : Int32} {S : Nat → Bool} {P a : Nat} (hS : ∀ k, k < 16 → hasB x k (S k)) (hP : ∀ k, S k = true → k < P) (ha : a < 8) (h : ∀ v : Int32, nI a + v = nI (nr S P a 7 1) → Q (some (zI v)) M) : wpd (d + 1) 50 [zI x, zI (nI a)] M Q :=
  en_X3_stepTowards _ _ _ (st_loop hS hP ha 7 1 (by omega) (by omega) h)
end CTown
