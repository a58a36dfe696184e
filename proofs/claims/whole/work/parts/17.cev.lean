/-! THE CLASS's TOWN: an evening passes -/
theorem Sm.at {S : Nat → Nat → Prop} {M M' : Mem} (h : Sm S M M') {k i : Nat} (n : ¬ S k i) : M' k i = M k i := h k i n
theorem and_n : ∀ a, a < 64 → ∀ b, b < 64 → nI a &&& (nI b ^^^ (-1)) = nI (a &&& (63 - b)) := by decide +kernel
theorem and_b : ∀ a, a < 64 → ∀ b, b < 64 → ∀ k, k < 6 → (a &&& (63 - b)) / 2 ^ k % 2 = (a / 2 ^ k % 2) * (1 - b / 2 ^ k % 2) := by decide +kernel
theorem and_l : ∀ a, a < 64 → ∀ b, b < 64 → (a &&& (63 - b)) < 64 := by decide +kernel
theorem hasB_new {f g : Nat → Bool} {n k : Nat} (hn : n ≤ 6) (hk : k < n) : hasB (nI (bso f n) &&& (nI (bso g n) ^^^ (-1))) k (f k && !g k) := by
  have h1 := bso_lt f n
  have h2 := bso_lt g n
  have e : 2 ^ n ≤ 2 ^ 6 := Nat.pow_le_pow_right (by omega) hn
  unfold hasB
  rw [and_n _ (by omega) _ (by omega), bit_v (by have := and_l (bso f n) (by omega) (bso g n) (by omega); omega) (by omega), and_b _ (by omega) _ (by omega) k (by omega), bso_bit, bso_bit, decide_eq_true hk]
  cases f k <;> cases g k <;> rfl
section CEv
variable {d : Nat} {Q : Option AV → Mem → Prop} {M : Mem} {t : Nat} {T E O : Nat → Nat} {q : Nat} {g : Nat → Bool} {x : Int32}
/-- claps for one player -/
theorem c_clapsFor (h : CTx M t E O (fun p => T (13 + p))) (hs : shp1 E) (h1 : E 1 = T 1) (hq : q < E 2) (hz : ∀ p, p < 8 → T (13 + p) < 1000) (hx : x = nI (bso g (E 1))) (hQ : Q (some (zI (nI (clQ T E (fun k => decide (k < E 1) && g k) q)))) M) : wpd (d + 2) 39 [zR 6 t, zI (nI q), zI x] M Q := by
  obtain ⟨s1, s2, s3, s4⟩ := hs
  obtain ⟨a1, a2, a3⟩ := s4 q hq
  have hat := (h.2.2.2.2.2.2.2 q hq).2.1
  have hsit := h.2.2.2.2.2.2.1
  unfold clQ at hQ
  refine en_X3_clapsFor _ _ _ _ ⟨vin_i (by omega) (by omega), ?_⟩
  refine c_hasCrossed h s3 hq a3 (fun c => gTn ?_) (fun c => gFn ?_)
  · rw [if_neg (by omega)] at hQ
    exact hQ
  · rw [ncl (by omega), hat]
    subst hx
    refine c_hasBit (hasB_bso s2 (by omega)) (fun b => gTn ?_) (fun b => gFn ?_)
    · rw [if_pos ⟨c, b⟩] at hQ
      generalize ha : E (22 + 4 * q) = a at *
      unfold near at hQ
      -- the third place, and the end
      have st3 : ∀ s0 : Nat, s0 + (if a + 1 < T 1 then T (13 + (a + 1)) else 0) = (if 0 < a then T (13 + (a - 1)) else 0) + T (13 + a) + (if a + 1 < T 1 then T (13 + (a + 1)) else 0) → WP (wpd (d + 1)) 1 T_X3_clapsFor Q (33, [zR 6 t, zU, zU, zI (nI a), zI (nI s0), zI (nI (a + 1))], []) M := by
        intro s0 e0
        have fin : WP (wpd (d + 1)) 1 T_X3_clapsFor Q (33, [zR 6 t, zU, zU, zI (nI a), zI (nI (s0 + (if a + 1 < T 1 then T (13 + (a + 1)) else 0))), zI (nI (a + 1 + 1))], []) M := by
          refine cp_X3_clapsFor_33 _ _ _ _ _ ⟨fun _ => by rw [e0]; exact hQ, fun z => ?_⟩
          rw [nI_add, nlt (by omega) (by omega)] at z
          omega
        refine cp_X3_clapsFor_33 _ _ _ _ _ ⟨fun z => ?_, fun _ => ?_⟩
        · rw [nI_add, nlt (by omega) (by omega)] at z
          omega
        · refine c_hasPlace h.1 s2 (fun k hk e => gTe ?_) (fun hn => gFe ?_)
          · have e := (neq (by omega) (by omega)).mp e
            subst e
            refine ⟨vin_i (by omega) (by omega), ?_⟩
            rw [ncl (by omega), hsit (a + 1) (by omega), nI_add, nI_add]
            rw [if_pos (by omega)] at fin
            exact fin
          · rw [nI_add]
            rw [if_neg (fun z => hn (a + 1) (by omega) rfl)] at fin
            exact fin
      have st2 : ∀ s0 : Nat, s0 = (if 0 < a then T (13 + (a - 1)) else 0) → WP (wpd (d + 1)) 1 T_X3_clapsFor Q (33, [zR 6 t, zU, zU, zI (nI a), zI (nI s0), zI (nI a)], []) M := by
        intro s0 e0
        refine cp_X3_clapsFor_33 _ _ _ _ _ ⟨fun z => ?_, fun _ => ?_⟩
        · rw [nI_add, nlt (by omega) (by omega)] at z
          omega
        · refine c_hasPlace h.1 s2 (fun k hk e => gTe ?_) (fun hn => absurd rfl (hn a (by omega)))
          refine ⟨vin_i (by omega) (by omega), ?_⟩
          rw [ncl (by omega), hsit a (by omega), nI_add, nI_add]
          exact st3 (s0 + T (13 + a)) (by rw [e0])
      by_cases h0 : 0 < a
      · rw [pk_sub (by omega)]
        refine cp_X3_clapsFor_33 _ _ _ _ _ ⟨fun z => ?_, fun _ => ?_⟩
        · rw [nI_add, nlt (by omega) (by omega)] at z
          omega
        · refine c_hasPlace h.1 s2 (fun k hk e => gTe ?_) (fun hn => absurd rfl (hn (a - 1) (by omega)))
          refine ⟨vin_i (by omega) (by omega), ?_⟩
          rw [ncl (by omega), hsit (a - 1) (by omega), nI_add, nI_add, show a - 1 + 1 = a by omega]
          exact st2 (0 + T (13 + (a - 1))) (by rw [if_pos h0]; omega)
      · have e0 : a = 0 := by omega
        subst e0
        refine cp_X3_clapsFor_33 _ _ _ _ _ ⟨fun z => absurd z (by decide), fun _ => ?_⟩
        refine c_hasPlace h.1 s2 (fun k hk e => ?_) (fun hn => gFe ?_)
        · have : (nI 0 - nI 1 : Int32) < 0 := by decide
          rw [e] at this
          exact absurd this (nI_pos (by omega))
        · rw [show (nI 0 - nI 1 + nI 1 : Int32) = nI 0 by decide]
          exact st2 0 rfl
    · rw [if_neg (fun z => Bool.false_ne_true (b.symm.trans z.2))] at hQ
      exact hQ
theorem sum_cl (h1 : E 1 = T 1) (hz : ∀ p, p < 8 → T (13 + p) < 1000) (hs : shp1 E) {L : Nat → Bool} : ∀ n, n ≤ E 2 → sumN (clQ T E L) n ≤ 3000 * n := by
  intro n hn
  refine sumN_b n (fun k hk => ?_)
  obtain ⟨s1, s2, s3, s4⟩ := hs
  obtain ⟨a1, a2, a3⟩ := s4 k (by omega)
  unfold clQ near
  split
  · have z1 := hz (E (22 + 4 * k)) (by omega)
    have z2 := hz (E (22 + 4 * k) - 1) (by omega)
    split
    · split
      · have z3 := hz (E (22 + 4 * k) + 1) (by omega)
        omega
      · omega
    · split
      · have z3 := hz (E (22 + 4 * k) + 1) (by omega)
        omega
      · omega
  · omega
/-- clap: latestClaps and claps -/
theorem c_clap {c : Nat} (h : CTx M t E O (fun p => T (13 + p))) (hc : M 6 t 10 = nI c) (hc9 : c ≤ 999999) (hs : shp1 E) (h1 : E 1 = T 1) (hz : ∀ p, p < 8 → T (13 + p) < 1000) (hx : x = nI (bso g (E 1)))
    (hQ : ∀ M', (∀ k i, ¬ (k = 6 ∧ i = t) → M' k i = M k i) → (∀ j, j ≠ 10 → j ≠ 11 → M' 6 t j = M 6 t j) → M' 6 t 11 = nI (sumN (clQ T E (fun k => decide (k < E 1) && g k)) (E 2)) → M' 6 t 10 = nI (min 999999 (c + sumN (clQ T E (fun k => decide (k < E 1) && g k)) (E 2))) → Q none M') : wpd (d + 3) 51 [zR 6 t, zI x] M Q := by
  have hn := hs.2.2.1
  have loop : ∀ (r i : Nat) (M1 : Mem), i + r = E 2 → (∀ k i, ¬ (k = 6 ∧ i = t) → M1 k i = M k i) → (∀ j, j ≠ 11 → M1 6 t j = M 6 t j) → M1 6 t 11 = nI (sumN (clQ T E (fun k => decide (k < E 1) && g k)) i) → WP (wpd (d + 2)) 0 T_X3_clap Q (7, [zR 6 t, zI x, zI (nI i)], []) M1 := by
    intro r
    induction r with
    | zero =>
      intro i M1 e f1 f2 f3
      have e : i = E 2 := by omega
      subst e
      have hb := sum_cl (E := E) (T := T) (L := fun k => decide (k < E 1) && g k) h1 hz hs (E 2) (Nat.le_refl _)
      refine cp_X3_clap_7 _ _ _ _ ⟨fun _ => ?_, fun z => ?_⟩
      · rw [f2 10 (by omega), f3, hc, nI_add]
        refine hQ _ (fun k i z => (mup_r (by omega)).trans (f1 k i z)) (fun j j1 j2 => ?_) ?_ ?_
        · rw [mup_ap, if_neg (by omega)]; exact f2 j j2
        · rw [mup_ap, if_neg (by omega)]; exact f3
        · rw [mup_ap, if_pos ⟨rfl, rfl, rfl⟩]
          by_cases w : c + sumN (clQ T E (fun k => decide (k < E 1) && g k)) (E 2) < 999999
          · rw [if_pos ((nlt (by omega) (by omega)).mpr w), Nat.min_eq_right (by omega)]
          · rw [if_neg (fun z => w ((nlt (by omega) (by omega)).mp z)), Nat.min_eq_left (by omega)]
      · rw [f2 6 (by omega), h.2.1] at z
        exact absurd ((nle (by omega) (by omega)).mpr (Nat.le_refl _)) z
    | succ r ih =>
      intro i M1 e f1 f2 f3
      refine cp_X3_clap_7 _ _ _ _ ⟨fun z => ?_, fun _ => ?_⟩
      · rw [f2 6 (by omega), h.2.1, nle (by omega) (by omega)] at z
        omega
      · have h' : CTx M1 t E O (fun p => T (13 + p)) := by
          obtain ⟨b1, b2, b3, b4, b5, b6, b7, b8⟩ := h
          refine ⟨by rw [f2 5 (by omega)]; exact b1, by rw [f2 6 (by omega)]; exact b2, by rw [f2 7 (by omega)]; exact b3, by rw [f2 9 (by omega)]; exact b4, by rw [f2 8 (by omega)]; exact b5, fun p hp => by rw [f1 7 t (by omega)]; exact b6 p hp, fun p hp => by rw [f1 8 t (by omega)]; exact b7 p hp, fun r hr => ?_⟩
          rw [f1 9 t (by omega), f1 10 t (by omega), f1 11 t (by omega)]
          exact b8 r hr
        refine c_clapsFor h' hs h1 (by omega) hz hx (gO_i ?_)
        rw [f3, nI_add, nI_add]
        refine ih (i + 1) _ (by omega) (fun k i z => (mup_r (by omega)).trans (f1 k i z)) (fun j j1 => ?_) ?_
        · rw [mup_ap, if_neg (by omega)]; exact f2 j j1
        · rw [mup_ap, if_pos ⟨rfl, rfl, rfl⟩]; rfl
  refine en_X3_clap _ _ _ (loop (E 2) 0 _ (by omega) (fun k i z => mup_r (by omega)) (fun j j1 => by rw [mup_ap, if_neg (by omega)]) (by rw [mup_ap, if_pos ⟨rfl, rfl, rfl⟩]; rfl))
end CEv
