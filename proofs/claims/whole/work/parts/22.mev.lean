/-! THE REFERENCE's TOWN: an evening passes -/
section MEv
variable {d : Nat} {Q : Option AV → Mem → Prop} {M : Mem} {w : Nat} {T E : Nat → Nat} {q : Nat} {x : Int32}
theorem c_clapsAt0 {a : Nat} (hP : M 22 w 1 = nI (T 1)) (h8 : T 1 ≤ 8) (ha : a < T 1) (hsit : ∀ p, p < 8 → M 28 0 p = nI (T (13 + p))) (hQ : Q (some (zI (nI (near T a)))) M) : wpd (d + 2) 147 [zR 22 w, zR 28 0, zI (nI 0), zI (nI a)] M Q := by
  unfold near at hQ
  have isin : ∀ {v : Int32} {k : Nat}, v = nI k → k < 100 → (k < T 1 → Q (some (zI (nI 1))) M → Q (some (zI (nI 1))) M) → True := fun _ _ _ => trivial
  have st3 : ∀ s0 : Nat, s0 + (if a + 1 < T 1 then T (13 + (a + 1)) else 0) = (if 0 < a then T (13 + (a - 1)) else 0) + T (13 + a) + (if a + 1 < T 1 then T (13 + (a + 1)) else 0) → WP (wpd (d + 1)) 1 T_X5_clapsAt Q (8, [zR 22 w, zR 28 0, zI (nI 0), zI (nI a), zI (nI s0), zI (nI (a + 1))], []) M := by
    intro s0 e0
    have fin : WP (wpd (d + 1)) 1 T_X5_clapsAt Q (8, [zR 22 w, zR 28 0, zI (nI 0), zI (nI a), zI (nI (s0 + (if a + 1 < T 1 then T (13 + (a + 1)) else 0))), zI (nI (a + 1 + 1))], []) M := by
      refine cp_X5_clapsAt_0_8 _ _ _ _ _ _ ⟨fun _ => by rw [e0]; exact hQ, fun z => ?_⟩
      rw [nI_add, nle (by omega) (by omega)] at z
      omega
    refine cp_X5_clapsAt_0_8 _ _ _ _ _ _ ⟨fun z => ?_, fun _ => ⟨vin_i (by omega) (by omega), ?_⟩⟩
    · rw [nI_add, nle (by omega) (by omega)] at z
      omega
    · rw [hP, pk_sub (by omega)]
      refine c_in (fun y1 y2 => gTe ?_) (fun y => gFe ?_)
      · rw [nle (by omega) (by omega)] at y2
        rw [nI_add 0, Nat.zero_add, ncl (by omega), hsit (a + 1) (by omega), nI_add, nI_add]
        rw [if_pos (by omega)] at fin
        exact ⟨vin_i (by omega) (by omega), fin⟩
      · rw [nI_add, nI_add]
        rw [if_neg (fun z => y ⟨(nle (by omega) (by omega)).mpr (by omega), (nle (by omega) (by omega)).mpr (by omega)⟩)] at fin
        exact fin
  have st2 : ∀ s0 : Nat, s0 = (if 0 < a then T (13 + (a - 1)) else 0) → WP (wpd (d + 1)) 1 T_X5_clapsAt Q (8, [zR 22 w, zR 28 0, zI (nI 0), zI (nI a), zI (nI s0), zI (nI a)], []) M := by
    intro s0 e0
    refine cp_X5_clapsAt_0_8 _ _ _ _ _ _ ⟨fun z => ?_, fun _ => ⟨vin_i (by omega) (by omega), ?_⟩⟩
    · rw [nI_add, nle (by omega) (by omega)] at z
      omega
    · rw [hP, pk_sub (by omega)]
      refine c_in (fun y1 y2 => gTe ?_) (fun y => absurd ⟨(nle (by omega) (by omega)).mpr (by omega), (nle (by omega) (by omega)).mpr (by omega)⟩ y)
      rw [nI_add 0, Nat.zero_add, ncl (by omega), hsit a (by omega), nI_add, nI_add]
      exact ⟨vin_i (by omega) (by omega), st3 (s0 + T (13 + a)) (by rw [e0])⟩
  refine en_X5_clapsAt_0 _ _ _ _ ?_
  by_cases h0 : 0 < a
  · rw [pk_sub (by omega)]
    refine cp_X5_clapsAt_0_8 _ _ _ _ _ _ ⟨fun z => ?_, fun _ => ⟨vin_i (by omega) (by omega), ?_⟩⟩
    · rw [nI_add, nle (by omega) (by omega)] at z
      omega
    · rw [hP, pk_sub (by omega)]
      refine c_in (fun y1 y2 => gTe ?_) (fun y => absurd ⟨(nle (by omega) (by omega)).mpr (by omega), (nle (by omega) (by omega)).mpr (by omega)⟩ y)
      rw [nI_add 0 (a - 1), Nat.zero_add, ncl (by omega), hsit (a - 1) (by omega), nI_add, nI_add, show a - 1 + 1 = a by omega]
      exact ⟨vin_i (by omega) (by omega), st2 (0 + T (13 + (a - 1))) (by rw [if_pos h0]; omega)⟩
  · have e0 : a = 0 := by omega
    subst e0
    refine cp_X5_clapsAt_0_8 _ _ _ _ _ _ ⟨fun z => absurd z (by decide), fun _ => ⟨vin_i (by omega) (by omega), ?_⟩⟩
    rw [hP, pk_sub (a := T 1) (b := 1) (by omega)]
    refine c_in (fun y1 y2 => absurd y1 (by decide)) (fun y => gFe ?_)
    rw [show (nI 0 - nI 1 + nI 1 : Int32) = nI 0 by decide, nI_add]
    exact st2 0 rfl
/-- what passes changes -/
def Fp (w : Nat) (M M' : Mem) : Prop := ∀ k i, ¬ (k = 22 ∧ i = w) → ¬ (k = 28 ∧ i = 0) → M' k i = M k i
theorem min_if {a b : Nat} (ha : a < 2147483648) (hb : b < 2147483648) : (if (nI a : Int32) < nI b then nI a else nI b) = nI (min a b) := by
  by_cases h : a < b
  · rw [if_pos ((nlt ha hb).mpr h), Nat.min_eq_left (by omega)]
  · rw [if_neg (fun z => h ((nlt ha hb).mp z)), Nat.min_eq_right (by omega)]
theorem sgn_v {a b c : Nat} (ha : a < 100000) (hb : b < 100000) (hc : c < 100000) : (nI 0 ≤ (nI a - nI b) - nI c → ((nI a - nI b) - nI c : Int32) = nI (a - b - c)) ∧ (¬ nI 0 ≤ ((nI a - nI b) - nI c : Int32) → a - b - c = 0) := by
  have m := max_v ha hb hc
  constructor
  · intro h
    by_cases z : (nI 0 : Int32) < (nI a - nI b) - nI c
    · rw [if_pos z] at m; exact m
    · rw [if_neg z] at m
      have e : ((nI a - nI b) - nI c : Int32) = nI 0 := Int32.le_antisymm (Int32.not_lt.mp z) h
      rw [e]; exact m
  · intro h
    have z : ¬ (nI 0 : Int32) < (nI a - nI b) - nI c := fun y => h (Int32.le_of_lt y)
    rw [if_neg z] at m
    exact ((neq (by omega) (by omega)).mp m).symm
theorem c_passes (h : MT M w T) (ok : okT T) (h3 : T 3 < 1000000) (hQ : ∀ M', Fp w M M' → MT M' w (ev T) → Q (some (zI (nI (clS T)))) M') : wpd (d + 5) 148 [zR 16 0, zR 22 w] M Q := by
  have hs := ok.s
  have hz := ok.z
  have ho := ok.o
  have hP := hs.2.1
  have hN := hs.2.2.1
  obtain ⟨j1, j2, j3, j4⟩ := evG_s hs (T 2) (Nat.le_refl _)
  have gL : ∀ i, i ≤ T 2 → (fun k => decide (k < evG T i 1) && decide (0 < T (5 + k))) = lB T := by
    intro i hi
    rw [(evG_s hs i hi).2.1 1 (by omega)]
    rfl
  have atS : ∀ p i, atN (evG T (T 2)) p (i + 1) = atN (evG T (T 2)) p i + (if evG T (T 2) (24 + 4 * i) = 0 ∧ evG T (T 2) (22 + 4 * i) = p then 1 else 0) := fun p i => rfl
  have atB : ∀ p i, atN (evG T (T 2)) p i ≤ i := fun p i => by
    have := sumN_b (f := fun q => if evG T (T 2) (24 + 4 * q) = 0 ∧ evG T (T 2) (22 + 4 * q) = p then 1 else 0) (b := 1) i (fun k _ => by split <;> omega)
    unfold atN; omega
  have hsum := sum_cl (E := evG T (T 2)) (T := T) (L := lB T) (j2 1 (by omega)) hz j1 (T 2) (by rw [j2 2 (by omega)]; exact Nat.le_refl _)
  -- the places
  have loop4 : ∀ (r i : Nat) (M1 : Mem), i + r = T 1 → Fp w M M1 → (∀ j, j < 45 → ¬ (5 ≤ j ∧ j < 13) → M1 22 w j = nI (evG T (T 2) j)) → (∀ p, p < i → M1 22 w (5 + p) = nI (ev T (5 + p))) → (∀ p, i ≤ p → p < 8 → M1 22 w (5 + p) = nI (T (5 + p)) - nI (if lB T p = true then atN (evG T (T 2)) p (T 2) else 0)) → WP (wpd (d + 4)) 1 T_X5_passes Q (179, [zU, zR 22 w, zI (nI (litM T)), zI (nI (clS T)), zI (nI i), zU], []) M1 := by
    intro r
    induction r with
    | zero =>
      intro i M1 e f1 f2 f3 f4
      have e : i = T 1 := by omega
      subst e
      refine cp2_X5_passes_179 _ _ _ _ _ ⟨vin_i (by omega) (by omega), ?_⟩
      rw [f2 1 (by omega) (by omega), j2 1 (by omega)]
      refine ⟨fun _ => ⟨vin_i (by omega) (by omega), ?_⟩, fun z => absurd ((nle (by omega) (by omega)).mpr (Nat.le_refl _)) z⟩
      have h4 := ok.2.2.2.2.1
      have hcl : clS T ≤ 3000 * T 2 := hsum
      rw [f2 4 (by omega) (by omega), j2 4 (by omega), nI_add]
      refine c_lesser (gO_i ⟨vin_i (by omega) (by omega), vin_i (by omega) (by omega), vin_i (by omega) (by omega), ?_⟩)
      rw [min_if (by omega) (by omega)]
      have e3 : mup M1 22 w 4 (nI (min 999999 (T 4 + clS T))) 22 w 3 = nI (T 3) := by
        rw [mup_ap, if_neg (by omega), f2 3 (by omega) (by omega), j2 3 (by omega)]
      rw [e3, nI_add]
      refine hQ _ (fun k i y1 y2 => ?_) (fun j hj => ?_)
      · rw [mup_r y1, mup_r y1]; exact f1 k i y1 y2
      · rw [mup_ap, mup_ap]
        by_cases y3 : j = 3
        · subst y3
          rw [if_pos ⟨rfl, rfl, rfl⟩, ev_3]
        · rw [if_neg (by omega)]
          by_cases y4 : j = 4
          · subst y4
            rw [if_pos ⟨rfl, rfl, rfl⟩, ev_4]
          · rw [if_neg (by omega)]
            by_cases y5 : 5 ≤ j ∧ j < 13
            · obtain ⟨p, rfl⟩ : ∃ p, j = 5 + p := ⟨j - 5, by omega⟩
              by_cases y6 : p < T 1
              · exact f3 p y6
              · have hl : ¬ lB T p = true := fun y => y6 (lB_lt y)
                rw [f4 p (by omega) (by omega), ev_o (by omega), if_neg hl, if_neg hl, pk_sub (by omega)]
                rfl
            · rw [f2 j hj y5, ev_e y3 y4 y5]
    | succ r ih =>
      intro i M1 e f1 f2 f3 f4
      have hi : i < T 1 := by omega
      have hOi := ho i (by omega)
      have hAi := atB i (T 2)
      refine cp2_X5_passes_179 _ _ _ _ _ ⟨vin_i (by omega) (by omega), ?_⟩
      rw [f2 1 (by omega) (by omega), j2 1 (by omega)]
      refine ⟨fun z => ?_, fun _ => ?_⟩
      · rw [nle (by omega) (by omega)] at z
        omega
      · rw [nI_add 5 i, ncl (by omega), f4 i (Nat.le_refl i) (by omega)]
        refine ⟨vin_i (by omega) (by omega), ?_⟩
        -- behind the subtraction
        have sub : ∀ s0 : Nat, s0 ≤ 3 → (if lB T i = true then T (5 + i) - atN (evG T (T 2)) i (T 2) - T 0 else T (5 + i)) = T (5 + i) - (if lB T i = true then atN (evG T (T 2)) i (T 2) else 0) - s0 → WP (wpd (d + 4)) 1 T_X5_passes Q (210, [zU, zR 22 w, zI (nI (litM T)), zI (nI (clS T)), zI (nI i), zU], [zI (nI s0), zI (nI (T (5 + i)) - nI (if lB T i = true then atN (evG T (T 2)) i (T 2) else 0)), zI (nI (5 + i)), zR 22 w]) M1 := by
          intro s0 hs0 hev
          have hA2 : (if lB T i = true then atN (evG T (T 2)) i (T 2) else 0) ≤ 6 := by split <;> omega
          have sg := sgn_v (a := T (5 + i)) (b := if lB T i = true then atN (evG T (T 2)) i (T 2) else 0) (c := s0) (by omega) (by omega) (by omega)
          refine cp2_X5_passes_210 _ _ _ _ _ _ _ _ ⟨vin_i (by omega) (by omega), ?_⟩
          rw [ncl (by omega)]
          generalize hv : nI (T (5 + i)) - nI (if lB T i = true then atN (evG T (T 2)) i (T 2) else 0) - nI s0 = v at *
          have rd : mup M1 22 w (5 + i) v 22 w (5 + i) = v := by rw [mup_ap, if_pos ⟨rfl, rfl, rfl⟩]
          have last : ∀ u : Int32, u = nI (ev T (5 + i)) → WP (wpd (d + 4)) 1 T_X5_passes Q (236, [zU, zR 22 w, zI (nI (litM T)), zI (nI (clS T)), zI (nI i), zU], [zI u, zI (nI (5 + i)), zR 22 w]) (mup M1 22 w (5 + i) v) := by
            intro u hu
            refine cp2_X5_passes_236 _ _ _ _ _ _ _ ⟨vin_i (by omega) (by omega), ?_⟩
            rw [ncl (by omega), nI_add i]
            refine ih (i + 1) _ (by omega) (fun k i y1 y2 => by rw [mup_r y1, mup_r y1]; exact f1 k i y1 y2) (fun j hj hn => ?_) (fun p hp => ?_) (fun p hp hp2 => ?_)
            · rw [mup_ap, if_neg (by omega), mup_ap, if_neg (by omega)]; exact f2 j hj hn
            · rw [mup_ap]
              by_cases y : p = i
              · subst y
                rw [if_pos ⟨rfl, rfl, rfl⟩]; exact hu
              · rw [if_neg (by omega), mup_ap, if_neg (by omega)]; exact f3 p (by omega)
            · rw [mup_ap, if_neg (by omega), mup_ap, if_neg (by omega)]; exact f4 p (by omega) hp2
          have hevi : ev T (5 + i) = T (5 + i) - (if lB T i = true then atN (evG T (T 2)) i (T 2) else 0) - s0 := by rw [ev_o (by omega)]; exact hev
          refine cp2_X5_passes_212 _ _ _ _ _ ?_
          rw [nI_add 5 i, ncl (by omega), rd]
          refine ⟨vin_i (by omega) (by omega), fun y => ⟨vin_i (by omega) (by omega), last v ?_⟩, fun y => last (nI 0) ?_⟩
          · rw [hevi]; exact sg.1 y
          · rw [hevi, sg.2 y]
        refine c_has (litM_b hP (by omega)) (fun b => gTe ?_) (fun b => gFe ?_)
        · rw [f2 0 (by omega) (by omega), j2 0 (by omega)]
          exact ⟨vin_i (by omega) (by omega), sub (T 0) ok.1 (by rw [if_pos b, if_pos b])⟩
        · have b' : ¬ lB T i = true := by rw [b]; simp
          exact sub 0 (by omega) (by rw [if_neg b', if_neg b']; omega)
  -- the players clap and burn
  have loop3 : ∀ (r i : Nat) (M1 : Mem), i + r = T 2 → Fp w M M1 → (∀ p, p < 8 → M1 28 0 p = nI (T (13 + p))) → (∀ j, j < 45 → ¬ (5 ≤ j ∧ j < 13) → M1 22 w j = nI (evG T (T 2) j)) → (∀ p, p < 8 → M1 22 w (5 + p) = nI (T (5 + p)) - nI (if lB T p = true then atN (evG T (T 2)) p i else 0)) → WP (wpd (d + 4)) 1 T_X5_passes Q (78, [zR 16 0, zR 22 w, zI (nI (litM T)), zI (nI (sumN (clQ T (evG T (T 2)) (lB T)) i)), zI (nI i), zU], []) M1 := by
    intro r
    induction r with
    | zero =>
      intro i M1 e f1 fs f2 f4
      have e : i = T 2 := by omega
      subst e
      refine cp2_X5_passes_78 _ _ _ _ _ ⟨vin_i (by omega) (by omega), ?_⟩
      rw [f2 2 (by omega) (by omega), j2 2 (by omega)]
      exact ⟨fun _ => loop4 (T 1) 0 M1 (by omega) f1 f2 (fun p hp => absurd hp (by omega)) (fun p _ hp => f4 p hp), fun z => absurd ((nle (by omega) (by omega)).mpr (Nat.le_refl _)) z⟩
    | succ r ih =>
      intro i M1 e f1 fs f2 f4
      have hi : i < T 2 := by omega
      obtain ⟨a1, a2, a3⟩ := j1.2.2.2 i (by rw [j2 2 (by omega)]; exact hi)
      rw [j2 1 (by omega)] at a1
      have ma : M1 22 w (22 + 4 * i) = nI (evG T (T 2) (22 + 4 * i)) := f2 _ (by omega) (by omega)
      have mc : M1 22 w (24 + 4 * i) = nI (evG T (T 2) (24 + 4 * i)) := f2 _ (by omega) (by omega)
      refine cp2_X5_passes_78 _ _ _ _ _ ⟨vin_i (by omega) (by omega), ?_⟩
      rw [f2 2 (by omega) (by omega), j2 2 (by omega)]
      refine ⟨fun z => ?_, fun _ => ?_⟩
      · rw [nle (by omega) (by omega)] at z
        omega
      · simp only [pk_mul, nI_add]
        rw [show 21 + 4 * i + 3 = 24 + 4 * i by omega, show 21 + 4 * i + 1 = 22 + 4 * i by omega, ncl (by omega), ncl (by omega), ma, mc]
        refine ⟨vin_i (by omega) (by omega), fun y => ?_, fun y => ⟨vin_i (by omega) (by omega), ?_⟩⟩
        · have y : ¬ evG T (T 2) (24 + 4 * i) = 0 := fun v => y (by rw [v])
          refine (?_ : WP (wpd (d + 4)) 1 T_X5_passes Q (78, [zR 16 0, zR 22 w, zI (nI (litM T)), zI (nI (sumN (clQ T (evG T (T 2)) (lB T)) i)), zI (nI (i + 1)), zU], []) M1)
          have es : sumN (clQ T (evG T (T 2)) (lB T)) (i + 1) = sumN (clQ T (evG T (T 2)) (lB T)) i := by
            show sumN (clQ T (evG T (T 2)) (lB T)) i + clQ T (evG T (T 2)) (lB T) i = _
            unfold clQ
            rw [if_neg (fun v => y v.1)]
            rfl
          rw [← es]
          refine ih (i + 1) M1 (by omega) f1 fs f2 (fun p hp => ?_)
          have ea : atN (evG T (T 2)) p (i + 1) = atN (evG T (T 2)) p i := by rw [atS, if_neg (fun v => y v.1)]; rfl
          rw [f4 p hp, ea]
        · have y := (neq (by omega) (by omega)).mp y
          -- behind the claps
          have burn : ∀ cl : Nat, sumN (clQ T (evG T (T 2)) (lB T)) i + cl = sumN (clQ T (evG T (T 2)) (lB T)) (i + 1) → WP (wpd (d + 4)) 1 T_X5_passes Q (137, [zR 16 0, zR 22 w, zI (nI (litM T)), zU, zI (nI i), zI (nI (21 + 4 * i))], [zI (nI cl), zI (nI (sumN (clQ T (evG T (T 2)) (lB T)) i))]) M1 := by
            intro cl hcl
            refine cp2_X5_passes_137 _ _ _ _ _ _ _ ?_
            rw [nI_add, hcl]
            refine cp2_X5_passes_139 _ _ _ _ _ _ ?_
            rw [nI_add (21 + 4 * i) 1, show 21 + 4 * i + 1 = 22 + 4 * i by omega, ncl (by omega), ma, nI_add, ncl (by omega), f4 _ (by omega)]
            refine ⟨vin_i (by omega) (by omega), vin_i (by omega) (by omega), vin_i (by omega) (by omega), ?_⟩
            have nxt : ∀ s0 : Nat, (∀ p, p < 8 → (if p = evG T (T 2) (22 + 4 * i) then (nI (T (5 + p)) - nI (if lB T p = true then atN (evG T (T 2)) p i else 0)) - nI s0 else nI (T (5 + p)) - nI (if lB T p = true then atN (evG T (T 2)) p i else 0)) = nI (T (5 + p)) - nI (if lB T p = true then atN (evG T (T 2)) p (i + 1) else 0)) → WP (wpd (d + 4)) 1 T_X5_passes Q (168, [zR 16 0, zR 22 w, zI (nI (litM T)), zI (nI (sumN (clQ T (evG T (T 2)) (lB T)) (i + 1))), zI (nI i), zU], [zI (nI s0), zI (nI (T (5 + evG T (T 2) (22 + 4 * i))) - nI (if lB T (evG T (T 2) (22 + 4 * i)) = true then atN (evG T (T 2)) (evG T (T 2) (22 + 4 * i)) i else 0)), zI (nI (5 + evG T (T 2) (22 + 4 * i))), zR 22 w]) M1 := by
              intro s0 hs0
              refine cp2_X5_passes_168 _ _ _ _ _ _ _ _ ⟨vin_i (by omega) (by omega), ?_⟩
              rw [ncl (by omega), nI_add i]
              refine ih (i + 1) _ (by omega) (fun k i y1 y2 => by rw [mup_r y1]; exact f1 k i y1 y2) (fun p hp => by rw [mup_r (by omega)]; exact fs p hp) (fun j hj hn => by rw [mup_ap, if_neg (by omega)]; exact f2 j hj hn) (fun p hp => ?_)
              rw [← hs0 p hp, mup_ap]
              by_cases v : p = evG T (T 2) (22 + 4 * i)
              · subst v
                rw [if_pos ⟨rfl, rfl, rfl⟩, if_pos rfl]
              · rw [if_neg (by omega), if_neg v]; exact f4 p hp
            refine c_has (litM_b hP (by omega)) (fun b => gTe (nxt 1 ?_)) (fun b => gFe (nxt 0 ?_))
            · intro p hp
              by_cases v : p = evG T (T 2) (22 + 4 * i)
              · subst v
                rw [atS, if_pos rfl, if_pos b, if_pos b, if_pos ⟨y, rfl⟩, ← nI_add]
                generalize nI (T (5 + evG T (T 2) (22 + 4 * i))) = y1
                generalize nI (atN (evG T (T 2)) (evG T (T 2) (22 + 4 * i)) i) = y2
                grind
              · have ea : atN (evG T (T 2)) p (i + 1) = atN (evG T (T 2)) p i := by rw [atS, if_neg (fun u => v u.2.symm)]; rfl
                rw [if_neg v, ea]
            · intro p hp
              by_cases v : p = evG T (T 2) (22 + 4 * i)
              · subst v
                have b' : ¬ lB T (evG T (T 2) (22 + 4 * i)) = true := by rw [b]; simp
                rw [if_pos rfl, if_neg b', if_neg b', pk_sub (by omega), pk_sub (by omega)]
                rfl
              · have ea : atN (evG T (T 2)) p (i + 1) = atN (evG T (T 2)) p i := by rw [atS, if_neg (fun u => v u.2.symm)]; rfl
                rw [if_neg v, ea]
          refine c_has (litM_b hP (by omega)) (fun b => gTe ⟨vin_i (by omega) (by omega), ?_⟩) (fun b => gFe ?_)
          · rw [ma]
            refine c_clapsAt0 (T := T) (by rw [f2 1 (by omega) (by omega), j2 1 (by omega)]) hP a1 fs (gO_i (burn _ ?_))
            show _ = sumN (clQ T (evG T (T 2)) (lB T)) i + clQ T (evG T (T 2)) (lB T) i
            unfold clQ
            rw [if_pos ⟨y, b⟩]
          · refine burn 0 ?_
            show _ = sumN (clQ T (evG T (T 2)) (lB T)) i + clQ T (evG T (T 2)) (lB T) i
            unfold clQ
            rw [if_neg (fun v => Bool.false_ne_true (b.symm.trans v.2))]
  -- the players go
  have loop2 : ∀ (r i : Nat) (M1 : Mem), i + r = T 2 → Fp w M M1 → (∀ p, p < 8 → M1 28 0 p = nI (T (13 + p))) → MT M1 w (evG T i) → WP (wpd (d + 4)) 1 T_X5_passes Q (40, [zR 16 0, zR 22 w, zI (nI (litM T)), zI (nI 0), zI (nI i), zU], []) M1 := by
    intro r
    induction r with
    | zero =>
      intro i M1 e f1 fs f2
      have e : i = T 2 := by omega
      subst e
      refine cp2_X5_passes_40 _ _ _ _ _ ⟨vin_i (by omega) (by omega), ?_⟩
      rw [f2 2 (by omega), j2 2 (by omega)]
      refine ⟨fun _ => loop3 (T 2) 0 M1 (by omega) f1 fs (fun j hj _ => f2 j hj) (fun p hp => ?_), fun z => absurd ((nle (by omega) (by omega)).mpr (Nat.le_refl _)) z⟩
      have : (if lB T p = true then atN (evG T (T 2)) p 0 else 0) = 0 := by split <;> rfl
      rw [f2 (5 + p) (by omega), j2 (5 + p) (by omega), this, pk_sub (by omega)]
      rfl
    | succ r ih =>
      intro i M1 e f1 fs f2
      obtain ⟨i1, i2, i3, i4⟩ := evG_s hs i (by omega)
      have e1 : evG T i 1 = T 1 := i2 1 (by omega)
      have e2 : evG T i 2 = T 2 := i2 2 (by omega)
      have hi : i < evG T i 2 := by rw [e2]; omega
      obtain ⟨a1, a2, a3⟩ := i1.2.2.2 i hi
      have mc : M1 22 w (24 + 4 * i) = nI (evG T i (24 + 4 * i)) := f2 _ (by omega)
      refine cp2_X5_passes_40 _ _ _ _ _ ⟨vin_i (by omega) (by omega), ?_⟩
      rw [f2 2 (by omega), e2]
      refine ⟨fun z => ?_, fun _ => ?_⟩
      · rw [nle (by omega) (by omega)] at z
        omega
      · simp only [pk_mul, nI_add]
        rw [show 21 + 4 * i + 3 = 24 + 4 * i by omega, ncl (by omega), mc]
        refine ⟨vin_i (by omega) (by omega), fun y => ?_, fun y => ?_⟩
        · have y : ¬ evG T i (24 + 4 * i) = 0 := fun v => y (by rw [v])
          refine ih (i + 1) M1 (by omega) f1 fs ?_
          have : evG T (i + 1) = evG T i := by
            conv => lhs; unfold evG
            rw [if_neg y]
          rw [this]; exact f2
        · have y := (neq (by omega) (by omega)).mp y
          have hk2 := (ok.2.2.2.2.2.2.2 i (by omega))
          refine c_goes (g := fun p => decide (0 < T (5 + p))) f2 i1 hi (by rw [i3 i]; exact ⟨hk2.1, hk2.2.1⟩) (by rw [i2 3 (by omega)]; omega) (by rw [e1]; rfl) (fun M2 b1 b2 => gN_i ?_)
          refine ih (i + 1) M2 (by omega) (fun k i y1 y2 => (b1 k i y1).trans (f1 k i y1 y2)) (fun p hp => by rw [b1 28 0 (by omega)]; exact fs p hp) ?_
          have : evG T (i + 1) = goT (evG T i) (lB T) i := by
            conv => lhs; unfold evG
            rw [if_pos y]
          rw [this, ← gL i (by omega)]
          exact b2
  -- the sitters are kept
  have loop1 : ∀ (r i : Nat) (M1 : Mem), i + r = 8 → (∀ k i, ¬ (k = 28 ∧ i = 0) → M1 k i = M k i) → (∀ p, p < i → M1 28 0 p = nI (T (13 + p))) → WP (wpd (d + 4)) 1 T_X5_passes Q (10, [zR 16 0, zR 22 w, zI (nI (litM T)), zI (nI 0), zI (nI i), zU], []) M1 := by
    intro r
    induction r with
    | zero =>
      intro i M1 e f1 f2
      have e : i = 8 := by omega
      subst e
      refine cp2_X5_passes_10 _ _ _ _ _ ⟨fun _ => loop2 (T 2) 0 M1 (by omega) (fun k i y1 y2 => f1 k i y2) f2 (fun j hj => by rw [f1 22 w (by omega)]; exact h j hj), fun z => absurd ((nle (by omega) (by omega)).mpr (Nat.le_refl _)) z⟩
    | succ r ih =>
      intro i M1 e f1 f2
      refine cp2_X5_passes_10 _ _ _ _ _ ⟨fun z => ?_, fun _ => ?_⟩
      · rw [nle (by omega) (by omega)] at z
        omega
      · rw [nI_add 13 i, ncl (by omega), ncl (by omega), f1 22 w (by omega), h (13 + i) (by omega), nI_add]
        refine ⟨vin_i (by omega) (by omega), vin_i (by omega) (by omega), ?_⟩
        refine ih (i + 1) _ (by omega) (fun k i y => (mup_r y).trans (f1 k i y)) (fun p hp => ?_)
        rw [mup_ap]
        by_cases y : p = i
        · subst y
          rw [if_pos ⟨rfl, rfl, rfl⟩]
        · rw [if_neg (by omega)]; exact f2 p (by omega)
  refine en2_X5_passes _ _ (c_litOf h hP (fun p hp => by have := ho p (by omega); omega) (gO_i ?_))
  exact loop1 8 0 M (by omega) (fun _ _ _ => rfl) (fun p hp => absurd hp (by omega))
end MEv
