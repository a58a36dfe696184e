/-! fits -/
theorem bso_z {f : Nat → Bool} : ∀ n, (∀ k, k < n → f k = false) → bso f n = 0
  | 0, _ => rfl
  | n + 1, h => by
    unfold bso
    rw [bso_z n (fun k hk => h k (by omega)), h n (by omega)]
    rfl
section Ft
variable {d : Nat} {Q : Option AV → Mem → Prop} {M : Mem} {T : Nat → Nat} {q n a u w lo L : Nat} {it : Nat → Int32} {F : Nat → Bool}
theorem c_fit_loop (hc : CT M 0 T) (hb : T 1 ≤ 8 ∧ T 2 ≤ 6) (hw : w ≤ 2) (hq : q < T 2) (h3 : T 3 + n < 1000000) (han : a + n ≤ 40) (hL : L < 8) (hlo : lo ≤ L + 1) (okv : ∀ v, lo ≤ v → v ≤ L → okT (ups T (21 + 4 * q + w) v)) (hit : ∀ k, k < n → M 3 u (a + k) = it k)
    (hF0 : ∀ v, v < lo → F v = false) (hF : ∀ v, lo ≤ v → F v = allB (fun k => decide (it k = tld (evn (ups T (21 + 4 * q + w) v) (k + 1)) q)) n)
    (hQ : ∀ M1, F1 M M1 → Q (some (zI (nI (bso F (L + 1))))) M1) : WP (wpd (d + 5)) 1 T_X4_fitting Q (49, [zR 0 0, zI (nI q), zR 2 u, zI (nI a), zI (nI n), zI (nI w), zU, zI (nI L), zI (nI 0), zI (nI lo)], []) M := by
  have start : (nI 0 : Int32) = nI (bso F lo) := by rw [bso_z lo hF0]
  rw [start]
  refine up_ind2 (P := fun i => ∀ M1, F1 M M1 → WP (wpd (d + 5)) 1 T_X4_fitting Q (49, [zR 0 0, zI (nI q), zR 2 u, zI (nI a), zI (nI n), zI (nI w), zU, zI (nI L), zI (nI (bso F i)), zI (nI i)], []) M1) (a := lo) (n := L + 1) hlo ?_ ?_ M F1.rf
  · intro M1 f1
    exact cp_X4_fitting_49 _ _ _ _ _ _ _ _ _ ⟨fun _ => hQ M1 f1, fun z => absurd ((nlt (by omega) (by omega)).mpr (by omega)) z⟩
  · intro i h1 hi ih M1 f1
    refine cp_X4_fitting_49 _ _ _ _ _ _ _ _ _ ⟨fun z => ?_, fun _ => ?_⟩
    · rw [nlt (by omega) (by omega)] at z
      omega
    · refine c_foretell (hc.f1 f1) hb.1 hb.2 (fun M2 f2 g2 => gN_i ?_)
      have tail : ∀ M3, F1 M M3 → CT M3 1 (ups T (21 + 4 * q + w) i) → wpd (d + 5) 100 [zR 0 0, zI (nI q), zR 2 u, zI (nI a), zI (nI n)] M3 (fun r2 M2 => gO r2 fun v2 => (((v2) = (nI 0) → WP (wpd (d + 5)) 1 T_X4_fitting Q (49, [zR 0 0, zI (nI q), zR 2 u, zI (nI a), zI (nI n), zI (nI w), zU, zI (nI L), zI (nI (bso F i)), zI (nI i + (nI 1))], []) M2) ∧ (¬ (v2) = (nI 0) → WP (wpd (d + 5)) 1 T_X4_fitting Q (49, [zR 0 0, zI (nI q), zR 2 u, zI (nI a), zI (nI n), zI (nI w), zU, zI (nI L), zI (nI (bso F i) ||| ((nI 1) <<< (nI i &&& 31))), zI (nI i + (nI 1))], []) M2))) := by
        intro M3 f3 g3
        have hbl := bso_lt F i
        refine c_goesTold (it := it) g3 (okv i h1 (by omega)) (by rw [ups_n (by omega)]; exact h3) (by rw [ups_n (by omega)]; exact hq) han (fun k hk => by rw [f3 3 u (by omega)]; exact hit k hk) (fun M4 f4 => gO_i ?_)
        have ih4 := ih M4 (f3.tr f4)
        rw [show bso F (i + 1) = bso F i + cond (F i) (2 ^ i) 0 from rfl] at ih4
        rw [← hF i h1, nI_add]
        cases hfi : F i
        · rw [hfi] at ih4
          exact ⟨fun _ => ih4, fun z => absurd rfl z⟩
        · rw [hfi] at ih4
          refine ⟨fun z => absurd z c10, fun _ => ?_⟩
          rw [or_b i (by omega) _ hbl]; exact ih4
      rw [ncl (by omega)]
      have fr : ∀ k, 6 ≤ k → k ≤ 11 → F1 M (mup M2 k 1 q (nI i)) := fun k y1 y2 k' i' y => by rw [mup_r (by omega)]; exact (f1.tr f2) k' i' y
      rcases (by omega : w = 0 ∨ w = 1 ∨ w = 2) with rfl | rfl | rfl
      · exact ⟨fun z => absurd rfl z, fun _ => ⟨vin_i (by omega) (by omega), tail _ (fr 9 (by omega) (by omega)) (g2.kU hb.1)⟩⟩
      · refine ⟨fun _ => ⟨fun z => absurd rfl z, fun _ => ⟨vin_i (by omega) (by omega), tail _ (fr 10 (by omega) (by omega)) ?_⟩⟩, fun z => absurd z c10⟩
        rw [show 21 + 4 * q + 1 = 22 + 4 * q by omega]
        exact g2.atU hb.1
      · refine ⟨fun _ => ⟨fun _ => ⟨vin_i (by omega) (by omega), tail _ (fr 11 (by omega) (by omega)) ?_⟩, fun z => absurd z (by decide)⟩, fun z => absurd z (by decide)⟩
        rw [show 21 + 4 * q + 2 = 23 + 4 * q by omega]
        exact g2.wyU hb.1
theorem m_fit_loop {r : Nat} (hm : MT M 0 T) (hb : T 1 ≤ 8 ∧ T 2 ≤ 6) (hr : r < 8) (hw : w ≤ 2) (hq : q < T 2) (h3 : T 3 + n < 1000000) (han : a + n ≤ 40) (hL : L = if w = 0 then 5 else if w = 1 then T 1 - 1 else 1) (h1p : 1 ≤ T 1) (hlo : lo ≤ L + 1) (okv : ∀ v, lo ≤ v → v ≤ L → okT (ups T (21 + 4 * q + w) v)) (hit : ∀ k, k < n → M 19 0 (40 * r + a + k) = it k)
    (hF0 : ∀ v, v < lo → F v = false) (hF : ∀ v, lo ≤ v → F v = allB (fun k => decide (it k = tld (evn (ups T (21 + 4 * q + w) v) (k + 1)) q)) n)
    (hQ : ∀ M1, Fp 2 M M1 → Q (some (zI (nI (bso F (L + 1))))) (mup M1 16 0 4 (nI 0))) : WP (wpd (d + 6)) 1 T_X5_fits Q (96, [zR 16 0, zI (nI q), zI (nI r), zI (nI a), zI (nI n), zI (nI w), zI (nI 0), zI (nI lo)], []) M := by
  have start : (nI 0 : Int32) = nI (bso F lo) := by rw [bso_z lo hF0]
  have hL8 : L < 8 := by
    rw [hL]
    split
    · omega
    · split <;> omega
  rw [start]
  refine up_ind2 (P := fun i => ∀ M1, Fp 2 M M1 → WP (wpd (d + 6)) 1 T_X5_fits Q (96, [zR 16 0, zI (nI q), zI (nI r), zI (nI a), zI (nI n), zI (nI w), zI (nI (bso F i)), zI (nI i)], []) M1) (a := lo) (n := L + 1) hlo ?_ ?_ M Fp.rf
  · intro M1 f1
    have hm1 := hm.fp f1
    have E : wpd (d + 6) 114 [zR 16 0, zI (nI (bso F (L + 1)))] M1 (fun r1 M1 => gO r1 fun v1 => Q (some (zI v1)) M1) := en_X5_well _ _ (gO_i (hQ M1 f1))
    refine cp_X5_fits_96 _ _ _ _ _ _ _ _ ⟨fun y => ⟨fun y2 => ⟨fun _ => E, fun z => ?_⟩, fun y2 => ⟨vin_i (by omega) (by omega), fun _ => E, fun z => ?_⟩⟩, fun y => ⟨fun _ => E, fun z => ?_⟩⟩
    · rw [if_neg (fun e => y (by rw [e])), if_neg (fun e => y2 (by rw [e]))] at hL
      exact absurd ((nlt (by omega) (by omega)).mpr (by omega)) z
    · rw [neq (by omega) (by omega)] at y2
      rw [if_neg (fun e => y (by rw [e])), if_pos y2] at hL
      rw [hm1 1 (by omega), pk_sub (by omega)] at z
      exact absurd ((nlt (by omega) (by omega)).mpr (by omega)) z
    · rw [neq (by omega) (by omega)] at y
      rw [if_pos y] at hL
      exact absurd ((nlt (by omega) (by omega)).mpr (by omega)) z
  · intro i h1 hi ih M1 f1
    have hm1 := hm.fp f1
    have body : wpd (d + 6) 115 [zR 22 0, zI (nI 0), zR 22 2, zI (nI 0)] M1 (fun r2 M2 => gN r2 ((vp_in (((nI 21) + ((nI 4) * nI q)) + nI w) 45 ∧ wpd (d + 6) 172 [zR 16 0, zI (nI q), zI (((nI 40) * nI r) + nI a), zI (nI n)] (mup M2 22 2 ((((nI 21) + ((nI 4) * nI q)) + nI w).toNatClampNeg) (nI i)) (fun r3 M3 => gO r3 fun v3 => (((v3) = (nI 0) → WP (wpd (d + 6)) 1 T_X5_fits Q (96, [zR 16 0, zI (nI q), zI (nI r), zI (nI a), zI (nI n), zI (nI w), zI (nI (bso F i) ||| (nI 0)), zI (nI i + (nI 1))], []) M3) ∧ (¬ (v3) = (nI 0) → WP (wpd (d + 6)) 1 T_X5_fits Q (96, [zR 16 0, zI (nI q), zI (nI r), zI (nI a), zI (nI n), zI (nI w), zI (nI (bso F i) ||| ((nI 1) <<< (nI i &&& 31))), zI (nI i + (nI 1))], []) M3)))))) := by
      refine m_try hm1 (fun M2 f2 g2 => gN_i ?_)
      rw [pk_mul, pk_mul, nI_add 21, nI_add (21 + 4 * q), nI_add (40 * r), ncl (by omega)]
      have hbl := bso_lt F i
      refine ⟨vin_i (by omega) (by omega), m_isSeen (it := it) g2.up (okv i h1 (by omega)) (by rw [ups_n (by omega)]; exact h3) (by rw [ups_n (by omega)]; exact hq) (by omega) (fun k hk => by rw [mup_r (by omega), (f1.tr f2) 19 0 (by omega) (by omega)]; exact hit k hk) (fun M4 f4 => gO_i ?_)⟩
      have f34 : Fp 2 M M4 := (f1.tr f2).tr (fun k j y1 y2 => by rw [f4 k j y1 y2, mup_r y1])
      have ih4 := ih M4 f34
      rw [show bso F (i + 1) = bso F i + cond (F i) (2 ^ i) 0 from rfl] at ih4
      rw [← hF i h1, nI_add]
      cases hfi : F i
      · rw [hfi] at ih4
        refine ⟨fun _ => ?_, fun z => absurd rfl z⟩
        rw [or_0]; exact ih4
      · rw [hfi] at ih4
        refine ⟨fun z => absurd z c10, fun _ => ?_⟩
        rw [or_b i (by omega) _ hbl]; exact ih4
    refine cp_X5_fits_96 _ _ _ _ _ _ _ _ ⟨fun y => ⟨fun y2 => ⟨fun z => ?_, fun _ => body⟩, fun y2 => ⟨vin_i (by omega) (by omega), fun z => ?_, fun _ => body⟩⟩, fun y => ⟨fun z => ?_, fun _ => body⟩⟩
    · rw [if_neg (fun e => y (by rw [e])), if_neg (fun e => y2 (by rw [e]))] at hL
      rw [nlt (by omega) (by omega)] at z
      omega
    · rw [neq (by omega) (by omega)] at y2
      rw [if_neg (fun e => y (by rw [e])), if_pos y2] at hL
      rw [hm1 1 (by omega), pk_sub (by omega), nlt (by omega) (by omega)] at z
      omega
    · rw [neq (by omega) (by omega)] at y
      rw [if_pos y] at hL
      rw [nlt (by omega) (by omega)] at z
      omega
end Ft
theorem pr_fits (p1 p2 p3 p4 p5 : Int32) : PR 78 173 [zR 0 0, zI p1, zI p2, zI p3, zI p4, zI p5] [zR 16 0, zI p1, zI p2, zI p3, zI p4, zI p5] := by
  intro M I
  obtain ⟨T, hg, hc, hm⟩ := I.2.2.2.2.2.1
  have hb := hg.b
  rcases num_or p1 (T 2) with ⟨q, hq, rfl⟩ | hno
  · have hN := hg.p hq
    have h3 := hN.2.1
    obtain ⟨x1, x2, x3, x4, x5⟩ := hN.1.2.2.2.2.2.2.2 q hq
    rcases num_or p2 8 with ⟨r, hr, rfl⟩ | hno
    · by_cases w : nI 1 ≤ p4 ∧ p4 ≤ nI 12
      · obtain ⟨n, hn, rfl⟩ := nI_of2 (x := p4) (M := nI 12) (n := 12) (by decide) (fun y => Int32.not_le.mpr (Int32.lt_of_lt_of_le y (by decide)) w.1) w.2
        by_cases v : nI 0 ≤ p5 ∧ p5 ≤ nI 2
        · obtain ⟨c, hc2, rfl⟩ := nI_of2 (x := p5) (M := nI 2) (n := 2) (by decide) (Int32.not_lt.mpr v.1) v.2
          refine en_X4_fits _ _ _ _ _ _ (c_hasPlayer hc.1.2.1 hb.2 (fun _ _ _ => gTe ?_) (fun h => absurd rfl (h q hq)))
          refine c_isRow4 (fun _ _ _ => gTe ?_) (fun h => absurd rfl (h r hr))
          refine c_isWithin (fun _ _ => gTe ?_) (fun y => absurd w y)
          refine c_isWithin (fun _ _ => gTn ?_) (fun y => absurd v y)
          have en5 : ∀ (N : Mem) (Q : Option AV → Mem → Prop), MT N 0 T → (T (24 + 4 * q) = 1 → Q (some (zI (-1000002))) N) → (T (24 + 4 * q) = 0 → wpd 39 117 [zR 16 0, zI (nI r)] N (fun r6 M6 => gO r6 fun v6 => (((v6) = (nI 0) → wpd 39 121 [zR 16 0, zI (nI r), zI p3, zI (nI n)] M6 (fun r7 M7 => gO r7 fun v7 => ((¬ (v7) = (nI 0) → ((¬ (nI c) = (nI 0) → WP (wpd 39) 1 T_X5_fits Q (96, [zR 16 0, zI (nI q), zI (nI r), zI p3, zI (nI n), zI (nI c), zI (nI 0), zI (nI 0)], []) M7) ∧ ((nI c) = (nI 0) → WP (wpd 39) 1 T_X5_fits Q (96, [zR 16 0, zI (nI q), zI (nI r), zI p3, zI (nI n), zI (nI c), zI (nI 0), zI (nI 1)], []) M7))) ∧ ((v7) = (nI 0) → wpd 39 113 [zR 16 0, zI (nI 2)] M7 (fun r8 M8 => gO r8 fun v8 => Q (some (zI v8)) M8))))) ∧ (¬ (v6) = (nI 0) → wpd 39 113 [zR 16 0, zI (nI 1)] M6 (fun r9 M9 => gO r9 fun v9 => Q (some (zI v9)) M9))))) → wpd 40 173 [zR 16 0, zI (nI q), zI (nI r), zI p3, zI (nI n), zI (nI c)] N Q := by
            intro N Q hmN h1 h0
            refine en_X5_fits _ _ _ _ _ _ (c_isPlayer5 (hmN 2 (by omega)) hb.2 (fun _ _ _ => gTe ?_) (fun h => absurd rfl (h q hq)))
            refine c_isRow5 (fun _ _ _ => gTe ?_) (fun h => absurd rfl (h r hr))
            refine c_in (fun _ _ => gTe ?_) (fun y => absurd w y)
            refine c_in (fun _ _ => gTn ?_) (fun y => absurd v y)
            exact c_hasCr5 hmN (by omega) x5 (fun c => gTe (h1 c)) (fun c => gFe (h0 c))
          refine c_hasCrossed hc.1 hb.2 hq x5 (fun cr => gTe (gO_i ?_)) (fun cr => gFe ⟨vin_i (by omega) (by omega), ?_⟩)
          · exact en5 _ _ hm (fun _ => gO_i ⟨rfl, I, fun _ _ => rfl⟩) (fun z => by omega)
          · rw [ncl (by omega), Nat.zero_add]
            rcases I.1 r hr with ⟨m4, m5⟩ | ⟨l, ln, w1, w2, w3, w4, w5, w6, w7⟩
            · refine c_miss4 (fun _ => gTe (en_X4_found _ _ (gO_i (gO_i ?_)))) (fun z => absurd m4 z)
              refine en5 _ _ (fun j hj => by rw [mup_r (by omega)]; exact hm j hj) (fun z => by omega) (fun _ => ?_)
              refine c_miss5 hr (fun _ => gTe ?_) (fun z => absurd (by rw [mup_r (by omega)]; exact m5) z)
              exact en_X5_found _ _ (gO_i (gO_i ⟨rfl, I.find, find_30⟩))
            · refine c_miss4 (fun z => absurd (w3 ▸ z) (ne_m1 (by omega))) (fun _ => gFe ?_)
              refine c_hasItems w4 w2 (fun a b ea eb hab => gTn ?_) (fun h => gFn ?_)
              · subst ea
                have eb2 : n = b := by
                  have hb2 : b < 2147483648 := by omega
                  exact (neq (by omega) hb2).mp eb
                subst eb2
                have tp : 1 ≤ T 1 := by have := hN.1.2.1; omega
                have main : ∀ lo L : Nat, (lo = if c = 0 then 1 else 0) → (L = if c = 0 then 5 else if c = 1 then T 1 - 1 else 1) → WP (wpd 38) 1 T_X4_fitting (fun r8 M8 => gO r8 fun v8 => wpd 39 95 [zR 0 0, zI v8] M8 (fun r9 M9 => gO r9 fun v9 => gO (some (zI v9)) fun v => wpd 40 173 [zR 16 0, zI (nI q), zI (nI r), zI (nI a), zI (nI n), zI (nI c)] M9 (fun r' M2 => gO r' fun v' => v = v' ∧ Inv M2 ∧ ∀ k, 30 ≤ k → M2 k = M k))) (49, [zR 0 0, zI (nI q), zR 2 r, zI (nI a), zI (nI n), zI (nI c), zU, zI (nI L), zI (nI 0), zI (nI lo)], []) M := by
                  intro lo L hlo hL
                  have hL8 : L < 8 := by
                    rw [hL]
                    split
                    · omega
                    · split <;> omega
                  have hlL : lo ≤ L + 1 := by
                    rw [hlo]
                    split <;> omega
                  have okv : ∀ v, lo ≤ v → v ≤ L → okT (ups T (21 + 4 * q + c) v) := by
                    intro v h1 h2
                    rcases (by omega : c = 0 ∨ c = 1 ∨ c = 2) with rfl | rfl | rfl
                    · rw [if_pos rfl] at hlo hL
                      exact okT_k hN.1 (by omega) (by omega)
                    · rw [if_neg (by omega), if_pos rfl] at hL
                      rw [show 21 + 4 * q + 1 = 22 + 4 * q by omega]
                      exact okT_at hN.1 (by omega)
                    · rw [if_neg (by omega), if_neg (by omega)] at hL
                      rw [show 21 + 4 * q + 2 = 23 + 4 * q by omega]
                      exact okT_wy hN.1 (by omega)
                  generalize hF : (fun v => decide (lo ≤ v) && allB (fun k => decide (M 3 r (a + k) = tld (evn (ups T (21 + 4 * q + c) v) (k + 1)) q)) n) = F
                  have hF0 : ∀ v, v < lo → F v = false := fun v hv => by
                    rw [← hF]
                    show (decide (lo ≤ v) && _) = false
                    rw [decide_eq_false (by omega), Bool.false_and]
                  have hF1 : ∀ v, lo ≤ v → F v = allB (fun k => decide (M 3 r (a + k) = tld (evn (ups T (21 + 4 * q + c) v) (k + 1)) q)) n := fun v hv => by
                    rw [← hF]
                    show (decide (lo ≤ v) && _) = _
                    rw [decide_eq_true hv, Bool.true_and]
                  refine c_fit_loop (it := fun k => M 3 r (a + k)) hc hb hc2 hq (by omega) (by omega) hL8 hlL okv (fun _ _ => rfl) hF0 hF1 (fun M1 f1 => gO_i (en_X4_foundNothing _ _ (gO_i (gO_i ?_))))
                  have hm1 : MT (mup M1 0 0 8 (nI 0)) 0 T := fun j hj => by rw [mup_r (by omega)]; exact hm.f1 f1 j hj
                  refine en5 _ _ hm1 (fun z => by omega) (fun _ => ?_)
                  refine c_miss5 hr (fun z => ?_) (fun _ => gFe ?_)
                  · rw [mup_r (by omega), f1 17 0 (by omega), w5] at z
                    exact absurd z (ne_no (by omega))
                  · refine c_isPart hr (by rw [mup_r (by omega), f1 18 0 (by omega)]; exact w6) w2 (fun _ _ _ _ _ => gTn ?_) (fun h => absurd hab (h a n rfl rfl))
                    have fin := m_fit_loop (d := 33) (T := T) (n := n) (a := a) (w := c) (q := q) (L := L) (lo := lo) (F := F) (Q := fun r' M2 => gO r' fun v' => nI (bso F (L + 1)) = v' ∧ Inv M2 ∧ ∀ k, 30 ≤ k → M2 k = M k) (r := r) (it := fun k => M 3 r (a + k)) hm1 hb hr hc2 hq (by omega) (by omega) hL tp hlL okv (fun k hk => by rw [mup_r (by omega), f1 19 0 (by omega), w7 (a + k) (by omega), Nat.add_assoc]) hF0 hF1 (fun M2 f2 => gO_i ⟨rfl, fin_qs I f1 f2⟩)
                    refine ⟨fun z => ?_, fun z => ?_⟩
                    · rw [if_neg (fun e => z (by rw [e]))] at hlo
                      rw [hlo] at fin
                      exact fin
                    · rw [neq (by omega) (by omega)] at z
                      rw [if_pos z] at hlo
                      rw [hlo] at fin
                      exact fin
                refine en_X4_fitting _ _ _ _ _ _ ?_
                refine ⟨fun z => ⟨fun _ => ⟨fun z2 => ?_, fun z2 => ?_⟩, fun y => absurd y z⟩, fun z => ⟨fun y => absurd z y, fun _ => ?_⟩⟩
                · have := main 0 1 (by rw [if_neg (fun e => z (by rw [e]))]) (by rw [if_neg (fun e => z (by rw [e])), if_neg (fun e => z2 (by rw [e]))])
                  exact this
                · have z2' := (neq (by omega) (by omega)).mp z2
                  rw [hc.1.1, pk_sub (by omega)]
                  exact main 0 (T 1 - 1) (by rw [if_neg (fun e => z (by rw [e]))]) (by rw [if_neg (fun e => z (by rw [e])), if_pos z2'])
                · have z' := (neq (by omega) (by omega)).mp z
                  exact main 1 5 (by rw [if_pos z']) (by rw [if_pos z'])
              · refine en_X4_found _ _ (gO_i (gO_i ?_))
                refine en5 _ _ (fun j hj => by rw [mup_r (by omega)]; exact hm j hj) (fun z => by omega) (fun _ => ?_)
                refine c_miss5 hr (fun z => ?_) (fun _ => gFe ?_)
                · rw [mup_r (by omega), w5] at z
                  exact absurd z (ne_no (by omega))
                · refine c_isPart hr (by rw [mup_r (by omega)]; exact w6) w2 (fun a b ea eb hab => absurd hab (h a b ea eb)) (fun _ => gFn ?_)
                  exact en_X5_found _ _ (gO_i (gO_i ⟨rfl, I.find, find_30⟩))
        · refine en_X4_fits _ _ _ _ _ _ (c_hasPlayer hc.1.2.1 hb.2 (fun _ _ _ => gTe (c_isRow4 (fun _ _ _ => gTe (c_isWithin (fun _ _ => gTe (c_isWithin (fun y1 y2 => absurd ⟨y1, y2⟩ v) (fun _ => gFn (gO_i ?_)))) (fun y => absurd w y))) (fun h => absurd rfl (h r hr)))) (fun h => absurd rfl (h q hq)))
          exact en_X5_fits _ _ _ _ _ _ (c_isPlayer5 (hm 2 (by omega)) hb.2 (fun _ _ _ => gTe (c_isRow5 (fun _ _ _ => gTe (c_in (fun _ _ => gTe (c_in (fun y1 y2 => absurd ⟨y1, y2⟩ v) (fun _ => gFn (gO_i ⟨rfl, I, fun _ _ => rfl⟩)))) (fun y => absurd w y))) (fun h => absurd rfl (h r hr)))) (fun h => absurd rfl (h q hq)))
      · refine en_X4_fits _ _ _ _ _ _ (c_hasPlayer hc.1.2.1 hb.2 (fun _ _ _ => gTe (c_isRow4 (fun _ _ _ => gTe (c_isWithin (fun y1 y2 => absurd ⟨y1, y2⟩ w) (fun _ => gFe (gO_i ?_)))) (fun h => absurd rfl (h r hr)))) (fun h => absurd rfl (h q hq)))
        exact en_X5_fits _ _ _ _ _ _ (c_isPlayer5 (hm 2 (by omega)) hb.2 (fun _ _ _ => gTe (c_isRow5 (fun _ _ _ => gTe (c_in (fun y1 y2 => absurd ⟨y1, y2⟩ w) (fun _ => gFe (gO_i ⟨rfl, I, fun _ _ => rfl⟩)))) (fun h => absurd rfl (h r hr)))) (fun h => absurd rfl (h q hq)))
    · refine en_X4_fits _ _ _ _ _ _ (c_hasPlayer hc.1.2.1 hb.2 (fun _ _ _ => gTe (c_isRow4 (fun r hr e => absurd e (hno r hr)) (fun _ => gFe (gO_i ?_)))) (fun h => absurd rfl (h q hq)))
      exact en_X5_fits _ _ _ _ _ _ (c_isPlayer5 (hm 2 (by omega)) hb.2 (fun _ _ _ => gTe (c_isRow5 (fun r hr e => absurd e (hno r hr)) (fun _ => gFe (gO_i ⟨rfl, I, fun _ _ => rfl⟩)))) (fun h => absurd rfl (h q hq)))
  · refine en_X4_fits _ _ _ _ _ _ (c_hasPlayer hc.1.2.1 hb.2 (fun k hk e => absurd e (hno k hk)) (fun _ => gFe (gO_i ?_)))
    exact en_X5_fits _ _ _ _ _ _ (c_isPlayer5 (hm 2 (by omega)) hb.2 (fun k hk e => absurd e (hno k hk)) (fun _ => gFe (gO_i ⟨rfl, I, fun _ _ => rfl⟩)))
