/-! copy -/
theorem m_copy {d : Nat} {Q : Option AV → Mem → Prop} {M : Mem} {ra rb i j n : Nat} (ha : ra < 8) (hb : rb < 8) (hi : i + n ≤ 40) (hj : j + n ≤ 40) (hQ : ∀ M', (∀ k l, ¬ (k = 19 ∧ l = 0) → ¬ (k = 20 ∧ l = 0) → ¬ (k = 16 ∧ l = 0) → M' k l = M k l) → (∀ l, l ≠ 4 → M' 16 0 l = M 16 0 l) → M' 16 0 4 = nI 0 → (∀ x, M' 19 0 x = if 40 * rb + j ≤ x ∧ x < 40 * rb + j + n then M 19 0 (40 * ra + i + (x - (40 * rb + j))) else M 19 0 x) → Q (some (zI (nI n))) M') : WP (wpd (d + 1)) 1 T_X5_copy Q (92, [zR 16 0, zI (nI ra), zI (nI i), zI (nI rb), zI (nI j), zI (nI n), zI (nI 0)], []) M := by
  refine up_ind (P := fun c => ∀ M1 : Mem, (∀ k l, ¬ (k = 20 ∧ l = 0) → M1 k l = M k l) → (∀ x, x < c → M1 20 0 x = M 19 0 (40 * ra + i + x)) → WP (wpd (d + 1)) 1 T_X5_copy Q (92, [zR 16 0, zI (nI ra), zI (nI i), zI (nI rb), zI (nI j), zI (nI n), zI (nI c)], []) M1) (n := n) ?_ ?_ M (fun _ _ _ => rfl) (fun x hx => by omega)
  · intro M1 f1 g1
    refine cp_X5_copy_92 _ _ _ _ _ _ _ ⟨fun _ => ?_, fun z => absurd ((nle (by omega) (by omega)).mpr (Nat.le_refl _)) z⟩
    refine up_ind (P := fun c => ∀ M2 : Mem, (∀ k l, ¬ (k = 19 ∧ l = 0) → M2 k l = M1 k l) → (∀ x, M2 19 0 x = if 40 * rb + j ≤ x ∧ x < 40 * rb + j + c then M 19 0 (40 * ra + i + (x - (40 * rb + j))) else M 19 0 x) → WP (wpd (d + 1)) 1 T_X5_copy Q (129, [zR 16 0, zU, zU, zI (nI rb), zI (nI j), zI (nI n), zI (nI c)], []) M2) (n := n) ?_ ?_ M1 (fun _ _ _ => rfl) (fun x => by rw [if_neg (by omega), f1 19 0 (by omega)])
    · intro M2 f2 g2
      refine cp_X5_copy_129 _ _ _ _ _ ⟨fun _ => ?_, fun z => absurd ((nle (by omega) (by omega)).mpr (Nat.le_refl _)) z⟩
      refine en_X5_well _ _ (gO_i (hQ _ (fun k l y1 y2 y3 => ?_) (fun l hl => ?_) ?_ (fun x => ?_)))
      · rw [mup_r y3, f2 k l y1, f1 k l y2]
      · rw [mup_ap, if_neg (by omega), f2 16 0 (by omega), f1 16 0 (by omega)]
      · rw [mup_ap, if_pos ⟨rfl, rfl, rfl⟩]
      · rw [mup_r (by omega)]; exact g2 x
    · intro c hc ih M2 f2 g2
      refine cp_X5_copy_129 _ _ _ _ _ ⟨fun z => ?_, fun _ => ?_⟩
      · rw [nle (by omega) (by omega)] at z
        omega
      · rw [pk_mul, nI_add (40 * rb), nI_add (40 * rb + j), nI_add c, ncl (by omega), ncl (by omega), f2 20 0 (by omega), g1 c hc]
        refine ⟨vin_i (by omega) (by omega), vin_i (by omega) (by omega), ih _ (fun k l y => by rw [mup_r y]; exact f2 k l y) (fun x => ?_)⟩
        rw [mup_ap]
        by_cases e : x = 40 * rb + j + c
        · subst e
          rw [if_pos ⟨rfl, rfl, rfl⟩, if_pos (by omega)]
          congr 1
          omega
        · rw [if_neg (by omega), g2 x]
          by_cases u : 40 * rb + j ≤ x ∧ x < 40 * rb + j + c
          · rw [if_pos u, if_pos (by omega)]
          · rw [if_neg u, if_neg (by omega)]
  · intro c hc ih M1 f1 g1
    refine cp_X5_copy_92 _ _ _ _ _ _ _ ⟨fun z => ?_, fun _ => ?_⟩
    · rw [nle (by omega) (by omega)] at z
      omega
    · rw [pk_mul, nI_add (40 * ra), nI_add (40 * ra + i), nI_add c, ncl (by omega), ncl (by omega), f1 19 0 (by omega)]
      refine ⟨vin_i (by omega) (by omega), vin_i (by omega) (by omega), ih _ (fun k l y => by rw [mup_r y]; exact f1 k l y) (fun x hx => ?_)⟩
      rw [mup_ap]
      by_cases e : x = c
      · rw [if_pos ⟨rfl, rfl, e⟩, e]
      · rw [if_neg (by omega)]; exact g1 x (by omega)
theorem pr_copy (p1 p2 p3 p4 p5 : Int32) : PR 56 122 [zR 0 0, zI p1, zI p2, zI p3, zI p4, zI p5] [zR 16 0, zI p1, zI p2, zI p3, zI p4, zI p5] := by
  intro M I
  rcases num_or p1 8 with ⟨ra, hra, rfl⟩ | hno
  · rcases num_or p3 8 with ⟨rb, hrb, rfl⟩ | hno
    · refine en_X4_copy _ _ _ _ _ _ (c_isRow4 (fun _ _ _ => gTe (c_isRow4 (fun _ _ _ => gTn ?_) (fun h => absurd rfl (h rb hrb)))) (fun h => absurd rfl (h ra hra)))
      rw [ncl (by omega), ncl (by omega), Nat.zero_add, Nat.zero_add]
      refine ⟨vin_i (by omega) (by omega), vin_i (by omega) (by omega), ?_⟩
      have ent : ∀ (s v : Int32), (∀ (N : Mem) (Q : Option AV → Mem → Prop), (∀ k i, ¬ (k = 0 ∧ i = 0) → N k i = M k i) → Q (some (zI v)) (mup N 16 0 4 s) → wpd 40 122 [zR 16 0, zI (nI ra), zI p2, zI (nI rb), zI p4, zI p5] N Q) → wpd 40 122 [zR 16 0, zI (nI ra), zI p2, zI (nI rb), zI p4, zI p5] (mup M 0 0 8 s) (fun r' M2 => gO r' fun v' => v = v' ∧ Inv M2 ∧ ∀ k, 30 ≤ k → M2 k = M k) := by
        intro s v h
        exact h _ _ (fun k i y => mup_r y) (gO_i ⟨rfl, I.find, find_30⟩)
      have en5 : ∀ (N : Mem) (Q : Option AV → Mem → Prop), wpd 39 117 [zR 16 0, zI (nI ra)] N (fun r3 M3 => gO r3 fun v3 => ((¬ (v3) = (nI 0) → wpd 39 113 [zR 16 0, zI (nI 1)] M3 (fun r4 M4 => gO r4 fun v4 => Q (some (zI v4)) M4)) ∧ ((v3) = (nI 0) → wpd 39 117 [zR 16 0, zI (nI rb)] M3 (fun r5 M5 => gO r5 fun v5 => (((v5) = (nI 0) → (vp_in (nI ra) 8 ∧ (vp_in (nI rb) 8 ∧ ((((M5 17 0 (nI ra).toNatClampNeg)) = (M5 17 0 (nI rb).toNatClampNeg) → wpd 39 121 [zR 16 0, zI (nI ra), zI p2, zI p5] M5 (fun r6 M6 => gO r6 fun v6 => (((v6) = (nI 0) → wpd 39 113 [zR 16 0, zI (nI 2)] M6 (fun r7 M7 => gO r7 fun v7 => Q (some (zI v7)) M7)) ∧ (¬ (v6) = (nI 0) → wpd 39 121 [zR 16 0, zI (nI rb), zI p4, zI p5] M6 (fun r8 M8 => gO r8 fun v8 => ((¬ (v8) = (nI 0) → WP (wpd 39) 1 T_X5_copy Q (92, [zR 16 0, zI (nI ra), zI p2, zI (nI rb), zI p4, zI p5, zI (nI 0)], []) M8) ∧ ((v8) = (nI 0) → wpd 39 113 [zR 16 0, zI (nI 2)] M8 (fun r9 M9 => gO r9 fun v9 => Q (some (zI v9)) M9)))))))) ∧ (¬ ((M5 17 0 (nI ra).toNatClampNeg)) = (M5 17 0 (nI rb).toNatClampNeg) → wpd 39 113 [zR 16 0, zI (nI 5)] M5 (fun r10 M10 => gO r10 fun v10 => Q (some (zI v10)) M10)))))) ∧ (¬ (v5) = (nI 0) → wpd 39 113 [zR 16 0, zI (nI 1)] M5 (fun r11 M11 => gO r11 fun v11 => Q (some (zI v11)) M11))))))) → wpd 40 122 [zR 16 0, zI (nI ra), zI p2, zI (nI rb), zI p4, zI p5] N Q := by
        intro N Q h
        exact en_X5_copy _ _ _ _ _ _ (c_isRow5 (fun _ _ _ => gTe (c_isRow5 (fun _ _ _ => gTn h) (fun h => absurd rfl (h rb hrb)))) (fun h => absurd rfl (h ra hra)))
      rcases I.1 ra hra with ⟨m4, m5⟩ | ⟨l, n, w1, w2, w3, w4, w5, w6, w7⟩
      · refine c_miss4 (fun _ => gTn (en_X4_found _ _ (gO_i (gO_i (ent _ _ (fun N Q fN hQ => en5 N Q ?_)))))) (fun z => absurd m4 z)
        exact c_miss5 hra (fun _ => gTn (en_X5_found _ _ (gO_i hQ))) (fun z => absurd (by rw [fN 17 0 (by omega)]; exact m5) z)
      · refine c_miss4 (fun z => absurd (w3 ▸ z) (ne_m1 (by omega))) (fun _ => gFn ?_)
        have ms : ∀ N : Mem, (∀ k i, ¬ (k = 0 ∧ i = 0) → N k i = M k i) → ¬ N 17 0 ra = -1000000 := fun N fN z => by
          rw [fN 17 0 (by omega), w5] at z
          exact absurd z (ne_no (by omega))
        rcases I.1 rb hrb with ⟨m4, m5⟩ | ⟨l', n', v1, v2, v3, v4, v5, v6, v7⟩
        · refine c_miss4 (fun _ => gTe (en_X4_found _ _ (gO_i (gO_i (ent _ _ (fun N Q fN hQ => en5 N Q ?_)))))) (fun z => absurd m4 z)
          refine c_miss5 hra (fun z => absurd z (ms N fN)) (fun _ => gFn ?_)
          exact c_miss5 hrb (fun _ => gTe (en_X5_found _ _ (gO_i hQ))) (fun z => absurd (by rw [fN 17 0 (by omega)]; exact m5) z)
        · refine c_miss4 (fun z => absurd (v3 ▸ z) (ne_m1 (by omega))) (fun _ => gFe ?_)
          have ms' : ∀ N : Mem, (∀ k i, ¬ (k = 0 ∧ i = 0) → N k i = M k i) → ¬ N 17 0 rb = -1000000 := fun N fN z => by
            rw [fN 17 0 (by omega), v5] at z
            exact absurd z (ne_no (by omega))
          rw [w3, v3]
          by_cases el : l = l'
          · subst el
            refine ⟨fun _ => ?_, fun z => absurd rfl z⟩
            have to5 : ∀ (N : Mem) (Q : Option AV → Mem → Prop), (∀ k i, k ≠ 0 → k ≠ 3 → N k i = M k i) → wpd 39 121 [zR 16 0, zI (nI ra), zI p2, zI p5] N (fun r6 M6 => gO r6 fun v6 => (((v6) = (nI 0) → wpd 39 113 [zR 16 0, zI (nI 2)] M6 (fun r7 M7 => gO r7 fun v7 => Q (some (zI v7)) M7)) ∧ (¬ (v6) = (nI 0) → wpd 39 121 [zR 16 0, zI (nI rb), zI p4, zI p5] M6 (fun r8 M8 => gO r8 fun v8 => ((¬ (v8) = (nI 0) → WP (wpd 39) 1 T_X5_copy Q (92, [zR 16 0, zI (nI ra), zI p2, zI (nI rb), zI p4, zI p5, zI (nI 0)], []) M8) ∧ ((v8) = (nI 0) → wpd 39 113 [zR 16 0, zI (nI 2)] M8 (fun r9 M9 => gO r9 fun v9 => Q (some (zI v9)) M9))))))) → wpd 40 122 [zR 16 0, zI (nI ra), zI p2, zI (nI rb), zI p4, zI p5] N Q := by
              intro N Q fN h
              refine en5 N Q (c_miss5 hra (fun z => ?_) (fun _ => gFn (c_miss5 hrb (fun z => ?_) (fun _ => gFe ⟨vin_i (by omega) (by omega), vin_i (by omega) (by omega), fun _ => h, fun z => ?_⟩))))
              · rw [fN 17 0 (by omega) (by omega), w5] at z
                exact absurd z (ne_no (by omega))
              · rw [fN 17 0 (by omega) (by omega), v5] at z
                exact absurd z (ne_no (by omega))
              · rw [ncl (by omega), ncl (by omega), fN 17 0 (by omega) (by omega), w5, v5] at z
                exact absurd rfl z
            refine c_hasItems w4 w2 (fun a b ea eb hab => gTe ?_) (fun h => gFe ?_)
            · refine c_hasItems v4 v2 (fun a' b' ea' eb' hab' => gTn ?_) (fun h => gFn ?_)
              · subst ea
                subst ea'
                have e2 : b = b' := by
                  have hb1 : b < 2147483648 := by omega
                  have hb2 : b' < 2147483648 := by omega
                  exact (neq hb1 hb2).mp (by rw [← eb, ← eb'])
                subst e2
                subst eb
                rw [ncl (by omega), ncl (by omega), ncl (by omega)]
                refine ⟨nI_pos (by omega), nI_pos (by omega), nI_pos (by omega), by omega, by omega, en_X4_foundNothing _ _ (gO_i (gO_i ?_))⟩
                refine to5 _ _ (fun k i y1 y2 => by rw [mup_r (by omega), mrow_n (by omega)]) ?_
                refine c_isPart hra (by rw [mup_r (by omega), mrow_n (by omega)]; exact w6) w2 (fun _ _ _ _ _ => gTe ?_) (fun h => absurd hab (h a b rfl rfl))
                refine c_isPart hrb (by rw [mup_r (by omega), mrow_n (by omega)]; exact v6) v2 (fun _ _ _ _ _ => gTn ?_) (fun h => absurd hab' (h a' b rfl rfl))
                refine m_copy hra hrb (by omega) (by omega) (fun M2 f1 f2 f3 f4 => gO_i ⟨rfl, ?_⟩)
                refine I.rows (fun k i a1 a2 a3 a4 a5 a6 a7 a8 => ?_) (fun j hj => ?_) (fun j hj => ?_) ?_ (fun s hs => ?_)
                · rw [f1 k i (by omega) (by omega) a8, mup_r a7, mrow_n (by omega)]
                · rw [f1 0 0 (by omega) (by omega) (by omega), mup_ap, if_neg (by omega), mrow_n (by omega)]
                · rw [f2 j hj, mup_r (by omega), mrow_n (by omega)]
                · rw [f3, f1 0 0 (by omega) (by omega) (by omega), mup_ap, if_pos ⟨rfl, rfl, rfl⟩]
                · rw [f1 2 s (by omega) (by omega) (by omega), mup_r (by omega), mrow_n (by omega), f1 17 0 (by omega) (by omega) (by omega), mup_r (by omega), mrow_n (by omega), f1 18 0 (by omega) (by omega) (by omega), mup_r (by omega), mrow_n (by omega)]
                  rcases I.1 s hs with y | ⟨sl, sn, s1, s2, s3, s4, s5, s6, s7⟩
                  · exact Or.inl y
                  · refine Or.inr ⟨sl, sn, s1, s2, s3, s4, s5, s6, fun j hj => ?_⟩
                    rw [f4, mup_r (by omega), mrow_n (by omega), f1 3 s (by omega) (by omega) (by omega), mup_r (by omega), mrow_ap]
                    by_cases u : s = rb
                    · subst u
                      rw [if_pos ⟨rfl, rfl⟩]
                      unfold va_cpy
                      by_cases v : a' ≤ j ∧ j < a' + b
                      · rw [if_pos v, if_pos (by omega), w7 _ (by omega)]
                        congr 1
                        omega
                      · rw [if_neg v, if_neg (by omega)]
                        exact s7 j hj
                    · rw [if_neg (by omega), if_neg (by omega)]
                      exact s7 j hj
              · refine en_X4_found _ _ (gO_i (gO_i ?_))
                refine to5 _ _ (fun k i y1 y2 => by rw [mup_r (by omega)]) ?_
                refine c_isPart hra (by rw [mup_r (by omega)]; exact w6) w2 (fun _ _ _ _ _ => gTe ?_) (fun h => absurd hab (h a b ea eb))
                refine c_isPart hrb (by rw [mup_r (by omega)]; exact v6) v2 (fun a b ea eb hab => absurd hab (h a b ea eb)) (fun _ => gFn ?_)
                exact en_X5_found _ _ (gO_i (gO_i ⟨rfl, I.find, find_30⟩))
            · refine en_X4_found _ _ (gO_i (gO_i ?_))
              refine to5 _ _ (fun k i y1 y2 => by rw [mup_r (by omega)]) ?_
              refine c_isPart hra (by rw [mup_r (by omega)]; exact w6) w2 (fun a b ea eb hab => absurd hab (h a b ea eb)) (fun _ => gFe ?_)
              exact en_X5_found _ _ (gO_i (gO_i ⟨rfl, I.find, find_30⟩))
          · refine ⟨fun z => absurd ((neq (by omega) (by omega)).mp z) el, fun _ => en_X4_found _ _ (gO_i (gO_i (ent _ _ (fun N Q fN hQ => en5 N Q ?_))))⟩
            refine c_miss5 hra (fun z => absurd z (ms N fN)) (fun _ => gFn (c_miss5 hrb (fun z => absurd z (ms' N fN)) (fun _ => gFe ⟨vin_i (by omega) (by omega), vin_i (by omega) (by omega), fun z => ?_, fun _ => en_X5_found _ _ (gO_i hQ)⟩)))
            rw [ncl (by omega), ncl (by omega), fN 17 0 (by omega), w5, v5] at z
            exact absurd ((neq (by omega) (by omega)).mp z) el
    · refine en_X4_copy _ _ _ _ _ _ (c_isRow4 (fun _ _ _ => gTe (c_isRow4 (fun r hr e => absurd e (hno r hr)) (fun _ => gFn (gO_i ?_)))) (fun h => absurd rfl (h ra hra)))
      exact en_X5_copy _ _ _ _ _ _ (c_isRow5 (fun _ _ _ => gTe (c_isRow5 (fun r hr e => absurd e (hno r hr)) (fun _ => gFn (gO_i ⟨rfl, I, fun _ _ => rfl⟩)))) (fun h => absurd rfl (h ra hra)))
  · refine en_X4_copy _ _ _ _ _ _ (c_isRow4 (fun r hr e => absurd e (hno r hr)) (fun _ => gFe (gO_i ?_)))
    exact en_X5_copy _ _ _ _ _ _ (c_isRow5 (fun r hr e => absurd e (hno r hr)) (fun _ => gFe (gO_i ⟨rfl, I, fun _ _ => rfl⟩)))
