/-! sits, fits: the calls -/
theorem sit_le {T : Nat → Nat} {p : Nat} (h : p < 8) : T (13 + p) ≤ sitN T := by
  unfold sitN
  rw [sit8]
  rcases (by omega : p = 0 ∨ p = 1 ∨ p = 2 ∨ p = 3 ∨ p = 4 ∨ p = 5 ∨ p = 6 ∨ p = 7) with rfl | rfl | rfl | rfl | rfl | rfl | rfl | rfl <;> omega
section Zu
variable {M : Mem} {t : Nat} {T : Nat → Nat}
theorem CT.zU {p v : Nat} (h : CT M t T) (h8 : T 1 ≤ 8) (hp : p < 8) : CT (mup M 8 t p (nI v)) t (ups T (13 + p) v) := by
  obtain ⟨⟨b1, b2, b3, b4, b5, b6, b7, b8⟩, b9⟩ := h
  have e1 : ups T (13 + p) v 1 = T 1 := ups_n (by omega)
  have e2 : ups T (13 + p) v 2 = T 2 := ups_n (by omega)
  refine ⟨⟨by rw [mup_r (by omega), e1]; exact b1, by rw [mup_r (by omega), e2]; exact b2, by rw [mup_r (by omega), ups_n (by omega)]; exact b3, by rw [mup_r (by omega), ups_n (by omega)]; exact b4, ?_, fun r hr => ?_, fun r hr => ?_, fun q hq => ?_⟩, by rw [mup_r (by omega), ups_n (by omega)]; exact b9⟩
  · rw [mup_r (by omega), b5, e2]
    congr 1
    exact bso_cong _ (fun k _ => by rw [ups_n (by omega)])
  · rw [e1] at hr
    rw [mup_r (by omega)]
    show _ = nI (ups T (13 + p) v (5 + r))
    rw [ups_n (by omega)]; exact b6 r hr
  · rw [mup_ap]
    show _ = nI (ups T (13 + p) v (13 + r))
    by_cases z : r = p
    · subst z
      rw [if_pos ⟨rfl, rfl, rfl⟩, ups_s]
    · rw [if_neg (by omega), ups_n (by omega)]; exact b7 r hr
  · rw [e2] at hq
    rw [mup_r (by omega), mup_r (by omega), mup_r (by omega), ups_n (by omega), ups_n (by omega), ups_n (by omega)]
    exact b8 q hq
theorem CT.kU {q v : Nat} (h : CT M t T) (h8 : T 1 ≤ 8) : CT (mup M 9 t q (nI v)) t (ups T (21 + 4 * q) v) := by
  obtain ⟨⟨b1, b2, b3, b4, b5, b6, b7, b8⟩, b9⟩ := h
  have e1 : ups T (21 + 4 * q) v 1 = T 1 := ups_n (by omega)
  have e2 : ups T (21 + 4 * q) v 2 = T 2 := ups_n (by omega)
  refine ⟨⟨by rw [mup_r (by omega), e1]; exact b1, by rw [mup_r (by omega), e2]; exact b2, by rw [mup_r (by omega), ups_n (by omega)]; exact b3, by rw [mup_r (by omega), ups_n (by omega)]; exact b4, ?_, fun r hr => ?_, fun r hr => ?_, fun r hr => ?_⟩, by rw [mup_r (by omega), ups_n (by omega)]; exact b9⟩
  · rw [mup_r (by omega), b5, e2]
    congr 1
    exact bso_cong _ (fun k _ => by rw [ups_n (by omega)])
  · rw [e1] at hr
    rw [mup_r (by omega)]
    show _ = nI (ups T (21 + 4 * q) v (5 + r))
    rw [ups_n (by omega)]; exact b6 r hr
  · rw [mup_r (by omega)]
    show _ = nI (ups T (21 + 4 * q) v (13 + r))
    rw [ups_n (by omega)]; exact b7 r hr
  · rw [e2] at hr
    rw [mup_ap, mup_r (by omega), mup_r (by omega), ups_n (show 22 + 4 * r ≠ 21 + 4 * q by omega), ups_n (show 23 + 4 * r ≠ 21 + 4 * q by omega)]
    refine ⟨?_, (b8 r hr).2⟩
    by_cases z : r = q
    · subst z
      rw [if_pos ⟨rfl, rfl, rfl⟩, ups_s]
    · rw [if_neg (by omega), ups_n (by omega)]; exact (b8 r hr).1
theorem okT_k {q v : Nat} (h : okT T) (h1 : 1 ≤ v) (hv : v ≤ 5) : okT (ups T (21 + 4 * q) v) := by
  obtain ⟨o0, o1, o2, o3, o4, o5, o6, o7⟩ := h
  have e2 : ups T (21 + 4 * q) v 2 = T 2 := ups_n (by omega)
  have e1 : ups T (21 + 4 * q) v 1 = T 1 := ups_n (by omega)
  refine ⟨by rw [ups_n (by omega)]; exact o0, by rw [e1]; exact o1, by rw [e1]; exact o2, by rw [e2]; exact o3, by rw [ups_n (by omega)]; exact o4, fun r hr => by rw [ups_n (by omega)]; exact o5 r hr, fun r hr => ?_, fun r hr => ?_⟩
  · rw [ups_n (by omega), e2, sumN_c (T 2) (f := fun r => ups T (21 + 4 * q) v (24 + 4 * r)) (g := fun r => T (24 + 4 * r)) (fun k _ => ups_n (by omega))]
    exact o6 r hr
  · rw [e2] at hr
    rw [e1, ups_n (show 22 + 4 * r ≠ 21 + 4 * q by omega), ups_n (show 23 + 4 * r ≠ 21 + 4 * q by omega), ups_n (show 24 + 4 * r ≠ 21 + 4 * q by omega)]
    obtain ⟨a1, a2, a3, a4, a5⟩ := o7 r hr
    by_cases z : r = q
    · subst z; rw [ups_s]; exact ⟨h1, hv, a3, a4, a5⟩
    · rw [ups_n (by omega)]; exact ⟨a1, a2, a3, a4, a5⟩
theorem okT_z {p : Nat} (h : okT T) (hx : okX T) (hp : p < 8) : okT (ups T (13 + p) (T (13 + p) + 1)) := by
  obtain ⟨o0, o1, o2, o3, o4, o5, o6, o7⟩ := h
  have e2 : ups T (13 + p) (T (13 + p) + 1) 2 = T 2 := ups_n (by omega)
  have e1 : ups T (13 + p) (T (13 + p) + 1) 1 = T 1 := ups_n (by omega)
  refine ⟨by rw [ups_n (by omega)]; exact o0, by rw [e1]; exact o1, by rw [e1]; exact o2, by rw [e2]; exact o3, by rw [ups_n (by omega)]; exact o4, fun r hr => by rw [ups_n (by omega)]; exact o5 r hr, fun r hr => ?_, fun r hr => ?_⟩
  · rw [e2, sumN_c (T 2) (f := fun r => ups T (13 + p) (T (13 + p) + 1) (24 + 4 * r)) (g := fun r => T (24 + 4 * r)) (fun k _ => ups_n (by omega))]
    by_cases z : r = p
    · subst z
      rw [ups_s]
      have h1 := hx.2.1
      have h2 := sit_le (T := T) hp
      omega
    · rw [ups_n (by omega)]
      exact o6 r hr
  · rw [e2] at hr
    rw [e1, ups_n (by omega), ups_n (by omega), ups_n (by omega), ups_n (by omega)]
    exact o7 r hr
end Zu
theorem pr_sits (p1 p2 p3 : Int32) : PR 79 174 [zR 0 0, zI p1, zI p2, zI p3] [zR 16 0, zI p1, zI p2, zI p3] := by
  intro M I
  obtain ⟨T, hg, hc, hm⟩ := I.2.2.2.2.2.1
  have hb := hg.b
  by_cases t0 : 0 < T 1
  · have hN := hg.n t0
    rcases num_or p1 8 with ⟨r, hr, rfl⟩ | hno
    · by_cases w : nI 1 ≤ p3 ∧ p3 ≤ nI 12
      · obtain ⟨n, hn, rfl⟩ := nI_of2 (x := p3) (M := nI 12) (n := 12) (by decide) (fun y => Int32.not_le.mpr (Int32.lt_of_lt_of_le y (by decide)) w.1) w.2
        have h3 := hN.2.1
        rcases I.1 r hr with ⟨m4, m5⟩ | ⟨l, ln, w1, w2, w3, w4, w5, w6, w7⟩
        · refine en_X4_sits _ _ _ _ (c_stands hc.1.1 hb.1 (fun _ => gTn (c_isRow4 (fun _ _ _ => gTe (c_isWithin (fun _ _ => gTn ⟨vin_i (by omega) (by omega), ?_⟩) (fun y => absurd w y))) (fun h => absurd rfl (h r hr)))) (fun y => by omega))
          rw [ncl (by omega), Nat.zero_add]
          refine c_miss4 (fun _ => gTe (en_X4_found _ _ (gO_i (gO_i ?_)))) (fun z => absurd m4 z)
          refine en_X5_sits _ _ _ _ (c_isTown5 (by rw [mup_r (by omega)]; exact hm 1 (by omega)) hb.1 (fun _ => gTn (c_isRow5 (fun _ _ _ => gTe (c_in (fun _ _ => gTn ?_) (fun y => absurd w y))) (fun h => absurd rfl (h r hr)))) (fun y => by omega))
          refine c_miss5 hr (fun _ => gTe ?_) (fun z => absurd (by rw [mup_r (by omega)]; exact m5) z)
          exact en_X5_found _ _ (gO_i (gO_i ⟨rfl, I.find, find_30⟩))
        · refine en_X4_sits _ _ _ _ (c_stands hc.1.1 hb.1 (fun _ => gTn (c_isRow4 (fun _ _ _ => gTe (c_isWithin (fun _ _ => gTn ⟨vin_i (by omega) (by omega), ?_⟩) (fun y => absurd w y))) (fun h => absurd rfl (h r hr)))) (fun y => by omega))
          rw [ncl (by omega), Nat.zero_add]
          refine c_miss4 (fun z => absurd (w3 ▸ z) (ne_m1 (by omega))) (fun _ => gFe ?_)
          refine c_hasItems w4 w2 (fun a b ea eb hab => gTn ?_) (fun h => gFn ?_)
          · subst ea
            have eb2 : n = b := by
              have hb2 : b < 2147483648 := by omega
              exact (neq (by omega) hb2).mp eb
            subst eb2
            have okv : ∀ p, p < 8 → okT (ups T (13 + p) (T (13 + p) + 1)) := fun p hp => okT_z hN.1 hN.2.2 hp
            have v3 : ∀ p, ups T (13 + p) (T (13 + p) + 1) 3 = T 3 := fun p => ups_n (by omega)
            generalize hF : (fun p => allB (fun k => decide (M 3 r (a + k) = nI (clS (evn (ups T (13 + p) (T (13 + p) + 1)) k)))) n) = F
            have hFv : ∀ p, allB (fun k => decide (M 3 r (a + k) = nI (clS (evn (ups T (13 + p) (T (13 + p) + 1)) k)))) n = F p := fun p => by rw [← hF]
            have hF2 : ∀ i, bso F (i + 1) = bso F i + cond (F i) (2 ^ i) 0 := fun i => rfl
            have ref : ∀ M1, F1 M M1 → wpd 40 174 [zR 16 0, zI (nI r), zI (nI a), zI (nI n)] (mup M1 0 0 8 (nI 0)) (fun r' M2 => gO r' fun v' => nI (bso F (T 1)) = v' ∧ Inv M2 ∧ ∀ k, 30 ≤ k → M2 k = M k) := by
              intro M1 f1
              have hm1 : MT (mup M1 0 0 8 (nI 0)) 0 T := fun j hj => by rw [mup_r (by omega)]; exact hm.f1 f1 j hj
              have h18 : mup M1 0 0 8 (nI 0) 18 0 r = nI ln := by rw [mup_r (by omega), f1 18 0 (by omega)]; exact w6
              have h19 : ∀ k, k < n → mup M1 0 0 8 (nI 0) 19 0 (40 * r + a + k) = M 3 r (a + k) := fun k hk => by rw [mup_r (by omega), f1 19 0 (by omega), w7 (a + k) (by omega), Nat.add_assoc]
              have h17 : mup M1 0 0 8 (nI 0) 17 0 r = nI l := by rw [mup_r (by omega), f1 17 0 (by omega)]; exact w5
              have fin : ∀ M2 : Mem, Fp 2 (mup M1 0 0 8 (nI 0)) M2 → Inv (mup M2 16 0 4 (nI 0)) ∧ ∀ k, 30 ≤ k → mup M2 16 0 4 (nI 0) k = M k := fun M2 f2 => fin_qs I f1 f2
              generalize mup M1 0 0 8 (nI 0) = N1 at *
              refine en_X5_sits _ _ _ _ (c_isTown5 (hm1 1 (by omega)) hb.1 (fun _ => gTn (c_isRow5 (fun _ _ _ => gTe (c_in (fun _ _ => gTn ?_) (fun y => absurd w y))) (fun h => absurd rfl (h r hr)))) (fun y => by omega))
              refine c_miss5 hr (fun z => ?_) (fun _ => gFe ?_)
              · rw [h17] at z
                exact absurd z (ne_no (by omega))
              · refine c_isPart hr h18 w2 (fun _ _ _ _ _ => gTn ?_) (fun h => absurd hab (h a n rfl rfl))
                refine up_ind (P := fun i => ∀ M2, Fp 2 N1 M2 → WP (wpd 39) 1 T_X5_sits (fun r' M2 => gO r' fun v' => nI (bso F (T 1)) = v' ∧ Inv M2 ∧ ∀ k, 30 ≤ k → M2 k = M k) (66, [zR 16 0, zI (nI r), zI (nI a), zI (nI n), zI (nI (bso F i)), zI (nI i), zU, zU, zU], []) M2) (n := T 1) ?_ ?_ N1 Fp.rf
                · intro M2 f2
                  have hm2 := hm1.fp f2
                  refine cp_X5_sits_66 _ _ _ _ _ _ ⟨vin_i (by omega) (by omega), fun _ => en_X5_well _ _ (gO_i (gO_i ⟨rfl, fin M2 f2⟩)), fun z => ?_⟩
                  rw [hm2 1 (by omega)] at z
                  exact absurd ((nle (by omega) (by omega)).mpr (Nat.le_refl _)) z
                · intro i hi ih M2 f2
                  have hm2 := hm1.fp f2
                  refine cp_X5_sits_66 _ _ _ _ _ _ ⟨vin_i (by omega) (by omega), fun z => ?_, fun _ => ?_⟩
                  · rw [hm2 1 (by omega), nle (by omega) (by omega)] at z
                    omega
                  · refine m_try hm2 (fun M3 f3 g3 => gN_i ?_)
                    rw [nI_add 13, ncl (by omega), g3 _ (by omega), nI_add]
                    refine ⟨vin_i (by omega) (by omega), vin_i (by omega) (by omega), ?_⟩
                    have g4 : MT (mup M3 22 2 (13 + i) (nI (T (13 + i) + 1))) 2 (ups T (13 + i) (T (13 + i) + 1)) := g3.up
                    have f4 : Fp 2 N1 (mup M3 22 2 (13 + i) (nI (T (13 + i) + 1))) := fun k j y1 y2 => by rw [mup_r y1]; exact (f2.tr f3) k j y1 y2
                    generalize mup M3 22 2 (13 + i) (nI (T (13 + i) + 1)) = M4 at *
                    have hbl := bso_lt F i
                    have oki := okv i (by omega)
                    have vi3 := v3 i
                    have hFi := hFv i
                    generalize ups T (13 + i) (T (13 + i) + 1) = S at *
                    refine up_ind (P := fun k => ∀ M5, Fp 2 N1 M5 → MT M5 2 (evn S k) → WP (wpd 39) 1 T_X5_sits (fun r' M2 => gO r' fun v' => nI (bso F (T 1)) = v' ∧ Inv M2 ∧ ∀ k, 30 ≤ k → M2 k = M k) (110, [zR 16 0, zI (nI r), zI (nI a), zI (nI n), zI (nI (bso F i)), zI (nI i), zI (nI (cond (allB (fun k => decide (M 3 r (a + k) = nI (clS (evn S k)))) k) 1 0)), zI (nI k), zU], []) M5) (n := n) ?_ ?_ M4 f4 g4
                    · intro M5 f5 g5
                      rw [hFi]
                      refine cp_X5_sits_110 _ _ _ _ _ _ _ _ ⟨fun _ => ?_, fun z => absurd ((nle (by omega) (by omega)).mpr (Nat.le_refl _)) z⟩
                      have ih5 := ih M5 f5
                      rw [hF2 i] at ih5
                      cases hfi : F i
                      · rw [hfi] at ih5
                        refine ⟨fun _ => ?_, fun z => absurd rfl z⟩
                        rw [or_0, nI_add]; exact ih5
                      · rw [hfi] at ih5
                        refine ⟨fun z => absurd z c10, fun _ => ?_⟩
                        rw [or_b i (by omega) _ hbl, nI_add]; exact ih5
                    · intro k hk ihk M5 f5 g5
                      refine cp_X5_sits_110 _ _ _ _ _ _ _ _ ⟨fun z => ?_, fun _ => ?_⟩
                      · rw [nle (by omega) (by omega)] at z
                        omega
                      · refine c_passes g5 (okT_evn oki k) (by rw [evn_3]; omega) (fun M6 f6 g6 => gO_i ?_)
                        have f56 := f5.tr f6
                        have ih6 := ihk M6 f56 g6
                        rw [pk_mul, nI_add (40 * r), nI_add (40 * r + a), nI_add k, ncl (by omega), f56 19 0 (by omega) (by omega), h19 k hk]
                        cases hB : allB (fun k => decide (M 3 r (a + k) = nI (clS (evn S k)))) k
                        · rw [show allB (fun k => decide (M 3 r (a + k) = nI (clS (evn S k)))) (k + 1) = false by
                            show (allB _ k && _) = false
                            rw [hB, Bool.false_and]] at ih6
                          exact ⟨fun _ => ih6, fun z => absurd rfl z⟩
                        · refine ⟨fun z => absurd z c10, fun _ => ⟨vin_i (by omega) (by omega), fun z => ?_, fun z => ?_⟩⟩
                          · rw [allB_f (k := k) (decide_eq_false (fun e => z e.symm)) (k + 1) (by omega)] at ih6
                            exact ih6
                          · rw [allB_t hB (decide_eq_true z.symm)] at ih6
                            exact ih6
            refine up_ind (P := fun i => ∀ M2, F1 M M2 → WP (wpd 39) 1 T_X4_sits (fun r' M1 => gO r' fun v => wpd 40 174 [zR 16 0, zI (nI r), zI (nI a), zI (nI n)] M1 (fun r' M2 => gO r' fun v' => v = v' ∧ Inv M2 ∧ ∀ k, 30 ≤ k → M2 k = M k)) (77, [zR 0 0, zU, zI (nI a), zI (nI n), zR 2 r, zI (nI (bso F i)), zI (nI i)], []) M2) (n := T 1) ?_ ?_ M F1.rf
            · intro M2 f2
              have hc2 := hc.f1 f2
              refine cp_X4_sits_77 _ _ _ _ _ _ ⟨fun _ => en_X4_foundNothing _ _ (gO_i (gO_i (ref M2 f2))), fun z => ?_⟩
              rw [hc2.1.1] at z
              exact absurd ((nle (by omega) (by omega)).mpr (Nat.le_refl _)) z
            · intro i hi ih M2 f2
              have hc2 := hc.f1 f2
              refine cp_X4_sits_77 _ _ _ _ _ _ ⟨fun z => ?_, fun _ => ?_⟩
              · rw [hc2.1.1, nle (by omega) (by omega)] at z
                omega
              · refine c_foretell hc2 hb.1 hb.2 (fun M3 f3 g3 => gN_i ?_)
                have e8 : M3 8 1 i = nI (T (13 + i)) := g3.1.2.2.2.2.2.2.1 i (by omega)
                rw [ncl (by omega), e8, nI_add]
                refine ⟨vin_i (by omega) (by omega), vin_i (by omega) (by omega), ?_⟩
                have hbl := bso_lt F i
                refine c_clapsTold (it := fun k => M 3 r (a + k)) (g3.zU hb.1 (by omega)) (okv i (by omega)) (by rw [v3]; omega) (by omega) (fun k hk => by rw [mup_r (by omega), (f2.tr f3) 3 r (by omega)]) (fun M4 f4 => gO_i ?_)
                have f34 : F1 M M4 := (f2.tr f3).tr (fun k j y => by rw [f4 k j y, mup_r (by omega)])
                have ih4 := ih M4 f34
                rw [hF2 i] at ih4
                rw [hFv i]
                cases hfi : F i
                · rw [hfi] at ih4
                  refine ⟨fun _ => ?_, fun z => absurd rfl z⟩
                  rw [nI_add]; exact ih4
                · rw [hfi] at ih4
                  refine ⟨fun z => absurd z c10, fun _ => ?_⟩
                  rw [or_b i (by omega) _ hbl, nI_add]; exact ih4
          · refine en_X4_found _ _ (gO_i (gO_i ?_))
            refine en_X5_sits _ _ _ _ (c_isTown5 (by rw [mup_r (by omega)]; exact hm 1 (by omega)) hb.1 (fun _ => gTn (c_isRow5 (fun _ _ _ => gTe (c_in (fun _ _ => gTn ?_) (fun y => absurd w y))) (fun h => absurd rfl (h r hr)))) (fun y => by omega))
            refine c_miss5 hr (fun z => ?_) (fun _ => gFe ?_)
            · rw [mup_r (by omega), w5] at z
              exact absurd z (ne_no (by omega))
            · refine c_isPart hr (by rw [mup_r (by omega)]; exact w6) w2 (fun a b ea eb hab => absurd hab (h a b ea eb)) (fun _ => gFn ?_)
              exact en_X5_found _ _ (gO_i (gO_i ⟨rfl, I.find, find_30⟩))
      · refine en_X4_sits _ _ _ _ (c_stands hc.1.1 hb.1 (fun _ => gTn (c_isRow4 (fun _ _ _ => gTe (c_isWithin (fun y1 y2 => absurd ⟨y1, y2⟩ w) (fun _ => gFn (gO_i ?_)))) (fun h => absurd rfl (h r hr)))) (fun y => by omega))
        exact en_X5_sits _ _ _ _ (c_isTown5 (hm 1 (by omega)) hb.1 (fun _ => gTn (c_isRow5 (fun _ _ _ => gTe (c_in (fun y1 y2 => absurd ⟨y1, y2⟩ w) (fun _ => gFn (gO_i ⟨rfl, I, fun _ _ => rfl⟩)))) (fun h => absurd rfl (h r hr)))) (fun y => by omega))
    · refine en_X4_sits _ _ _ _ (c_stands hc.1.1 hb.1 (fun _ => gTn (c_isRow4 (fun r hr e => absurd e (hno r hr)) (fun _ => gFe (gO_i ?_)))) (fun y => by omega))
      exact en_X5_sits _ _ _ _ (c_isTown5 (hm 1 (by omega)) hb.1 (fun _ => gTn (c_isRow5 (fun r hr e => absurd e (hno r hr)) (fun _ => gFe (gO_i ⟨rfl, I, fun _ _ => rfl⟩)))) (fun y => by omega))
  · refine en_X4_sits _ _ _ _ (c_stands hc.1.1 hb.1 (fun y => absurd y t0) (fun _ => gFn (gO_i ?_)))
    exact en_X5_sits _ _ _ _ (c_isTown5 (hm 1 (by omega)) hb.1 (fun y => absurd y t0) (fun _ => gFn (gO_i ⟨rfl, I, fun _ _ => rfl⟩)))
