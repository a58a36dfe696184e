/-! fill -/
theorem nN {F : Nat} (h : F < 2147483648) : ¬ (nI F : Int32) = -1000000 := fun e => nI_pos h (by rw [e]; decide)
section Fi
variable {d : Nat} {Q : Option AV → Mem → Prop} {M : Mem} {T : Nat → Nat} {n : Nat}
theorem c_fillUp {v : Nat} (h : CT M 1 T) (h8 : T 1 ≤ 8) (hQ : ∀ M1, F1 M M1 → CT M1 1 (uO T v (T 1)) → Q none M1) : wpd (d + 1) 32 [zR 6 1, zI (nI v)] M Q := by
  refine en_X3_fillUp _ _ _ ?_
  refine up_ind (P := fun i => ∀ M1, F1 M M1 → CT M1 1 (uO T v i) → WP (wpd d) 0 T_X3_fillUp Q (2, [zR 6 1, zI (nI v), zI (nI i)], []) M1) (n := T 1) ?_ ?_ M F1.rf h
  · intro M1 f1 f2
    refine cp_X3_fillUp_2 _ _ _ _ ⟨fun _ => hQ M1 f1 f2, fun z => ?_⟩
    rw [f2.1.1, uO_o (by omega) _ h8] at z
    exact absurd ((nle (by omega) (by omega)).mpr (Nat.le_refl _)) z
  · intro i hi ih M1 f1 f2
    refine cp_X3_fillUp_2 _ _ _ _ ⟨fun z => ?_, fun _ => ⟨vin_i (by omega) (by omega), ?_⟩⟩
    · rw [f2.1.1, uO_o (by omega) _ (by omega), nle (by omega) (by omega)] at z
      omega
    · rw [ncl (by omega), nI_add]
      exact ih _ (fun k j z => by rw [mup_r (by omega)]; exact f1 k j z) (f2.oilU (by rw [uO_o (by omega) _ (by omega)]; exact h8) (by omega))
/-- what is burnt with plenty -/
def brn (T : Nat → Nat) (n p : Nat) : Nat := 1000 - evn (uO T 1000 (T 1)) n (5 + p)
def fM (T : Nat → Nat) (n : Nat) : Nat := bso (fun p => decide (T (5 + p) ≤ brn T n p)) (T 1)
theorem c_fewest (hc : CT M 0 T) (ok : okT T) (h3 : T 3 + n < 1000000) (hn : n ≤ 30) (hQ : ∀ M1, F1 M M1 → ∀ v : Int32, ((∃ p, p < T 1 ∧ 20 ≤ brn T n p) ∧ v = -1000000) ∨ ((∀ p, p < T 1 → brn T n p < 20) ∧ v = nI (fM T n)) → Q (some (zI v)) M1) : wpd (d + 6) 98 [zR 0 0, zI (nI n)] M Q := by
  have h8 := ok.2.2.1
  have okv := uO_ok ok (v := 1000) (by omega) (T 1) h8
  have e3 : uO T 1000 (T 1) 3 = T 3 := uO_o (by omega) _ h8
  refine en_X4_fewestFilled _ _ (c_foretell hc h8 ok.2.2.2.1 (fun M1 f1 g1 => gN_i (c_fillUp g1 h8 (fun M2 f2 g2 => gN_i (c_pE g2 okv (by rw [e3]; exact h3) (fun M3 f3 g3 => gN_i ?_))))))
  have f13 := (f1.tr f2).tr f3
  have hc3 := hc.f1 f13
  have okn := okT_evn okv n
  have eln := evn_l okv n
  have e1 : uO T 1000 (T 1) 1 = T 1 := uO_o (by omega) _ h8
  refine up_ind (P := fun i => i ≤ T 1 → (∀ p, p < i → brn T n p < 20) → WP (wpd (d + 5)) 1 T_X4_fewestFilled Q (26, [zR 0 0, zU, zI (nI (bso (fun p => decide (T (5 + p) ≤ brn T n p)) i)), zI (nI i), zU], []) M3) (n := T 1) ?_ ?_ (by omega) (fun p hp => absurd hp (by omega))
  · intro _ hs
    refine cp_X4_fewestFilled_26 _ _ _ ⟨fun _ => hQ M3 f13 _ (Or.inr ⟨hs, rfl⟩), fun z => ?_⟩
    rw [hc3.1.1] at z
    exact absurd ((nle (by omega) (by omega)).mpr (Nat.le_refl _)) z
  · intro i hi ih _ hs
    have o1 := okn.o i (by omega)
    have o2 := ok.o i (by omega)
    have m1 : M3 7 1 i = nI (evn (uO T 1000 (T 1)) n (5 + i)) := g3.1.2.2.2.2.2.1 i (by omega)
    have m0 : M3 7 0 i = nI (T (5 + i)) := hc3.1.2.2.2.2.2.1 i (by omega)
    have bl := bso_lt (fun p => decide (T (5 + p) ≤ brn T n p)) i
    have eb : nI 1000 - nI (evn (uO T 1000 (T 1)) n (5 + i)) = nI (brn T n i) := pk_sub (by omega)
    have bb : brn T n i ≤ 1000 := Nat.sub_le _ _
    refine cp_X4_fewestFilled_26 _ _ _ ⟨fun z => ?_, fun _ => ⟨vin_i (by omega) (by omega), ?_⟩⟩
    · rw [hc3.1.1, nle (by omega) (by omega)] at z
      omega
    · rw [ncl (by omega), m1, m0, eb, nI_add]
      refine ⟨fun z => ⟨vin_i (by omega) (by omega), fun y => ?_, fun y => ?_⟩, fun z => hQ M3 f13 _ (Or.inl ⟨⟨i, hi, ?_⟩, rfl⟩)⟩
      · rw [nlt (by omega) (by omega)] at z y
        have ih := ih (by omega) (fun p hp => by
          by_cases e : p = i
          · rw [e]; exact z
          · exact hs p (by omega))
        rw [show bso (fun p => decide (T (5 + p) ≤ brn T n p)) (i + 1) = bso (fun p => decide (T (5 + p) ≤ brn T n p)) i by
          show bso (fun p => decide (T (5 + p) ≤ brn T n p)) i + cond (decide (T (5 + i) ≤ brn T n i)) (2 ^ i) 0 = _
          rw [decide_eq_false (by omega)]; rfl] at ih
        exact ih
      · rw [nlt (by omega) (by omega)] at z y
        have ih := ih (by omega) (fun p hp => by
          by_cases e : p = i
          · rw [e]; exact z
          · exact hs p (by omega))
        rw [or_b i (by omega) _ bl]
        rw [show bso (fun p => decide (T (5 + p) ≤ brn T n p)) (i + 1) = bso (fun p => decide (T (5 + p) ≤ brn T n p)) i + 2 ^ i by
          show bso (fun p => decide (T (5 + p) ≤ brn T n p)) i + cond (decide (T (5 + i) ≤ brn T n i)) (2 ^ i) 0 = _
          rw [decide_eq_true (by omega)]; rfl] at ih
        exact ih
      · rw [nlt (by omega) (by omega)] at z
        omega
/-- a set is tried -/
def tst (T : Nat → Nat) (n m : Nat) : Nat → Nat := evn (fO T (fun p => m.testBit p) (T 1)) n
theorem tst_iff (ok : okT T) (hn : n ≤ 30) (m : Nat) : cnt (litM (tst T n m)) 8 = T 1 ↔ ∀ p, p < T 1 → brn T n p < if m.testBit p = true then 20 else T (5 + p) := by
  have h8 := ok.2.2.1
  have okf := fO_ok (b := fun p => m.testBit p) ok (T 1) h8
  have okv := uO_ok ok (v := 1000) (by omega) (T 1) h8
  have e1 : fO T (fun p => m.testBit p) (T 1) 1 = T 1 := fO_o (by omega) _ h8
  have v1 : uO T 1000 (T 1) 1 = T 1 := uO_o (by omega) _ h8
  have el : tst T n m 1 = T 1 := (evn_l okf n).2.1.trans e1
  have hA : Ao (fO T (fun p => m.testBit p) (T 1)) (uO T 1000 (T 1)) := fun j hj => by
    rw [fO_o (by omega) _ h8, uO_o (by omega) _ h8]
  have key := (fill_iff okf okv hA (fun p hp => uO_v _ (by omega)) n hn).1
  have c := cnt_lit (U := tst T n m) (by omega)
  rw [el] at c
  rw [c]
  refine key.trans ⟨fun z p hp => ?_, fun z p hp => ?_⟩
  · have := z p (by omega)
    rw [fO_v _ hp] at this
    exact this
  · rw [v1] at hp
    rw [fO_v _ hp]
    exact z p hp
theorem tst_no (ok : okT T) (hx : ∀ p, p < 8 → T (5 + p) ≤ 20) (hn : n ≤ 30) (m : Nat) (h : ∃ p, p < T 1 ∧ 20 ≤ brn T n p) : ¬ cnt (litM (tst T n m)) 8 = T 1 := by
  rw [tst_iff ok hn]
  intro z
  obtain ⟨p, hp, h2⟩ := h
  have := z p hp
  have := hx p (by have := ok.2.2.1; omega)
  split at * <;> omega
theorem tst_sb (ok : okT T) (hn : n ≤ 30) (m : Nat) (h : ∀ p, p < T 1 → brn T n p < 20) : cnt (litM (tst T n m)) 8 = T 1 ↔ sbB (fM T n) m 8 = true := by
  rw [tst_iff ok hn, sbB_iff]
  have h8 := ok.2.2.1
  constructor
  · intro z k _ hb
    unfold fM at hb
    rw [bso_tb, Bool.and_eq_true] at hb
    have h1 := of_decide_eq_true hb.1
    have h2 : T (5 + k) ≤ brn T n k := of_decide_eq_true hb.2
    have h3 := z k h1
    by_cases c : m.testBit k = true
    · exact c
    · rw [if_neg c] at h3
      omega
  · intro z p hp
    by_cases c : m.testBit p = true
    · rw [if_pos c]; exact h p hp
    · rw [if_neg c]
      refine Nat.lt_of_not_le (fun y => c (z p (by omega) ?_))
      unfold fM
      rw [bso_tb, decide_eq_true hp, decide_eq_true y]; rfl
end Fi
theorem pr_fill (p1 p2 : Int32) : PR 76 170 [zR 0 0, zI p1, zI p2] [zR 16 0, zI p1, zI p2] := by
  intro M I
  obtain ⟨T, hg, hc, hm⟩ := I.2.2.2.2.2.1
  have hb := hg.b
  by_cases t0 : 0 < T 1
  · have hN := hg.n t0
    by_cases w : nI 1 ≤ p1 ∧ p1 ≤ nI 30
    · rcases num_or p2 2 with ⟨k, hk, rfl⟩ | hno
      · obtain ⟨n, hn, rfl⟩ := nI_of2 (x := p1) (M := nI 30) (n := 30) (by decide) (fun y => Int32.not_le.mpr (Int32.lt_of_lt_of_le y (by decide)) w.1) w.2
        have h3 := hN.2.1
        have ok := hN.1
        have fl : fM T n < 2 ^ T 1 := bso_lt _ _
        have p8 : 2 ^ T 1 ≤ 2 ^ 8 := Nat.pow_le_pow_right (by omega) hb.1
        have f8 : fM T n < 256 := Nat.lt_of_lt_of_le fl p8
        have cn := cnt_n (fM T n) 8
        have ref : ∀ M1, F1 M M1 → ∀ (best : Nat → Int32) (v : Int32), best 0 = -1000000 → (∀ i, i < 2 ^ T 1 → (best i = -1000000 ∧ best (i + 1) = if cnt (litM (tst T n i)) 8 = T 1 then nI i else best i) ∨ (∃ F, F < 256 ∧ best i = nI F ∧ best (i + 1) = if cnt i 8 < cnt F 8 ∧ cnt (litM (tst T n i)) 8 = T 1 then nI i else best i)) → ((best (2 ^ T 1) = -1000000 ∧ v = -1000000) ∨ ∃ F, F < 256 ∧ best (2 ^ T 1) = nI F ∧ v = if k = 0 then nI (cnt F 8) else nI F) → wpd 40 170 [zR 16 0, zI (nI n), zI (nI k)] M1 (fun r' M2 => gO r' fun v' => v = v' ∧ Inv M2 ∧ ∀ k, 30 ≤ k → M2 k = M k) := by
          intro M1 f1 best v b0 bs hv
          have hm1 := hm.f1 f1
          refine en_X5_fill _ _ _ (c_isTown5 (hm1 1 (by omega)) hb.1 (fun _ => gTn (m_isNear (fun _ _ => gTe (c_either5 (fun _ _ _ => gTn ?_) (fun h => absurd rfl (h k hk)))) (fun y => absurd w y))) (fun y => by omega))
          rw [← b0]
          refine up_ind (P := fun i => ∀ M2, Fp 2 M1 M2 → WP (wpd 39) 1 T_X5_fill (fun r' M2 => gO r' fun v' => v = v' ∧ Inv M2 ∧ ∀ k, 30 ≤ k → M2 k = M k) (35, [zR 16 0, zI (nI n), zI (nI k), zI (best i), zI (nI i), zU, zU], []) M2) (n := 2 ^ T 1) ?_ ?_ M1 Fp.rf
          · intro M2 f2
            have hm2 := hm1.fp f2
            refine cp_X5_fill_35 _ _ _ _ _ ⟨vin_i (by omega) (by omega), ?_⟩
            rw [hm2 1 (by omega), sh_1 _ (by omega)]
            refine ⟨fun _ => ⟨fun z => ?_, fun z => ⟨fun y => ?_, fun y => ?_⟩⟩, fun z => absurd ((nle (by omega) (by omega)).mpr (Nat.le_refl _)) z⟩
            · rcases hv with ⟨e1, e2⟩ | ⟨F, hF, e1, e2⟩
              · exact gO_i ⟨by rw [e1]; exact e2, fin_q I f1 f2⟩
              · rw [e1] at z
                exact absurd z (nN (by omega))
            · rcases hv with ⟨e1, e2⟩ | ⟨F, hF, e1, e2⟩
              · exact absurd e1 z
              · rw [e1]
                refine c_ones hF (gO_i (gO_i ⟨?_, fin_q I f1 f2⟩))
                rw [e2, if_pos (by
                  rcases (by omega : k = 0 ∨ k = 1) with e | e
                  · exact e
                  · exact absurd (by rw [e]) y)]
            · rcases hv with ⟨e1, e2⟩ | ⟨F, hF, e1, e2⟩
              · exact absurd e1 z
              · rw [neq (by omega) (by omega)] at y
                refine gO_i ⟨?_, fin_q I f1 f2⟩
                rw [e1, e2, if_neg (by omega)]
          · intro i hi ih M2 f2
            have hm2 := hm1.fp f2
            have try1 : ∀ M3, Fp 2 M1 M3 → best (i + 1) = (if cnt (litM (tst T n i)) 8 = T 1 then nI i else best i) → wpd 39 115 [zR 22 0, zI (nI 0), zR 22 2, zI (nI 0)] M3 (fun r5 M5 => gN r5 (WP (wpd 39) 1 T_X5_fill (fun r' M2 => gO r' fun v' => v = v' ∧ Inv M2 ∧ ∀ k, 30 ≤ k → M2 k = M k) (94, [zR 16 0, zI (nI n), zI (nI k), zI (best i), zI (nI i), zU, zI (nI 0)], []) M5)) := by
              intro M3 f3 hbe
              refine m_try (hm1.fp f3) (fun M4 f4 g4 => gN_i ?_)
              refine up_ind (P := fun j => ∀ M5, Fp 2 M1 M5 → MT M5 2 (fO T (fun p => i.testBit p) j) → WP (wpd 39) 1 T_X5_fill (fun r' M2 => gO r' fun v' => v = v' ∧ Inv M2 ∧ ∀ k, 30 ≤ k → M2 k = M k) (94, [zR 16 0, zI (nI n), zI (nI k), zI (best i), zI (nI i), zU, zI (nI j)], []) M5) (n := T 1) ?_ ?_ M4 (f3.tr f4) g4
              · intro M5 f5 g5
                have hm5 := hm1.fp f5
                have okf := fO_ok (b := fun p => i.testBit p) ok (T 1) hb.1
                have okn : okT (tst T n i) := okT_evn okf n
                have el : tst T n i 1 = T 1 := (evn_l okf n).2.1.trans (fO_o (by omega) _ hb.1)
                have ll := litM_lt (T := tst T n i)
                rw [el] at ll
                refine cp_X5_fill_94 _ _ _ _ _ _ ⟨vin_i (by omega) (by omega), fun _ => ?_, fun z => ?_⟩
                · refine m_goesOn g5 okf (by rw [fO_o (by omega) _ hb.1]; omega) (fun M6 f6 g6 => gN_i ?_)
                  refine c_litOf (T := tst T n i) g6 (by omega) (fun p hp => by have := okn.o p (by omega); omega) (gO_i (c_ones (by omega) (gO_i ?_)))
                  have cl := cnt_n (litM (tst T n i)) 8
                  have hm6 := hm5.fp f6
                  rw [hm6 1 (by omega), nI_add]
                  refine ⟨vin_i (by omega) (by omega), fun y => ?_, fun y => ?_⟩
                  · rw [if_neg (fun e => y (by rw [e]))] at hbe
                    have := ih M6 (f5.tr f6)
                    rw [hbe] at this
                    exact this
                  · rw [neq (by omega) (by omega)] at y
                    rw [if_pos y] at hbe
                    have := ih M6 (f5.tr f6)
                    rw [hbe] at this
                    exact this
                · rw [hm5 1 (by omega)] at z
                  exact absurd ((nle (by omega) (by omega)).mpr (Nat.le_refl _)) z
              · intro j hj jh M5 f5 g5
                have hm5 := hm1.fp f5
                refine cp_X5_fill_94 _ _ _ _ _ _ ⟨vin_i (by omega) (by omega), fun z => ?_, fun _ => ?_⟩
                · rw [hm5 1 (by omega), nle (by omega) (by omega)] at z
                  omega
                · rw [nI_add 5, nI_add, ncl (by omega)]
                  refine c_has (tb_has (m := i) (k := j) (by omega) (by omega)) (fun y => gTe ⟨vin_i (by omega) (by omega), ?_⟩) (fun y => gFe ⟨vin_i (by omega) (by omega), vin_i (by omega) (by omega), ?_⟩)
                  · refine jh _ (fun k j y1 y2 => by rw [mup_r y1]; exact f5 k j y1 y2) ?_
                    have e : fO T (fun p => i.testBit p) (j + 1) = ups (fO T (fun p => i.testBit p) j) (5 + j) 20 := by
                      conv => lhs; unfold fO
                      rw [if_pos y]
                    rw [e]; exact g5.up
                  · refine jh _ (fun k j y1 y2 => by rw [mup_r y1]; exact f5 k j y1 y2) ?_
                    have e : fO T (fun p => i.testBit p) (j + 1) = ups (fO T (fun p => i.testBit p) j) (5 + j) (T (5 + j)) := by
                      conv => lhs; unfold fO
                      rw [if_neg (by rw [y]; decide), ups_id]
                      exact fO_s j (Nat.le_refl _)
                    rw [hm5 _ (by omega), e]; exact g5.up
            have skip : ∀ M3, Fp 2 M1 M3 → best (i + 1) = best i → WP (wpd 39) 1 T_X5_fill (fun r' M2 => gO r' fun v' => v = v' ∧ Inv M2 ∧ ∀ k, 30 ≤ k → M2 k = M k) (35, [zR 16 0, zI (nI n), zI (nI k), zI (best i), zI (nI i + nI 1), zU, zU], []) M3 := by
              intro M3 f3 hbe
              have := ih M3 f3
              rw [hbe] at this
              rw [nI_add]
              exact this
            refine cp_X5_fill_35 _ _ _ _ _ ⟨vin_i (by omega) (by omega), ?_⟩
            rw [hm2 1 (by omega), sh_1 _ (by omega)]
            refine ⟨fun z => ?_, fun _ => ⟨fun z => ⟨fun y => absurd y c10, fun _ => ?_⟩, fun z => ?_⟩⟩
            · rw [nle (by omega) (by omega)] at z
              omega
            · rcases bs i hi with ⟨e1, e2⟩ | ⟨F, hF, e1, e2⟩
              · exact try1 M2 f2 e2
              · rw [e1] at z
                exact absurd z (nN (by omega))
            · rcases bs i hi with ⟨e1, e2⟩ | ⟨F, hF, e1, e2⟩
              · exact absurd e1 z
              · have c1 := cnt_n i 8
                have c2 := cnt_n F 8
                have ho : wpd 39 111 [zI (best i)] M2 = wpd 39 111 [zI (nI F)] M2 := by rw [e1]
                refine c_ones (by omega) (gO_i ?_)
                show wpd 39 111 [zI (best i)] M2 _
                rw [ho]
                refine c_ones hF (gO_i ⟨fun y => ⟨fun _ => ?_, fun y => absurd rfl y⟩, fun y => ⟨fun y => absurd y c10, fun _ => ?_⟩⟩)
                · rw [nle (by omega) (by omega)] at y
                  exact skip M2 f2 (by rw [e2, if_neg (by omega)])
                · rw [nle (by omega) (by omega)] at y
                  refine try1 M2 f2 ?_
                  rw [e2]
                  by_cases c : cnt (litM (tst T n i)) 8 = T 1
                  · rw [if_pos ⟨by omega, c⟩, if_pos c]
                  · rw [if_neg (fun u => c u.2), if_neg c]
        refine en_X4_fill _ _ _ (c_stands hc.1.1 hb.1 (fun _ => gTn (c_isWithin (fun _ _ => gTe (c_isEither (fun _ _ _ => gTn ?_) (fun h => absurd rfl (h k hk)))) (fun y => absurd w y))) (fun y => by omega))
        refine c_fewest hc ok (by omega) hn (fun M1 f1 v hv => gO_i ?_)
        rcases hv with ⟨hn20, rfl⟩ | ⟨hs, rfl⟩
        · refine ⟨fun y => absurd rfl y, fun _ => gO_i ?_⟩
          refine ref M1 f1 (fun _ => -1000000) _ rfl (fun i hi => Or.inl ⟨rfl, ?_⟩) (Or.inl ⟨rfl, rfl⟩)
          rw [if_neg (tst_no ok hN.2.2.1 hn i hn20)]
        · have best : ∀ v : Int32, (v = if k = 0 then nI (cnt (fM T n) 8) else nI (fM T n)) → wpd 40 170 [zR 16 0, zI (nI n), zI (nI k)] M1 (fun r' M2 => gO r' fun v' => v = v' ∧ Inv M2 ∧ ∀ k, 30 ≤ k → M2 k = M k) := by
            intro v hv
            refine ref M1 f1 (fun i => if i ≤ fM T n then -1000000 else nI (fM T n)) v (if_pos (Nat.zero_le _)) (fun i hi => ?_) (Or.inr ⟨fM T n, f8, if_neg (by omega), hv⟩)
            have ts := tst_sb ok hn i hs
            rcases Nat.lt_trichotomy i (fM T n) with c | c | c
            · refine Or.inl ⟨if_pos (by omega), ?_⟩
              have nt : ¬ cnt (litM (tst T n i)) 8 = T 1 := fun z => by
                have := sb_le f8 (ts.mp z)
                omega
              rw [if_neg nt]
              show (if i + 1 ≤ fM T n then (-1000000 : Int32) else nI (fM T n)) = if i ≤ fM T n then (-1000000 : Int32) else nI (fM T n)
              rw [if_pos (by omega), if_pos (by omega)]
            · subst c
              refine Or.inl ⟨if_pos (Nat.le_refl _), ?_⟩
              rw [if_pos (ts.mpr ((sbB_iff 8).mpr (fun k _ h => h))), if_neg (by omega)]
            · refine Or.inr ⟨fM T n, f8, if_neg (by omega), ?_⟩
              have nt : ¬ (cnt i 8 < cnt (fM T n) 8 ∧ cnt (litM (tst T n i)) 8 = T 1) := fun z => by
                have := cnt_le 8 (ts.mp z.2)
                omega
              rw [if_neg nt]
              show (if i + 1 ≤ fM T n then (-1000000 : Int32) else nI (fM T n)) = if i ≤ fM T n then (-1000000 : Int32) else nI (fM T n)
              rw [if_neg (by omega), if_neg (by omega)]
          refine ⟨fun _ => ⟨fun y => gO_i (best _ ?_), fun y => c_bits f8 (gO_i (gO_i (best _ ?_)))⟩, fun y => absurd y (nN (by omega))⟩
          · rw [if_neg (fun e => y (by rw [e]))]
          · rw [neq (by omega) (by omega)] at y
            rw [if_pos y, cnt_pc]
      · refine en_X4_fill _ _ _ (c_stands hc.1.1 hb.1 (fun _ => gTn (c_isWithin (fun _ _ => gTe (c_isEither (fun k hk e => absurd e (hno k hk)) (fun _ => gFn (gO_i ?_)))) (fun y => absurd w y))) (fun y => by omega))
        exact en_X5_fill _ _ _ (c_isTown5 (hm 1 (by omega)) hb.1 (fun _ => gTn (m_isNear (fun _ _ => gTe (c_either5 (fun k hk e => absurd e (hno k hk)) (fun _ => gFn (gO_i ⟨rfl, I, fun _ _ => rfl⟩)))) (fun y => absurd w y))) (fun y => by omega))
    · refine en_X4_fill _ _ _ (c_stands hc.1.1 hb.1 (fun _ => gTn (c_isWithin (fun y1 y2 => absurd ⟨y1, y2⟩ w) (fun _ => gFe (gO_i ?_)))) (fun y => by omega))
      exact en_X5_fill _ _ _ (c_isTown5 (hm 1 (by omega)) hb.1 (fun _ => gTn (m_isNear (fun y1 y2 => absurd ⟨y1, y2⟩ w) (fun _ => gFe (gO_i ⟨rfl, I, fun _ _ => rfl⟩)))) (fun y => by omega))
  · refine en_X4_fill _ _ _ (c_stands hc.1.1 hb.1 (fun y => absurd y t0) (fun _ => gFn (gO_i ?_)))
    exact en_X5_fill _ _ _ (c_isTown5 (hm 1 (by omega)) hb.1 (fun y => absurd y t0) (fun _ => gFn (gO_i ⟨rfl, I, fun _ _ => rfl⟩)))
