/-! wind -/
section Wi
variable {d : Nat} {Q : Option AV → Mem → Prop} {M : Mem} {T : Nat → Nat} {q n c l : Nat}
theorem c_has1 {x : Int32} {k : Nat} (h : hasB x k true) (h1 : Q (some (zI (nI 1))) M) : wpd (d + 1) 110 [zI x, zI (nI k)] M Q := c_has h (fun _ => h1) (fun z => by cases z)
theorem c_has0 {x : Int32} {k : Nat} (h : hasB x k false) (h0 : Q (some (zI (nI 0))) M) : wpd (d + 1) 110 [zI x, zI (nI k)] M Q := c_has h (fun z => by cases z) (fun _ => h0)
theorem c_byWind (hc : CT M 0 T) (ok : okT T) (h3 : T 3 + n < 1000000) (hq : q < T 2) (hcc : c ≤ 10) (hl : l < 256) (hQ : ∀ M1, F1 M M1 → Q (some (zI (nI (sumN (wF T n q c l) 256)))) M1) : wpd (d + 6) 103 [zR 0 0, zI (nI q), zI (nI n), zI (nI c), zI (nI l)] M Q := by
  refine en_X4_crossedByWind _ _ _ _ _ (c_bits hl (gO_i ?_))
  rw [← cnt_pc]
  refine up_ind (P := fun i => ∀ M1, F1 M M1 → WP (wpd (d + 5)) 1 T_X4_crossedByWind Q (13, [zR 0 0, zI (nI q), zI (nI n), zI (nI c), zI (nI l), zI (nI (cnt l 8)), zI (nI (sumN (wF T n q c l) i)), zI (nI i), zU, zU], []) M1) (n := 256) ?_ ?_ M F1.rf
  · intro M1 f1
    exact cp_X4_crossedByWind_13 _ _ _ _ _ _ _ _ ⟨fun _ => hQ M1 f1, fun z => absurd ((nle (by omega) (by omega)).mpr (Nat.le_refl _)) z⟩
  · intro i hi ih M1 f1
    have es : sumN (wF T n q c l) (i + 1) = sumN (wF T n q c l) i + wF T n q c l i := rfl
    refine cp_X4_crossedByWind_13 _ _ _ _ _ _ _ _ ⟨fun z => ?_, fun _ => ⟨fun z => ?_, fun z => ?_⟩⟩
    · rw [nle (by omega) (by omega)] at z
      omega
    · have hs := (land_sb hi).mp ((and_nl i hi l hl).mp z)
      have hle := cnt_le 8 hs
      have wl := wgt_le (c := c) (m := i) (l := l) hcc 8
      have cl := cnt_n l 8
      have hF : wF T n q c l i = wgt c i l 8 * chi T n q i := by unfold wF; rw [if_pos hs]
      have ch := chi_le ok (n := n) (m := i) hq
      refine c_bits hi (gO_i ?_)
      rw [← cnt_pc, pk_sub hle, pk_sub hcc]
      refine c_power (by omega) (by omega) (gO_i (c_power (by omega) (by omega) (gO_i ?_)))
      rw [pk_mul, ← wgt_pw 8 hs]
      refine ⟨fun y => ?_, fun y => ?_⟩
      · refine c_foretell (hc.f1 f1) ok.2.2.1 ok.2.2.2.1 (fun M3 f3 g3 => gN_i ?_)
        refine c_putOut (b := fun p => i.testBit p) g3 ok.2.2.1 (fun k hk => tb_has hi (by have := ok.2.2.1; omega)) (fun M4 f4 g4 => gN_i ?_)
        refine c_letsCross (T := blw T i) g4 (blw_ok ok i) (by rw [blw_o ok (by omega)]; exact h3) (by rw [blw_o ok (by omega)]; exact hq) (fun M5 f5 => gO_i ?_)
        have f15 := ((f1.tr f3).tr f4).tr f5
        refine ⟨fun y2 => ?_, fun y2 => ?_⟩
        · have y2 : nI (chi T n q i) = nI 0 := y2
          rw [neq (by omega) (by omega)] at y2
          rw [y2, Nat.mul_zero] at hF
          rw [es, hF, Nat.add_zero] at ih
          rw [nI_add]
          exact ih M5 f15
        · have y2 : ¬ nI (chi T n q i) = nI 0 := y2
          rw [neq (by omega) (by omega)] at y2
          rw [show chi T n q i = 1 by omega, Nat.mul_one] at hF
          rw [es, hF] at ih
          rw [nI_add, nI_add]
          exact ih M5 f15
      · rw [neq (by omega) (by omega)] at y
        rw [y, Nat.zero_mul] at hF
        rw [es, hF, Nat.add_zero] at ih
        rw [nI_add]
        exact ih M1 f1
    · have hs : ¬ sbB i l 8 = true := fun h => z ((and_nl i hi l hl).mpr ((land_sb hi).mpr h))
      have hF : wF T n q c l i = 0 := by unfold wF; rw [if_neg hs]
      rw [es, hF, Nat.add_zero] at ih
      rw [nI_add]
      exact ih M1 f1
theorem m_gcd {k a b : Nat} (ha : a ≤ 100000000) (hb : b ≤ 100000000) (h0 : 0 < b) (hQ : Q (some (zI (if k = 0 then nI (a / Nat.gcd a b) else nI (b / Nat.gcd a b)))) M) (hk : k < 2) : ∀ (y x : Nat), Nat.gcd x y = Nat.gcd a b → x < 2147483648 → y < 2147483648 → WP (wpd d) 1 T_X5_wind Q (254, [zU, zU, zU, zU, zI (nI k), zU, zI (nI a), zI (nI b), zI (nI x), zI (nI y), zU], []) M := by
  have gp := Nat.gcd_pos_of_pos_right a h0
  intro y
  induction y using Nat.strongRecOn with
  | ind y ih =>
    intro x e hx hy
    refine cp_X5_wind_254 _ _ _ _ _ _ ⟨fun z => ?_, fun z => ?_⟩
    · rw [neq (by omega) (by omega)] at z
      subst z
      rw [Nat.gcd_zero_right] at e
      have nz : ¬ (nI x : Int32) = 0 := fun z => by
        have z : nI x = nI 0 := z
        rw [neq (by omega) (by omega)] at z
        omega
      rw [pk_div (by omega) (by omega) (by omega), pk_div (by omega) (by omega) (by omega), e]
      refine ⟨fun w => ⟨by rw [← e]; exact nz, ?_⟩, fun w => ⟨by rw [← e]; exact nz, ?_⟩⟩
      · rw [if_neg (fun k0 => w (by rw [k0]))] at hQ
        exact hQ
      · rw [neq (by omega) (by omega)] at w
        rw [if_pos w] at hQ
        exact hQ
    · have z2 : y ≠ 0 := fun e => z (by rw [e])
      have hm := Nat.mod_lt x (show 0 < y by omega)
      refine ⟨z, ?_⟩
      rw [pk_rem (by omega) (by omega) (by omega)]
      exact ih (x % y) hm y (by rw [← gcd_step]; exact e) hy (by omega)
end Wi
theorem litM_lt {T : Nat → Nat} : litM T < 2 ^ T 1 := bso_lt _ _
theorem pr_wind (p1 p2 p3 p4 : Int32) : PR 80 175 [zR 0 0, zI p1, zI p2, zI p3, zI p4] [zR 16 0, zI p1, zI p2, zI p3, zI p4] := by
  intro M I
  obtain ⟨T, hg, hc, hm⟩ := I.2.2.2.2.2.1
  have hb := hg.b
  by_cases bad : (∃ k, k < T 2 ∧ p1 = nI k) ∧ (nI 0 ≤ p2 ∧ p2 ≤ nI 30) ∧ (nI 0 ≤ p3 ∧ p3 ≤ nI 10) ∧ (∃ k, k < 2 ∧ p4 = nI k)
  · obtain ⟨⟨q, hq, rfl⟩, w, w2, ⟨k, hk, rfl⟩⟩ := bad
    obtain ⟨n, hn, rfl⟩ := nI_of2 (x := p2) (M := nI 30) (n := 30) (by decide) (Int32.not_lt.mpr w.1) w.2
    obtain ⟨c, hcc, rfl⟩ := nI_of2 (x := p3) (M := nI 10) (n := 10) (by decide) (Int32.not_lt.mpr w2.1) w2.2
    have hN := hg.p hq
    have ok := hN.1
    have h3 := hN.2.1
    have hP := ok.2.2.1
    have lP := litM_lt (T := T)
    have l8 : litM T < 256 := Nat.lt_of_lt_of_le lP (show 2 ^ T 1 ≤ 2 ^ 8 from Nat.pow_le_pow_right (by omega) hP)
    have olt : ∀ p, p < T 1 → T (5 + p) < 2147483648 := fun p hp => by have := ok.o p (by omega); omega
    have AB : ∀ l, sumN (wF T n q c l) 256 ≤ 100000000 := fun l => Nat.le_trans (wF_le ok hq hcc) t8
    have B0 : ∀ l, 0 < 10 ^ cnt l 8 := fun l => Nat.pow_pos (by omega)
    have ref : ∀ M1, F1 M M1 → ∀ v : Int32, (v = if k = 0 then nI (sumN (wF T n q c (litM T)) 256 / Nat.gcd (sumN (wF T n q c (litM T)) 256) (10 ^ cnt (litM T) 8)) else nI (10 ^ cnt (litM T) 8 / Nat.gcd (sumN (wF T n q c (litM T)) 256) (10 ^ cnt (litM T) 8))) → wpd 40 175 [zR 16 0, zI (nI q), zI (nI n), zI (nI c), zI (nI k)] M1 (fun r' M2 => gO r' fun v' => v = v' ∧ Inv M2 ∧ ∀ k, 30 ≤ k → M2 k = M k) := by
      intro M1 f1 v hv
      have hm1 := hm.f1 f1
      refine en_X5_wind _ _ _ _ _ (c_isPlayer5 (hm1 2 (by omega)) hb.2 (fun _ _ _ => gTe (c_in (fun _ _ => gTe (c_in (fun _ _ => gTe (c_either5 (fun _ _ _ => gTn ?_) (fun h => absurd rfl (h k hk)))) (fun y => absurd w2 y))) (fun y => absurd w y))) (fun h => absurd rfl (h q hq)))
      refine c_litOf hm1 hP olt (gO_i ?_)
      generalize hl : litM T = l at lP l8 hv
      have cn := cnt_n l 8
      have ab := AB l
      have b0 := B0 l
      have b8 := t8 (l := l)
      refine up_ind (P := fun i => WP (wpd 39) 1 T_X5_wind (fun r' M2 => gO r' fun v' => v = v' ∧ Inv M2 ∧ ∀ k, 30 ≤ k → M2 k = M k) (59, [zR 16 0, zI (nI q), zI (nI n), zI (nI c), zI (nI k), zI (nI l), zI (nI 0), zI (nI (10 ^ i)), zI (nI i), zU, zU], []) M1) (n := cnt l 8) ?_ ?_
      · refine cp_X5_wind_59 _ _ _ _ _ _ _ _ _ (c_ones l8 (gO_i ⟨fun _ => ?_, fun z => absurd ((nle (by omega) (by omega)).mpr (Nat.le_refl _)) z⟩))
        refine up_ind (P := fun i => ∀ M2, Fp 2 M1 M2 → WP (wpd 39) 1 T_X5_wind (fun r' M2 => gO r' fun v' => v = v' ∧ Inv M2 ∧ ∀ k, 30 ≤ k → M2 k = M k) (85, [zR 16 0, zI (nI q), zI (nI n), zI (nI c), zI (nI k), zI (nI l), zI (nI (sumN (wF T n q c l) i)), zI (nI (10 ^ cnt l 8)), zI (nI i), zU, zU], []) M2) (n := l + 1) ?_ ?_ M1 Fp.rf
        · intro M2 f2
          refine cp_X5_wind_85 _ _ _ _ _ _ _ _ _ ⟨fun _ => ?_, fun z => absurd ((nlt (by omega) (by omega)).mpr (by omega)) z⟩
          rw [wF_end l8]
          exact m_gcd ab b8 b0 (gO_i ⟨hv, fin_q I f1 f2⟩) hk _ _ rfl (by omega) (by omega)
        · intro i hi ih M2 f2
          have hm2 := hm1.fp f2
          have es : sumN (wF T n q c l) (i + 1) = sumN (wF T n q c l) i + wF T n q c l i := rfl
          refine cp_X5_wind_85 _ _ _ _ _ _ _ _ _ ⟨fun z => ?_, fun _ => ⟨fun z => ?_, fun z => ?_⟩⟩
          · rw [nlt (by omega) (by omega)] at z
            omega
          · have hs : ¬ sbB i l 8 = true := fun h => z ((and_nl i (by omega) l l8).mpr ((land_sb (by omega)).mpr h))
            have hF : wF T n q c l i = 0 := by unfold wF; rw [if_neg hs]
            rw [es, hF, Nat.add_zero] at ih
            rw [nI_add]
            exact ih M2 f2
          · have hs := (land_sb (by omega)).mp ((and_nl i (by omega) l l8).mp z)
            have hF : wF T n q c l i = wgt c i l 8 * chi T n q i := by unfold wF; rw [if_pos hs]
            have ch := chi_le ok (n := n) (m := i) hq
            refine m_try hm2 (fun M3 f3 g3 => gN_i ?_)
            refine up_ind (P := fun j => ∀ M4, j ≤ T 1 → Fp 2 M1 M4 → MT M4 2 (pO T (fun p => i.testBit p) j) → WP (wpd 39) 1 T_X5_wind (fun r' M2 => gO r' fun v' => v = v' ∧ Inv M2 ∧ ∀ k, 30 ≤ k → M2 k = M k) (121, [zR 16 0, zI (nI q), zI (nI n), zI (nI c), zI (nI k), zI (nI l), zI (nI (sumN (wF T n q c l) i)), zI (nI (10 ^ cnt l 8)), zI (nI i), zI (nI (wgt c i l j)), zI (nI j)], []) M4) (n := T 1) ?_ ?_ M3 (by omega) (f2.tr f3) g3
            · intro M4 _ f4 g4
              have hm4 := hm1.fp f4
              refine cp_X5_wind_121 _ _ _ _ _ _ _ _ _ _ _ ⟨vin_i (by omega) (by omega), fun _ => ?_, fun z => ?_⟩
              · refine m_goesOn (T := blw T i) g4 (blw_ok ok i) (by rw [blw_o ok (by omega)]; omega) (fun M5 f5 g5 => gN_i ?_)
                have f45 := f4.tr f5
                rw [pk_mul, nI_add 21, nI_add (21 + 4 * q), show 21 + 4 * q + 3 = 24 + 4 * q by omega, ncl (by omega), g5 _ (by omega)]
                refine ⟨vin_i (by omega) (by omega), fun y => ?_, fun y => ?_⟩
                · have y : ¬ nI (chi T n q i) = nI 1 := y
                  rw [neq (by omega) (by omega)] at y
                  rw [show chi T n q i = 0 by omega, Nat.mul_zero] at hF
                  rw [es, hF] at ih
                  rw [nI_add, nI_add]
                  exact ih M5 f45
                · have y : nI (chi T n q i) = nI 1 := y
                  rw [neq (by omega) (by omega)] at y
                  rw [y, Nat.mul_one, wgt_hi lP 8 hP] at hF
                  rw [es, hF] at ih
                  rw [nI_add, nI_add]
                  exact ih M5 f45
              · rw [hm4 1 (by omega)] at z
                exact absurd ((nle (by omega) (by omega)).mpr (Nat.le_refl _)) z
            · intro j hj jh M4 _ f4 g4
              have hm4 := hm1.fp f4
              have hl1 := tb_has (m := l) (k := j) l8 (by omega)
              have hi1 := tb_has (m := i) (k := j) (by omega) (by omega)
              have ws := wgt_s c i l j
              have e0 : i.testBit j = true → pO T (fun p => i.testBit p) (j + 1) = ups (pO T (fun p => i.testBit p) j) (5 + j) 0 := fun y => by
                conv => lhs; unfold pO
                rw [if_pos y]
              have e1 : i.testBit j = false → pO T (fun p => i.testBit p) (j + 1) = ups (pO T (fun p => i.testBit p) j) (5 + j) (T (5 + j)) := fun y => by
                conv => lhs; unfold pO
                rw [if_neg (by rw [y]; decide), ups_id]
                rw [pO_v, if_neg (by omega)]
              have fu : ∀ x, Fp 2 M1 (mup M4 22 2 (5 + j) x) := fun x k j y1 y2 => by rw [mup_r y1]; exact f4 k j y1 y2
              refine cp_X5_wind_121 _ _ _ _ _ _ _ _ _ _ _ ⟨vin_i (by omega) (by omega), fun z => ?_, fun _ => ?_⟩
              · rw [hm4 1 (by omega), nle (by omega) (by omega)] at z
                omega
              · rw [nI_add 5, nI_add, ncl (by omega), pk_sub hcc, pk_mul, pk_mul, pk_mul]
                cases hlb : l.testBit j with
                | true =>
                  rw [hlb] at hl1 ws
                  refine c_has1 hl1 (gTn ?_)
                  cases hib : i.testBit j with
                  | true =>
                    rw [hib] at hi1 ws
                    refine c_has1 hi1 (gTe (c_has1 hi1 (gTe ⟨vin_i (by omega) (by omega), ?_⟩)))
                    have ws : wgt c i l (j + 1) = wgt c i l j * c := ws
                    rw [← ws]
                    refine jh _ (by omega) (fu _) ?_
                    rw [e0 hib]; exact g4.up
                  | false =>
                    rw [hib] at hi1 ws
                    refine c_has0 hi1 (gFe (c_has0 hi1 (gFe ⟨vin_i (by omega) (by omega), vin_i (by omega) (by omega), ?_⟩)))
                    have ws : wgt c i l (j + 1) = wgt c i l j * (10 - c) := ws
                    rw [← ws, hm4 _ (by omega)]
                    refine jh _ (by omega) (fu _) ?_
                    rw [e1 hib]; exact g4.up
                | false =>
                  rw [hlb] at hl1 ws
                  have ws : wgt c i l (j + 1) = wgt c i l j * 1 := ws
                  refine c_has0 hl1 (gFn ?_)
                  cases hib : i.testBit j with
                  | true =>
                    rw [hib] at hi1
                    refine c_has1 hi1 (gTe ⟨vin_i (by omega) (by omega), ?_⟩)
                    rw [← ws]
                    refine jh _ (by omega) (fu _) ?_
                    rw [e0 hib]; exact g4.up
                  | false =>
                    rw [hib] at hi1
                    refine c_has0 hi1 (gFe ⟨vin_i (by omega) (by omega), vin_i (by omega) (by omega), ?_⟩)
                    rw [← ws, hm4 _ (by omega)]
                    refine jh _ (by omega) (fu _) ?_
                    rw [e1 hib]; exact g4.up
      · intro i hi ih
        refine cp_X5_wind_59 _ _ _ _ _ _ _ _ _ (c_ones l8 (gO_i ⟨fun z => ?_, fun _ => ?_⟩))
        · rw [nle (by omega) (by omega)] at z
          omega
        · rw [pk_mul, nI_add, ← Nat.pow_succ]
          exact ih
    have go : ∀ l', l' < 256 → (∀ A B g : Nat, A = sumN (wF T n q c l') 256 → B = 10 ^ cnt l' 8 → g = Nat.gcd A B → A / g = sumN (wF T n q c (litM T)) 256 / Nat.gcd (sumN (wF T n q c (litM T)) 256) (10 ^ cnt (litM T) 8) ∧ B / g = 10 ^ cnt (litM T) 8 / Nat.gcd (sumN (wF T n q c (litM T)) 256) (10 ^ cnt (litM T) 8)) → wpd 39 192 [zI (nI l')] M (fun r6 M6 => gO r6 fun v6 => wpd 39 104 [zI (nI 10), zI v6] M6 (fun r7 M7 => gO r7 fun v7 => wpd 39 103 [zR 0 0, zI (nI q), zI (nI n), zI (nI c), zI (nI l')] M7 (fun r8 M8 => gO r8 fun v8 => wpd 39 105 [zI v8, zI v7] M8 (fun r9 M9 => gO r9 fun v9 => ((¬ (nI k : Int32) = nI 0 → (¬ (v9 : Int32) = 0 ∧ gO (some (zI (v7 / v9))) fun v => wpd 40 175 [zR 16 0, zI (nI q), zI (nI n), zI (nI c), zI (nI k)] M9 (fun r' M2 => gO r' fun v' => v = v' ∧ Inv M2 ∧ ∀ k, 30 ≤ k → M2 k = M k))) ∧ ((nI k : Int32) = nI 0 → (¬ (v9 : Int32) = 0 ∧ gO (some (zI (v8 / v9))) fun v => wpd 40 175 [zR 16 0, zI (nI q), zI (nI n), zI (nI c), zI (nI k)] M9 (fun r' M2 => gO r' fun v' => v = v' ∧ Inv M2 ∧ ∀ k, 30 ≤ k → M2 k = M k)))))))) := by
      intro l' hl' heq
      have cn := cnt_n l' 8
      have ab := AB l'
      have b0 := B0 l'
      have b8 := t8 (l := l')
      refine c_bits hl' (gO_i ?_)
      rw [← cnt_pc]
      refine c_power (by omega) (by omega) (gO_i ?_)
      refine c_byWind hc ok (by omega) hq hcc hl' (fun M1 f1 => gO_i (c_gcd ab b8 b0 (gO_i ?_)))
      have gp := Nat.gcd_pos_of_pos_right (sumN (wF T n q c l') 256) b0
      have gl := Nat.gcd_le_right (m := sumN (wF T n q c l') 256) (n := 10 ^ cnt l' 8) b0
      obtain ⟨q1, q2⟩ := heq _ _ _ rfl rfl rfl
      have nz : ¬ (nI (Nat.gcd (sumN (wF T n q c l') 256) (10 ^ cnt l' 8)) : Int32) = 0 := fun z => by
        have z : nI (Nat.gcd (sumN (wF T n q c l') 256) (10 ^ cnt l' 8)) = nI 0 := z
        rw [neq (by omega) (by omega)] at z
        omega
      rw [pk_div (by omega) (by omega) (by omega), pk_div (by omega) (by omega) (by omega)]
      refine ⟨fun z => ⟨nz, gO_i (ref M1 f1 _ ?_)⟩, fun z => ⟨nz, gO_i (ref M1 f1 _ ?_)⟩⟩
      · rw [if_neg (fun e => z (by rw [e])), q2]
      · rw [neq (by omega) (by omega)] at z
        rw [if_pos z, q1]
    refine en_X4_wind _ _ _ _ _ (c_hasPlayer hc.1.2.1 hb.2 (fun _ _ _ => gTe (c_isWithin (fun _ _ => gTe (c_isWithin (fun _ _ => gTe (c_isEither (fun _ _ _ => gTn ?_) (fun h => absurd rfl (h k hk)))) (fun y => absurd w2 y))) (fun y => absurd w y))) (fun h => absurd rfl (h q hq)))
    have hr := ok.2.2.2.2.2.2.2 q hq
    refine en_X4_flamesThatMatter _ _ ⟨vin_i (by omega) (by omega), ?_⟩
    rw [ncl (by omega), (hc.1.2.2.2.2.2.2.2 q hq).1]
    refine ⟨fun z => gO_i (go 0 (by omega) ?_), fun z => c_litPlaces hc.1.1 hP hc.1.2.2.2.2.2.1 olt (gO_i (gO_i (go (litM T) l8 ?_)))⟩
    · rw [neq (by omega) (by omega)] at z
      intro A B g hA hB hG
      have c0 : cnt 0 8 = 0 := by decide
      have ch := ((okT_evn ok n).2.2.2.2.2.2.2 q (by rw [(evn_l ok n).2.2]; exact hq)).2.2.2.2
      rw [wF_nl ok hq hcc z, c0, Nat.pow_zero, Nat.one_mul] at hA
      rw [c0, Nat.pow_zero] at hB
      subst hB
      rw [Nat.gcd_one_right] at hG
      subst hG
      rw [wF_nl ok hq hcc z, Nat.div_one, Nat.div_one, hA]
      have b0 := B0 (litM T)
      generalize 10 ^ cnt (litM T) 8 = B at b0
      rcases (by omega : evn T n (24 + 4 * q) = 0 ∨ evn T n (24 + 4 * q) = 1) with e | e
      · rw [e, Nat.mul_zero, Nat.gcd_zero_left, Nat.zero_div, Nat.div_self b0]
        exact ⟨rfl, rfl⟩
      · rw [e, Nat.mul_one, Nat.gcd_self, Nat.div_self b0]
        exact ⟨rfl, rfl⟩
    · intro A B g hA hB hG
      subst hA hB hG
      exact ⟨rfl, rfl⟩
  · have B : gO (some (zI (-1000001))) fun v' => (-1000001 : Int32) = v' ∧ Inv M ∧ ∀ k, 30 ≤ k → M k = M k := gO_i ⟨rfl, I, fun _ _ => rfl⟩
    have mid : wpd 40 175 [zR 16 0, zI p1, zI p2, zI p3, zI p4] M (fun r' M2 => gO r' fun v' => (-1000001 : Int32) = v' ∧ Inv M2 ∧ ∀ k, 30 ≤ k → M2 k = M k) :=
      en_X5_wind _ _ _ _ _ (c_isPlayer5 (hm 2 (by omega)) hb.2 (fun k1 hk1 e1 => gTe (c_in (fun a1 a2 => gTe (c_in (fun b1 b2 => gTe (c_either5 (fun k2 hk2 e2 => absurd ⟨⟨k1, hk1, e1⟩, ⟨a1, a2⟩, ⟨b1, b2⟩, ⟨k2, hk2, e2⟩⟩ bad) (fun _ => gFn B))) (fun _ => gFe B))) (fun _ => gFe B))) (fun _ => gFe B))
    exact en_X4_wind _ _ _ _ _ (c_hasPlayer hc.1.2.1 hb.2 (fun k1 hk1 e1 => gTe (c_isWithin (fun a1 a2 => gTe (c_isWithin (fun b1 b2 => gTe (c_isEither (fun k2 hk2 e2 => absurd ⟨⟨k1, hk1, e1⟩, ⟨a1, a2⟩, ⟨b1, b2⟩, ⟨k2, hk2, e2⟩⟩ bad) (fun _ => gFn (gO_i mid)))) (fun _ => gFe (gO_i mid)))) (fun _ => gFe (gO_i mid)))) (fun _ => gFe (gO_i mid)))
