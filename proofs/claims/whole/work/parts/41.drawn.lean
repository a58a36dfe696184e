/-! drawn -/
theorem l167 : ((16807 : Int32).toInt64) = lN 16807 := by decide
theorem l214 : ((2147483647 : Int32).toInt64) = lN 2147483647 := by decide
theorem l003 : ((3 : Int32).toInt64) = lN 3 := by decide
theorem l008 : ((8 : Int32).toInt64) = lN 8 := by decide
theorem l000 : ((0 : Int32).toInt64) = lN 0 := by decide
def drS (x : Nat) : Nat := x * 16807 % 2147483647
theorem drS_lt (x : Nat) : drS x < 2147483647 := Nat.mod_lt _ (by omega)
theorem dr_v {a : Nat} (h : a < 2147483648) : lN a * lN 16807 - lN a * lN 16807 / lN 2147483647 * lN 2147483647 = lN (drS a) := by
  rw [lN_mul, pk_lRem (by omega) (by omega) (by omega)]; rfl
theorem cmp_0 {a : Nat} (h : a < 2147483648) : lg_cmp (lN a) (lN 0) = nI 0 ↔ a = 0 := by
  unfold lg_cmp
  constructor
  · intro z
    split at z
    · exact absurd z (by decide)
    · split at z
      · rename_i e
        exact (lN_eq (by omega) (by omega)).mp e
      · exact absurd z (by decide)
  · intro z
    subst z
    decide
def drT (T : Nat → Nat) (x : Nat) : Nat → Nat := ups T (5 + x % T 1) (if x % 3 = 0 then 0 else min (T (5 + x % T 1) + x % 8) 20)
def drX (x : Nat) : Nat → Nat
  | 0 => x
  | n + 1 => drS (drX x n)
def drN (T : Nat → Nat) (x : Nat) : Nat → Nat → Nat
  | 0 => T
  | n + 1 => ev (drT (drN T x n) (drX x (n + 1)))
def drC (T : Nat → Nat) (x : Nat) : Nat → Nat
  | 0 => 0
  | n + 1 => drC T x n + clS (drT (drN T x n) (drX x (n + 1)))
theorem drX_lt {x : Nat} (h : x < 2147483647) : ∀ n, drX x n < 2147483647
  | 0 => h
  | n + 1 => drS_lt _
theorem drT_lt {T : Nat → Nat} {x : Nat} (ok : okT T) : x % T 1 < T 1 := Nat.mod_lt _ (by have := ok.2.1; omega)
theorem drT_ok {T : Nat → Nat} {x : Nat} (ok : okT T) : okT (drT T x) := by
  have := drT_lt (x := x) ok
  have := ok.2.2.1
  refine okT_oil ok (by omega) ?_
  split <;> omega
theorem drT_x {T : Nat → Nat} {x : Nat} (ok : okT T) (h : okX T) : okX (drT T x) := by
  have := drT_lt (x := x) ok
  have := ok.2.2.1
  refine okX_oil h (by omega) ?_
  split <;> omega
theorem drT_o {T : Nat → Nat} {x j : Nat} (ok : okT T) (h : j < 5 ∨ 13 ≤ j) : drT T x j = T j := by
  have := drT_lt (x := x) ok
  have := ok.2.2.1
  exact ups_n (by omega)
theorem drN_ok {T : Nat → Nat} {x : Nat} (ok : okT T) (h : okX T) : ∀ n, okT (drN T x n) ∧ okX (drN T x n) ∧ drN T x n 1 = T 1 ∧ drN T x n 2 = T 2 ∧ drN T x n 3 = T 3 + n
  | 0 => ⟨ok, h, rfl, rfl, rfl⟩
  | n + 1 => by
    obtain ⟨h1, h2, h3, h4, h5⟩ := drN_ok ok h n (x := x)
    have k1 := drT_ok (x := drX x (n + 1)) h1
    have k2 := drT_x (x := drX x (n + 1)) h1 h2
    have k3 := evn_l k1 1
    refine ⟨okT_ev k1, okX_ev k1 k2, ?_, ?_, ?_⟩
    · exact k3.2.1.trans ((drT_o h1 (by omega)).trans h3)
    · exact k3.2.2.trans ((drT_o h1 (by omega)).trans h4)
    · show ev (drT (drN T x n) (drX x (n + 1))) 3 = _
      rw [ev_3, drT_o h1 (by omega), h5]; omega
theorem drN_4 {T : Nat → Nat} {x : Nat} (ok : okT T) (h : okX T) : ∀ n, T 3 + n ≤ 12000 → drN T x n 4 = T 4 + drC T x n
  | 0, _ => rfl
  | n + 1, hn => by
    obtain ⟨h1, h2, h3, h4, h5⟩ := drN_ok ok h n (x := x)
    have ih := drN_4 (x := x) ok h n (by omega)
    have k1 := drT_ok (x := drX x (n + 1)) h1
    have k2 := drT_x (x := drX x (n + 1)) h1 h2
    have k3 := clS_le k1 k2
    have k4 := k2.2.2
    rw [drT_o h1 (by omega), drT_o h1 (by omega), h5] at k4
    show ev (drT (drN T x n) (drX x (n + 1))) 4 = T 4 + (drC T x n + clS (drT (drN T x n) (drX x (n + 1))))
    rw [ev_4, drT_o h1 (by omega), Nat.min_eq_right (by omega), ih]; omega
theorem pr_drawn (p1 p2 p3 : Int32) : PR 81 176 [zR 0 0, zI p1, zI p2, zI p3] [zR 16 0, zI p1, zI p2, zI p3] := by
  intro M I
  obtain ⟨T, hg, hc, hm⟩ := I.2.2.2.2.2.1
  have hb := hg.b
  by_cases t0 : 0 < T 1
  · have hN := hg.n t0
    by_cases w : nI 0 ≤ p1 ∧ p1 ≤ nI 60
    · by_cases w2 : nI 1 ≤ p2 ∧ p2 ≤ nI 999999
      · rcases num_or p3 2 with ⟨k, hk, rfl⟩ | hno
        · obtain ⟨n, hn, rfl⟩ := nI_of2 (x := p1) (M := nI 60) (n := 60) (by decide) (Int32.not_lt.mpr w.1) w.2
          obtain ⟨x, hx, rfl⟩ := nI_of2 (x := p2) (M := nI 999999) (n := 999999) (nI_toInt (by omega)) (fun y => Int32.not_le.mpr (Int32.lt_of_lt_of_le y (by decide)) w2.1) w2.2
          have h3 := hN.2.1
          have xl := drX_lt (x := x) (by omega)
          have ok := drN_ok (x := x) hN.1 hN.2.2
          have c4 := drN_4 (x := x) hN.1 hN.2.2 n (by omega)
          have okn := (ok n).1
          have ref : ∀ M1, F1 M M1 → ∀ v : Int32, (v = if k = 0 then nI (drC T x n) else nI (crN (drN T x n))) → wpd 40 176 [zR 16 0, zI (nI n), zI (nI x), zI (nI k)] M1 (fun r' M2 => gO r' fun v' => v = v' ∧ Inv M2 ∧ ∀ k, 30 ≤ k → M2 k = M k) := by
            intro M1 f1 v hv
            have hm1 := hm.f1 f1
            refine en_X5_drawn _ _ _ _ (c_isTown5 (hm1 1 (by omega)) hb.1 (fun _ => gTn (c_in (fun _ _ => gTe (c_in (fun _ _ => gTe (c_either5 (fun _ _ _ => gTn ?_) (fun h => absurd rfl (h k hk)))) (fun y => absurd w2 y))) (fun y => absurd w y))) (fun y => by omega))
            refine m_try hm1 (fun M2 f2 g2 => gN_i ?_)
            rw [nI_l (by omega)]
            refine up_ind (P := fun i => ∀ M3, Fp 2 M1 M3 → MT M3 2 (drN T x i) → WP (wpd 39) 1 T_X5_drawn (fun r' M2 => gO r' fun v' => v = v' ∧ Inv M2 ∧ ∀ k, 30 ≤ k → M2 k = M k) (65, [zR 16 0, zI (nI n), zU, zI (nI k), zJ (lN (drX x i)), zU, zI (nI (drC T x i)), zI (nI i), zU, zU], []) M3) (n := n) ?_ ?_ M2 f2 g2
            · intro M3 f3 g3
              refine cp_X5_drawn_65 _ _ _ _ _ _ ⟨fun _ => ⟨fun z => ?_, fun z => ?_⟩, fun z => absurd ((nle (by omega) (by omega)).mpr (Nat.le_refl _)) z⟩
              · refine m_crossed g3 okn.2.2.2.1 (gO_i (gO_i ⟨?_, fin_q I f1 f3⟩))
                rw [hv, if_neg (fun e => z (by rw [e]))]
              · rw [neq (by omega) (by omega)] at z
                exact gO_i ⟨by rw [hv, if_pos z], fin_q I f1 f3⟩
            · intro i hi ih M3 f3 g3
              obtain ⟨o1, o2, o3, o4, o5⟩ := ok i
              have hm3 := hm1.fp f3
              have xi := xl (i + 1)
              have yi := xl i
              have pl : drX x (i + 1) % T 1 < T 1 := Nat.mod_lt _ (by omega)
              have oo := o1.o (drX x (i + 1) % T 1) (by omega)
              have fin : ∀ M4 j, Fp 2 M1 M4 → j = drC T x i + clS (drT (drN T x i) (drX x (i + 1))) → MT M4 2 (drN T x (i + 1)) → WP (wpd 39) 1 T_X5_drawn (fun r' M2 => gO r' fun v' => v = v' ∧ Inv M2 ∧ ∀ k, 30 ≤ k → M2 k = M k) (65, [zR 16 0, zI (nI n), zU, zI (nI k), zJ (lN (drX x (i + 1))), zU, zI (nI j), zI (nI i + nI 1), zU, zU], []) M4 := by
                intro M4 j f4 ej g4
                rw [nI_add, ej]
                exact ih M4 f4 g4
              have e1 : lN (drX x i) * lN 16807 - lN (drX x i) * lN 16807 / lN 2147483647 * lN 2147483647 = lN (drX x (i + 1)) := dr_v (by omega)
              refine cp_X5_drawn_65 _ _ _ _ _ _ ⟨fun z => ?_, fun _ => ?_⟩
              · rw [nle (by omega) (by omega)] at z
                omega
              · rw [l167, l214, l003, l008, l000, e1, hm3 1 (by omega), nI_l (by omega), pk_lRem (by omega) (by omega) (by omega), pk_lRem (by omega) (by omega) (by omega), pk_lRem (by omega) (by omega) (by omega), lN_i, lN_i, nI_add 5, ncl (by omega), g3 _ (by omega), nI_add]
                refine ⟨by decide, vin_i (by omega) (by omega), fun z => ?_, by decide, fun z => ?_, fun z => ?_⟩
                · have z := (lN_eq (b := 0) (by omega) (by omega)).mp z
                  omega
                · have z := fun y => z ((cmp_0 (by omega)).mpr y)
                  refine ⟨vin_i (by omega) (by omega), by decide, c_lesser (gO_i ⟨vin_i (by omega) (by omega), ?_⟩)⟩
                  rw [min_if (by omega) (by omega), Nat.min_comm 20]
                  have e : drT (drN T x i) (drX x (i + 1)) = ups (drN T x i) (5 + drX x (i + 1) % T 1) (min (drN T x i (5 + drX x (i + 1) % T 1) + drX x (i + 1) % 8) 20) := by
                    unfold drT
                    rw [o3, if_neg z]
                  have u := g3.up (j := 5 + drX x (i + 1) % T 1) (v := min (drN T x i (5 + drX x (i + 1) % T 1) + drX x (i + 1) % 8) 20)
                  rw [← e] at u
                  refine c_passes u (drT_ok o1) (by rw [drT_o o1 (by omega)]; omega) (fun M4 f4 g4 => gO_i ?_)
                  rw [nI_add]
                  exact fin M4 _ (f3.tr (fun k j y1 y2 => by rw [f4 k j y1 y2, mup_r y1])) rfl g4
                · have z := (cmp_0 (by omega)).mp z
                  refine ⟨vin_i (by omega) (by omega), ?_⟩
                  have e : drT (drN T x i) (drX x (i + 1)) = ups (drN T x i) (5 + drX x (i + 1) % T 1) 0 := by
                    unfold drT
                    rw [o3, if_pos z]
                  have u := g3.up (j := 5 + drX x (i + 1) % T 1) (v := 0)
                  rw [← e] at u
                  refine c_passes u (drT_ok o1) (by rw [drT_o o1 (by omega)]; omega) (fun M4 f4 g4 => gO_i ?_)
                  rw [nI_add]
                  exact fin M4 _ (f3.tr (fun k j y1 y2 => by rw [f4 k j y1 y2, mup_r y1])) rfl g4
          refine en_X4_drawn _ _ _ _ (c_stands hc.1.1 hb.1 (fun _ => gTn (c_isWithin (fun _ _ => gTe (c_isWithin (fun _ _ => gTe (c_isEither (fun _ _ _ => gTn ?_) (fun h => absurd rfl (h k hk)))) (fun y => absurd w2 y))) (fun y => absurd w y))) (fun y => by omega))
          refine c_foretell hc hb.1 hb.2 (fun M1 f1 g1 => gN_i ?_)
          refine up_ind (P := fun i => ∀ M2, F1 M M2 → CT M2 1 (drN T x i) → WP (wpd 39) 1 T_X4_drawn (fun r M1 => gO r fun v => wpd 40 176 [zR 16 0, zI (nI n), zI (nI x), zI (nI k)] M1 (fun r' M2 => gO r' fun v' => v = v' ∧ Inv M2 ∧ ∀ k, 30 ≤ k → M2 k = M k)) (53, [zR 0 0, zI (nI n), zU, zI (nI k), zI (nI (drX x i)), zI (nI i)], []) M2) (n := n) ?_ ?_ M1 f1 g1
          · intro M2 f2 g2
            refine cp_X4_drawn_53 _ _ _ _ _ ⟨fun _ => ⟨fun z => ?_, fun z => gO_i (ref M2 f2 _ ?_)⟩, fun z => absurd ((nle (by omega) (by omega)).mpr (Nat.le_refl _)) z⟩
            · refine c_crossers g2 okn (gO_i (gO_i (ref M2 f2 _ ?_)))
              rw [if_neg (fun e => z (by rw [e]))]
            · rw [neq (by omega) (by omega)] at z
              rw [if_pos z, g2.2, (hc.f1 f2).2, c4, pk_sub (by omega), Nat.add_sub_cancel_left]
          · intro i hi ih M2 f2 g2
            obtain ⟨o1, o2, o3, o4, o5⟩ := ok i
            have xi := xl (i + 1)
            have yi := xl i
            have pl : drX x (i + 1) % T 1 < T 1 := Nat.mod_lt _ (by omega)
            have oo := o1.o (drX x (i + 1) % T 1) (by omega)
            have e1 : lN (drX x i) * lN 16807 - lN (drX x i) * lN 16807 / lN 2147483647 * lN 2147483647 = lN (drX x (i + 1)) := dr_v (by omega)
            have e7 : M2 7 1 (drX x (i + 1) % T 1) = nI (drN T x i (5 + drX x (i + 1) % T 1)) := g2.1.2.2.2.2.2.1 _ (by omega)
            have fin : ∀ M4, F1 M M4 → CT M4 1 (drT (drN T x i) (drX x (i + 1))) → wpd 39 42 [zR 6 1] M4 (fun r3 M3 => gN r3 (WP (wpd 39) 1 T_X4_drawn (fun r M1 => gO r fun v => wpd 40 176 [zR 16 0, zI (nI n), zI (nI x), zI (nI k)] M1 (fun r' M2 => gO r' fun v' => v = v' ∧ Inv M2 ∧ ∀ k, 30 ≤ k → M2 k = M k)) (53, [zR 0 0, zI (nI n), zU, zI (nI k), zI (nI (drX x (i + 1))), zI (nI i + nI 1)], []) M3)) := by
              intro M4 f4 g4
              refine c_passEvening g4 (drT_ok o1) (by rw [drT_o o1 (by omega)]; omega) (fun M5 f5 g5 _ => gN_i ?_)
              rw [nI_add]
              exact ih M5 (f4.tr f5) g5
            refine cp_X4_drawn_53 _ _ _ _ _ ⟨fun z => ?_, fun _ => ?_⟩
            · rw [nle (by omega) (by omega)] at z
              omega
            · rw [l167, l214, nI_l (by omega), e1, lN_i]
              refine ⟨by decide, en_X3_takeDraw _ _ _ ⟨fun z => ⟨z, by decide, ?_⟩, fun z => ?_⟩⟩
              · rw [g2.1.1, o3, pk_rem (by omega) (by omega) (by omega), pk_rem (by omega) (by omega) (by omega), pk_rem (by omega) (by omega) (by omega)]
                refine ⟨fun z => ⟨by decide, en_X3_addOil _ _ _ _ ⟨vin_i (by omega) (by omega), vin_i (by omega) (by omega), gN_i (gN_i ?_)⟩⟩, fun z => ⟨vin_i (by omega) (by omega), gN_i ?_⟩⟩
                · have z := fun y => z (congrArg nI y)
                  rw [ncl (by omega), e7, nI_add, min_if (by omega) (by omega)]
                  have e : drT (drN T x i) (drX x (i + 1)) = ups (drN T x i) (5 + drX x (i + 1) % T 1) (min (drN T x i (5 + drX x (i + 1) % T 1) + drX x (i + 1) % 8) 20) := by
                    unfold drT
                    rw [o3, if_neg z]
                  refine fin _ (fun k j y => by rw [mup_r (by omega)]; exact f2 k j y) ?_
                  rw [e]
                  exact g2.oilU (by rw [o3]; exact hb.1) (by omega)
                · have z := (neq (by omega) (by omega)).mp z
                  rw [ncl (by omega)]
                  have e : drT (drN T x i) (drX x (i + 1)) = ups (drN T x i) (5 + drX x (i + 1) % T 1) 0 := by
                    unfold drT
                    rw [o3, if_pos z]
                  refine fin _ (fun k j y => by rw [mup_r (by omega)]; exact f2 k j y) ?_
                  rw [e]
                  exact g2.oilU (by rw [o3]; exact hb.1) (by omega)
              · rw [g2.1.1, o3, neq (by omega) (by omega)] at z
                omega
        · refine en_X4_drawn _ _ _ _ (c_stands hc.1.1 hb.1 (fun _ => gTn (c_isWithin (fun _ _ => gTe (c_isWithin (fun _ _ => gTe (c_isEither (fun k hk e => absurd e (hno k hk)) (fun _ => gFn (gO_i ?_)))) (fun y => absurd w2 y))) (fun y => absurd w y))) (fun y => by omega))
          exact en_X5_drawn _ _ _ _ (c_isTown5 (hm 1 (by omega)) hb.1 (fun _ => gTn (c_in (fun _ _ => gTe (c_in (fun _ _ => gTe (c_either5 (fun k hk e => absurd e (hno k hk)) (fun _ => gFn (gO_i ⟨rfl, I, fun _ _ => rfl⟩)))) (fun y => absurd w2 y))) (fun y => absurd w y))) (fun y => by omega))
      · refine en_X4_drawn _ _ _ _ (c_stands hc.1.1 hb.1 (fun _ => gTn (c_isWithin (fun _ _ => gTe (c_isWithin (fun y1 y2 => absurd ⟨y1, y2⟩ w2) (fun _ => gFe (gO_i ?_)))) (fun y => absurd w y))) (fun y => by omega))
        exact en_X5_drawn _ _ _ _ (c_isTown5 (hm 1 (by omega)) hb.1 (fun _ => gTn (c_in (fun _ _ => gTe (c_in (fun y1 y2 => absurd ⟨y1, y2⟩ w2) (fun _ => gFe (gO_i ⟨rfl, I, fun _ _ => rfl⟩)))) (fun y => absurd w y))) (fun y => by omega))
    · refine en_X4_drawn _ _ _ _ (c_stands hc.1.1 hb.1 (fun _ => gTn (c_isWithin (fun y1 y2 => absurd ⟨y1, y2⟩ w) (fun _ => gFe (gO_i ?_)))) (fun y => by omega))
      exact en_X5_drawn _ _ _ _ (c_isTown5 (hm 1 (by omega)) hb.1 (fun _ => gTn (c_in (fun y1 y2 => absurd ⟨y1, y2⟩ w) (fun _ => gFe (gO_i ⟨rfl, I, fun _ _ => rfl⟩)))) (fun y => by omega))
  · refine en_X4_drawn _ _ _ _ (c_stands hc.1.1 hb.1 (fun y => absurd y t0) (fun _ => gFn (gO_i ?_)))
    exact en_X5_drawn _ _ _ _ (c_isTown5 (hm 1 (by omega)) hb.1 (fun y => absurd y t0) (fun _ => gFn (gO_i ⟨rfl, I, fun _ _ => rfl⟩)))
