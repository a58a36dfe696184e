/-! ACTS: move, turn, evenings, undo; restore -/
theorem pr_turn (p1 : Int32) : PR 65 156 [zR 0 0, zI p1] [zR 16 0, zI p1] := by
  intro M I
  obtain ⟨T, hg, hc, hm⟩ := I.2.2.2.2.2.1
  obtain ⟨n, s, H, hn, hs, hH, ca, ma⟩ := I.2.2.2.2.2.2.1.cm
  have hb := hg.b
  rcases num_or p1 (T 2) with ⟨q, hq, rfl⟩ | hno
  · have hN : okN T := by
      rcases hg with h | h
      · omega
      · exact h
    obtain ⟨w1, w2, w3, w4, w5⟩ := hN.1.2.2.2.2.2.2.2 q hq
    refine en_X4_turn _ _ (c_hasPlayer hc.1.2.1 hb.2 (fun _ _ _ => gTn ?_) (fun h => absurd rfl (h q hq)))
    refine c_hasCrossed hc.1 hb.2 hq w5 (fun c => gTe (gO_i ?_)) (fun c => gFe ?_)
    · refine en_X5_turn _ _ (c_isPlayer5 (hm 2 (by omega)) hb.2 (fun _ _ _ => gTn ?_) (fun h => absurd rfl (h q hq)))
      exact c_hasCr5 hm (by omega) w5 (fun _ => gTe (gO_i ⟨rfl, I, fun _ _ => rfl⟩)) (fun y => by omega)
    · refine c_keep ca hn hs hc hb.1 hb.2 (fun M1 f1 f2 => gN_i ?_)
      have hc1 : CT M1 0 T := hc.fr (fun k y1 y2 => f1 k 0 (by omega) (by omega))
      have e1 : M1 11 0 q = nI (T (23 + 4 * q)) := (hc1.1.2.2.2.2.2.2.2 q hq).2.2
      refine en_X3_turnRound _ _ _ ⟨vin_i (by omega) (by omega), vin_i (by omega) (by omega), gN_i ?_⟩
      rw [ncl (by omega), e1, pk_sub (by omega)]
      refine ⟨vin_i (by omega) (by omega), gO_i ?_⟩
      rw [mup_ap, if_pos ⟨rfl, rfl, rfl⟩]
      have hc2 := hc1.wyU (q := q) (v := 1 - T (23 + 4 * q)) hb.1
      have fr2 : ∀ k i, ¬ (6 ≤ k ∧ k ≤ 11 ∧ (i = 0 ∨ i = 1 ∨ 4 ≤ i)) → ¬ (k = 13 ∧ i = 0) → mup M1 11 0 q (nI (1 - T (23 + 4 * q))) k i = M k i := fun k i y1 y2 => by rw [mup_r (by omega)]; exact f1 k i (by omega) y2
      have ca2 : CA (mup M1 11 0 q (nI (1 - T (23 + 4 * q)))) (pn n) ((s + 1) % 24) (pH n H T) := f2.fr (mup_r (by omega)) (fun k i _ _ y => mup_r (by omega))
      have hm2 : MT (mup M1 11 0 q (nI (1 - T (23 + 4 * q)))) 0 T := fun j hj => by rw [fr2 22 0 (by omega) (by omega)]; exact hm j hj
      have ma2 : MA (mup M1 11 0 q (nI (1 - T (23 + 4 * q)))) n H := ma.fr (by rw [fr2 16 0 (by omega) (by omega)]) (fr2 25 0 (by omega) (by omega))
      generalize mup M1 11 0 q (nI (1 - T (23 + 4 * q))) = M2 at *
      refine en_X5_turn _ _ (c_isPlayer5 (hm2 2 (by omega)) hb.2 (fun _ _ _ => gTn ?_) (fun h => absurd rfl (h q hq)))
      refine c_hasCr5 hm2 (by omega) w5 (fun y => by omega) (fun _ => gFe ?_)
      refine m_notes ma2 hn hm2 (fun M3 g1 g2 g3 => gN_i ?_)
      have hm3 : MT M3 0 T := fun j hj => by rw [g1 22 0 (by omega) (by omega)]; exact hm2 j hj
      rw [pk_mul, nI_add, nI_add, show 21 + 4 * q + 2 = 23 + 4 * q by omega, ncl (by omega), hm3 _ (by omega), pk_sub (by omega)]
      refine ⟨vin_i (by omega) (by omega), vin_i (by omega) (by omega), vin_i (by omega) (by omega), gO_i ?_⟩
      rw [mup_ap, if_pos ⟨rfl, rfl, rfl⟩]
      exact ⟨rfl, act_end I (pn_le n) (Nat.mod_lt _ (by omega)) (pH_ok hn hH hN) ⟨okT_wy hN.1 (by omega), by rw [ups_n (by omega)]; exact hN.2.1, okX_pl hN.2.2 (by omega) (fun _ => by omega)⟩ fr2 hc2 ca2 (fun k i y1 y2 y3 y4 => by rw [mup_r (by omega)]; exact g1 k i y1 y2) (fun j hj => by rw [mup_r (by omega)]; exact g2 j hj) hm3.up (g3.fr (by rw [mup_r (by omega)]) (mup_r (by omega)))⟩
  · refine en_X4_turn _ _ (c_hasPlayer hc.1.2.1 hb.2 (fun k hk e => absurd e (hno k hk)) (fun _ => gFn (gO_i ?_)))
    exact en_X5_turn _ _ (c_isPlayer5 (hm 2 (by omega)) hb.2 (fun k hk e => absurd e (hno k hk)) (fun _ => gFn (gO_i ⟨rfl, I, fun _ _ => rfl⟩)))
theorem pr_move (p1 p2 : Int32) : PR 64 155 [zR 0 0, zI p1, zI p2] [zR 16 0, zI p1, zI p2] := by
  intro M I
  obtain ⟨T, hg, hc, hm⟩ := I.2.2.2.2.2.1
  obtain ⟨n, s, H, hn, hs, hH, ca, ma⟩ := I.2.2.2.2.2.2.1.cm
  have hb := hg.b
  have bad : (∀ k, k < T 2 → p1 ≠ nI k) ∨ (∀ k, k < T 1 → p2 ≠ nI k) → wpd 40 155 [zR 16 0, zI p1, zI p2] M (fun r' M2 => gO r' fun v' => (-1000001 : Int32) = v' ∧ Inv M2 ∧ ∀ k, 30 ≤ k → M2 k = M k) := by
    intro h
    have B : gO (some (zI (-1000001))) fun v' => (-1000001 : Int32) = v' ∧ Inv M ∧ ∀ k, 30 ≤ k → M k = M k := gO_i ⟨rfl, I, fun _ _ => rfl⟩
    refine en_X5_move _ _ _ (c_isPlayer5 (hm 2 (by omega)) hb.2 (fun k hk e => gTe ?_) (fun _ => gFe B))
    refine c_isPlace5 (hm 1 (by omega)) hb.1 (fun k' hk' e' => ?_) (fun _ => gFn B)
    rcases h with h | h
    · exact absurd e (h k hk)
    · exact absurd e' (h k' hk')
  refine en_X4_move _ _ _ (c_hasPlayer hc.1.2.1 hb.2 (fun q hq e => gTe ?_) (fun h => gFe (gO_i (bad (Or.inl h)))))
  refine c_hasPlace hc.1.1 hb.1 (fun p hp e' => gTn ?_) (fun h => gFn (gO_i (bad (Or.inr h))))
  subst e
  subst e'
  have hN := hg.n (by omega)
  obtain ⟨w1, w2, w3, w4, w5⟩ := hN.1.2.2.2.2.2.2.2 q hq
  have e1 : M 10 0 q = nI (T (22 + 4 * q)) := (hc.1.2.2.2.2.2.2.2 q hq).2.1
  rw [ncl (by omega), e1]
  have st5 : T (24 + 4 * q) = 1 ∨ T (22 + 4 * q) = p → wpd 40 155 [zR 16 0, zI (nI q), zI (nI p)] M (fun r' M2 => gO r' fun v' => (-1000002 : Int32) = v' ∧ Inv M2 ∧ ∀ k, 30 ≤ k → M2 k = M k) := by
    intro h
    have B : gO (some (zI (-1000002))) fun v' => (-1000002 : Int32) = v' ∧ Inv M ∧ ∀ k, 30 ≤ k → M k = M k := gO_i ⟨rfl, I, fun _ _ => rfl⟩
    refine en_X5_move _ _ _ (c_isPlayer5 (hm 2 (by omega)) hb.2 (fun _ _ _ => gTe ?_) (fun h => absurd rfl (h q hq)))
    refine c_isPlace5 (hm 1 (by omega)) hb.1 (fun _ _ _ => gTn ?_) (fun h => absurd rfl (h p hp))
    rw [pk_mul, nI_add, nI_add, show 21 + 4 * q + 1 = 22 + 4 * q by omega, ncl (by omega), hm _ (by omega)]
    refine ⟨vin_i (by omega) (by omega), c_hasCr5 hm (by omega) w5 (fun _ => gTn B) (fun y => gFn ⟨fun y2 => ?_, fun _ => B⟩)⟩
    rcases h with h | h
    · omega
    · exact absurd (by rw [h]) y2
  refine ⟨vin_i (by omega) (by omega), c_hasCrossed hc.1 hb.2 hq w5 (fun c => gTn (gO_i (st5 (Or.inl c)))) (fun c => gFn ⟨fun z => ?_, fun z => gO_i (st5 (Or.inr ((neq (by omega) (by omega)).mp z)))⟩)⟩
  refine c_keep ca hn hs hc hb.1 hb.2 (fun M1 f1 f2 => gN_i ⟨vin_i (by omega) (by omega), gO_i ?_⟩)
  have hc1 : CT M1 0 T := hc.fr (fun k y1 y2 => f1 k 0 (by omega) (by omega))
  have hc2 := hc1.atU (q := q) (v := p) hb.1
  have fr2 : ∀ k i, ¬ (6 ≤ k ∧ k ≤ 11 ∧ (i = 0 ∨ i = 1 ∨ 4 ≤ i)) → ¬ (k = 13 ∧ i = 0) → mup M1 10 0 q (nI p) k i = M k i := fun k i y1 y2 => by rw [mup_r (by omega)]; exact f1 k i (by omega) y2
  have ca2 : CA (mup M1 10 0 q (nI p)) (pn n) ((s + 1) % 24) (pH n H T) := f2.fr (mup_r (by omega)) (fun k i _ _ y => mup_r (by omega))
  have hm2 : MT (mup M1 10 0 q (nI p)) 0 T := fun j hj => by rw [fr2 22 0 (by omega) (by omega)]; exact hm j hj
  have ma2 : MA (mup M1 10 0 q (nI p)) n H := ma.fr (by rw [fr2 16 0 (by omega) (by omega)]) (fr2 25 0 (by omega) (by omega))
  generalize mup M1 10 0 q (nI p) = M2 at *
  refine en_X5_move _ _ _ (c_isPlayer5 (hm2 2 (by omega)) hb.2 (fun _ _ _ => gTe ?_) (fun h => absurd rfl (h q hq)))
  refine c_isPlace5 (hm2 1 (by omega)) hb.1 (fun _ _ _ => gTn ?_) (fun h => absurd rfl (h p hp))
  rw [pk_mul, nI_add, nI_add, show 21 + 4 * q + 1 = 22 + 4 * q by omega, ncl (by omega), hm2 _ (by omega)]
  refine ⟨vin_i (by omega) (by omega), c_hasCr5 hm2 (by omega) w5 (fun y => by omega) (fun _ => gFn ⟨fun _ => ?_, fun y => absurd y z⟩)⟩
  refine m_notes ma2 hn hm2 (fun M3 g1 g2 g3 => gN_i ⟨vin_i (by omega) (by omega), gO_i ⟨rfl, ?_⟩⟩)
  have hm3 : MT M3 0 T := fun j hj => by rw [g1 22 0 (by omega) (by omega)]; exact hm2 j hj
  exact act_end I (pn_le n) (Nat.mod_lt _ (by omega)) (pH_ok hn hH hN) ⟨okT_at hN.1 hp, by rw [ups_n (by omega)]; exact hN.2.1, okX_pl hN.2.2 (by omega) (fun _ => by omega)⟩ fr2 hc2 ca2 (fun k i y1 y2 y3 y4 => by rw [mup_r (by omega)]; exact g1 k i y1 y2) (fun j hj => by rw [mup_r (by omega)]; exact g2 j hj) hm3.up (g3.fr (by rw [mup_r (by omega)]) (mup_r (by omega)))
/-- the past behind m evenings -/
def eN (n : Nat) : Nat → Nat
  | 0 => n
  | m + 1 => pn (eN n m)
def eS (s : Nat) : Nat → Nat
  | 0 => s
  | m + 1 => (eS s m + 1) % 24
def eH (n : Nat) (H : Nat → Nat → Nat) (T : Nat → Nat) : Nat → Nat → Nat → Nat
  | 0 => H
  | m + 1 => pH (eN n m) (eH n H T m) (evn T m)
theorem eN_le {n : Nat} (h : n ≤ 24) : ∀ m, eN n m ≤ 24
  | 0 => h
  | _ + 1 => pn_le _
theorem eS_lt {s : Nat} (h : s < 24) : ∀ m, eS s m < 24
  | 0 => h
  | _ + 1 => Nat.mod_lt _ (by omega)
theorem eH_ok {n : Nat} {H : Nat → Nat → Nat} {T : Nat → Nat} (hn : n ≤ 24) (hH : ∀ i, i < n → okN (H i)) (ok : okT T) (okx : okX T) : ∀ m, T 3 + m ≤ 10000 → ∀ i, i < eN n m → okN (eH n H T m i)
  | 0, _ => hH
  | m + 1, h => pH_ok (eN_le hn m) (eH_ok hn hH ok okx m (by omega)) ⟨okT_evn ok m, by rw [evn_3]; omega, okX_evn ok okx m⟩
theorem pr_evenings (p1 : Int32) : PR 61 152 [zR 0 0, zI p1] [zR 16 0, zI p1] := by
  intro M I
  obtain ⟨T, hg, hc, hm⟩ := I.2.2.2.2.2.1
  obtain ⟨n, s, H, hn, hs, hH, ca, ma⟩ := I.2.2.2.2.2.2.1.cm
  have hb := hg.b
  by_cases hp : 0 < T 1
  · have hN := hg.n hp
    have h39 := hN.2.1
    have bad : ¬ (nI 1 ≤ p1 ∧ p1 ≤ nI 24) → wpd 40 152 [zR 16 0, zI p1] M (fun r' M2 => gO r' fun v' => (-1000001 : Int32) = v' ∧ Inv M2 ∧ ∀ k, 30 ≤ k → M2 k = M k) := fun h =>
      en_X5_evenings _ _ (c_isTown5 (hm 1 (by omega)) hb.1 (fun _ => gTn (c_in (fun y1 y2 => absurd ⟨y1, y2⟩ h) (fun _ => gFn (gO_i ⟨rfl, I, fun _ _ => rfl⟩)))) (fun y => by omega))
    refine en_X4_evenings _ _ (c_stands hc.1.1 hb.1 (fun _ => gTn ⟨fun z => gO_i (bad (fun y => Int32.not_le.mpr z y.1)), fun z => ⟨fun z2 => ?_, fun z2 => gO_i (bad (fun y => z2 y.2))⟩⟩) (fun y => by omega))
    have q1 : nI 1 ≤ p1 := Int32.not_lt.mp z
    obtain ⟨m, hm24, rfl⟩ := nI_of2 (x := p1) (M := nI 24) (n := 24) (by decide) (fun y => z (Int32.lt_of_lt_of_le y (by decide))) z2
    rw [hc.1.2.2.2.1, nI_add]
    refine ⟨fun y => ?_, fun y => gO_i ?_⟩
    · rw [nle (by omega) (by omega)] at y
      -- the class's evenings
      have loopC : ∀ (r i : Nat) (M1 : Mem), i + r = m → (∀ k i, ¬ (6 ≤ k ∧ k ≤ 11 ∧ (i = 0 ∨ i = 1 ∨ 4 ≤ i)) → ¬ (k = 13 ∧ i = 0) → M1 k i = M k i) → CT M1 0 (evn T i) → CA M1 (eN n i) (eS s i) (eH n H T i) → WP (wpd 39) 1 T_X4_evenings (fun r M1 => gO r fun v => wpd 40 152 [zR 16 0, zI (nI m)] M1 (fun r' M2 => gO r' fun v' => v = v' ∧ Inv M2 ∧ ∀ k, 30 ≤ k → M2 k = M k)) (47, [zR 0 0, zI (nI m), zI (nI i)], []) M1 := by
        intro r
        induction r with
        | zero =>
          intro i M1 e f1 f2 f3
          have e : i = m := by omega
          subst e
          refine cp_X4_evenings_47 _ _ _ ⟨fun _ => ?_, fun w => absurd ((nle (by omega) (by omega)).mpr (Nat.le_refl _)) w⟩
          have ok := okT_evn hN.1 i
          refine c_litPlaces (n := evn T i 1) (f := fun p => evn T i (5 + p)) f2.1.1 ok.2.2.1 f2.1.2.2.2.2.2.1 (fun p hp => by have := ok.o p (by have := ok.2.2.1; omega); omega) (gO_i (gO_i ?_))
          have hm1 : MT M1 0 T := fun j hj => by rw [f1 22 0 (by omega) (by omega)]; exact hm j hj
          have ma1 : MA M1 n H := ma.fr (by rw [f1 16 0 (by omega) (by omega)]) (f1 25 0 (by omega) (by omega))
          refine en_X5_evenings _ _ (c_isTown5 (hm1 1 (by omega)) hb.1 (fun _ => gTn (c_in (fun _ _ => gTn ?_) (fun w => absurd ⟨q1, z2⟩ w))) (fun w => by omega))
          rw [hm1 3 (by omega), nI_add]
          refine ⟨vin_i (by omega) (by omega), fun _ => ?_, fun w => absurd ((nle (by omega) (by omega)).mpr y) w⟩
          have loopM : ∀ (r j : Nat) (M2 : Mem), j + r = i → (∀ k i, ¬ (k = 25 ∧ i = 0) → ¬ (k = 16 ∧ i = 0) → ¬ (k = 22) → ¬ (k = 28) → M2 k i = M1 k i) → (∀ j, j ≠ 18 → M2 16 0 j = M1 16 0 j) → MT M2 0 (evn T j) → MA M2 (eN n j) (eH n H T j) → WP (wpd 39) 1 T_X5_evenings (fun r' M2 => gO r' fun v' => nI (bso (fun p => decide (0 < evn T i (5 + p))) (evn T i 1)) = v' ∧ Inv M2 ∧ ∀ k, 30 ≤ k → M2 k = M k) (42, [zR 16 0, zI (nI i), zI (nI j)], []) M2 := by
            intro r
            induction r with
            | zero =>
              intro j M2 e g1 g2 g3 g4
              have e : j = i := by omega
              subst e
              refine cp_X5_evenings_42 _ _ _ ⟨fun _ => ?_, fun w => absurd ((nle (by omega) (by omega)).mpr (Nat.le_refl _)) w⟩
              refine c_litOf g3 ok.2.2.1 (fun p hp => by have := ok.o p (by have := ok.2.2.1; omega); omega) (gO_i (gO_i ⟨rfl, ?_⟩))
              exact act_end I (eN_le hn j) (eS_lt hs j) (eH_ok hn hH hN.1 hN.2.2 j (by omega)) ⟨ok, by rw [evn_3]; omega, okX_evn hN.1 hN.2.2 j⟩ f1 f2 f3 g1 g2 g3 g4
            | succ r ih2 =>
              intro j M2 e g1 g2 g3 g4
              refine cp_X5_evenings_42 _ _ _ ⟨fun w => ?_, fun _ => ?_⟩
              · rw [nle (by omega) (by omega)] at w
                omega
              · refine m_notes g4 (eN_le hn j) g3 (fun M3 a1 a2 a3 => gN_i ?_)
                have hm3 : MT M3 0 (evn T j) := fun l hl => by rw [a1 22 0 (by omega) (by omega)]; exact g3 l hl
                refine c_passes hm3 (okT_evn hN.1 j) (by rw [evn_3]; omega) (fun M4 b1 b2 => gO_i ?_)
                rw [nI_add]
                refine ih2 (j + 1) M4 (by omega) (fun k i y1 y2 y3 y4 => by rw [b1 k i (by omega) (by omega), a1 k i y1 y2]; exact g1 k i y1 y2 y3 y4) (fun l hl => by rw [b1 16 0 (by omega) (by omega), a2 l hl]; exact g2 l hl) b2 (a3.fr (by rw [b1 16 0 (by omega) (by omega)]) (b1 25 0 (by omega) (by omega)))
          exact loopM i 0 M1 (by omega) (fun _ _ _ _ _ _ => rfl) (fun _ _ => rfl) hm1 ma1
        | succ r ih =>
          intro i M1 e f1 f2 f3
          have ok := okT_evn hN.1 i
          refine cp_X4_evenings_47 _ _ _ ⟨fun w => ?_, fun _ => ?_⟩
          · rw [nle (by omega) (by omega)] at w
            omega
          · refine c_keep f3 (eN_le hn i) (eS_lt hs i) f2 ok.2.2.1 ok.2.2.2.1 (fun M2 a1 a2 => gN_i ?_)
            have hc2 : CT M2 0 (evn T i) := f2.fr (fun k y1 y2 => a1 k 0 (by omega) (by omega))
            refine c_passEvening hc2 ok (by rw [evn_3]; omega) (fun M3 b1 b2 _ => gN_i ?_)
            rw [nI_add]
            exact ih (i + 1) M3 (by omega) (fun k i y1 y2 => by rw [b1 k i (by omega), a1 k i (by omega) y2]; exact f1 k i y1 y2) b2 (a2.fr (b1 13 0 (by omega)) (fun k i y1 y2 y3 => b1 k i (by omega)))
      exact loopC m 0 M (by omega) (fun _ _ _ _ => rfl) hc ca
    · refine en_X5_evenings _ _ (c_isTown5 (hm 1 (by omega)) hb.1 (fun _ => gTn (c_in (fun _ _ => gTn ?_) (fun w => absurd ⟨q1, z2⟩ w))) (fun w => by omega))
      rw [hm 3 (by omega), nI_add]
      exact ⟨vin_i (by omega) (by omega), fun w => absurd w y, fun _ => gO_i ⟨rfl, I, fun _ _ => rfl⟩⟩
  · refine en_X4_evenings _ _ (c_stands hc.1.1 hb.1 (fun y => by omega) (fun _ => gFn (gO_i ?_)))
    exact en_X5_evenings _ _ (c_isTown5 (hm 1 (by omega)) hb.1 (fun y => by omega) (fun _ => gFn (gO_i ⟨rfl, I, fun _ _ => rfl⟩)))
