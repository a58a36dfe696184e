/-! restore, undo; set, copy -/
theorem pr_undo : PR 66 157 [zR 0 0] [zR 16 0] := by
  intro M I
  obtain ⟨T, hg, hc, hm⟩ := I.2.2.2.2.2.1
  obtain ⟨n, s, H, hn, hs, hH, ca, ma⟩ := I.2.2.2.2.2.2.1.cm
  by_cases n0 : n = 0
  · subst n0
    refine en_X4_undo _ ⟨fun z => absurd ca.2.1 z, fun _ => gO_i ?_⟩
    exact en_X5_undo _ ⟨fun z => absurd ma.1 z, fun _ => gO_i ⟨rfl, I, fun _ _ => rfl⟩⟩
  · have okH := hH (n - 1) (by omega)
    have hidx : (s + 24 - n + (n - 1)) % 24 = (s + 24 - 1) % 24 := by congr 1; omega
    refine en_X4_undo _ ⟨fun _ => ?_, fun z => ?_⟩
    · refine en_X0_takeBack _ _ ?_
      rw [ca.1, ca.2.1, nI_add, pk_sub (by omega), pk_rem (by omega) (by omega) (by omega), pk_sub (by omega), ncl (by omega)]
      refine ⟨fun z => ?_, fun _ => ⟨by decide, vin_i (by omega) (by omega), ?_⟩⟩
      · rw [nle (by omega) (by omega)] at z
        omega
      · have hb : CT (mup (mup M 13 0 1 (nI ((s + 24 - 1) % 24))) 13 0 2 (nI (n - 1))) (4 + (s + 24 - 1) % 24) (H (n - 1)) := by
          have := ca.2.2 (n - 1) (by omega)
          rw [hidx] at this
          exact this.fr (fun k y1 y2 => by rw [mup_r (by omega), mup_r (by omega)])
        refine c_becomeT (by omega) hb okH.1.2.2.1 okH.1.2.2.2.1 (fun M1 f1 f2 => gN_i (gN_i (gO_i ?_)))
        have e13 : M1 13 0 2 = nI (n - 1) := by rw [f1 13 0 (by omega), mup_ap, if_pos ⟨rfl, rfl, rfl⟩]
        have e131 : M1 13 0 1 = nI ((s + 24 - 1) % 24) := by rw [f1 13 0 (by omega), mup_ap, if_neg (by omega), mup_ap, if_pos ⟨rfl, rfl, rfl⟩]
        have fr : ∀ k i, ¬ (6 ≤ k ∧ k ≤ 11 ∧ i = 0) → ¬ (k = 13 ∧ i = 0) → M1 k i = M k i := fun k i y1 y2 => by rw [f1 k i y1, mup_r y2, mup_r y2]
        rw [e13]
        have ma1 : MA M1 n H := ma.fr (by rw [fr 16 0 (by omega) (by omega)]) (fr 25 0 (by omega) (by omega))
        refine en_X5_undo _ ⟨fun _ => ?_, fun z => ?_⟩
        · rw [ma1.1, pk_sub (by omega), pk_mul]
          refine c_copies2 0 (by omega) (by omega) (fun M2 g1 g2 => gN_i (gO_i ?_))
          have e16 : M2 16 0 18 = nI (n - 1) := by rw [g1 16 0 (by omega), mup_ap, if_pos ⟨rfl, rfl, rfl⟩]
          rw [e16]
          refine ⟨rfl, I.act (fun k i y1 y2 y3 y4 y5 y6 => by rw [g1 k i (by omega), mup_r y6]; exact fr k i (by omega) y2) (fun j hj => by rw [g1 16 0 (by omega), mup_ap, if_neg (by omega), fr 16 0 (by omega) (by omega)]) ⟨H (n - 1), Or.inr okH, f2.fr (fun k y1 y2 => by rw [g1 k 0 (by omega), mup_r (by omega)]), fun j hj => ?_⟩ ?_⟩
          · rw [g2, if_pos (by omega), mup_r (by omega), show 45 * (n - 1) + (j - 0) = 45 * (n - 1) + j by omega]
            exact ma1.2 (n - 1) (by omega) j hj
          · have s2 : (s + 24 - 1) % 24 < 24 := Nat.mod_lt _ (by omega)
            refine IActs.mk (n := n - 1) (s := (s + 24 - 1) % 24) (H := H) (by omega) s2 (fun i hi => hH i (by omega)) ⟨by rw [g1 13 0 (by omega), mup_r (by omega)]; exact e131, by rw [g1 13 0 (by omega), mup_r (by omega)]; exact e13, fun i hi => ?_⟩ ⟨e16, fun i hi j hj => ?_⟩
            · have := ca.2.2 i (by omega)
              rw [show ((s + 24 - 1) % 24 + 24 - (n - 1) + i) % 24 = (s + 24 - n + i) % 24 by omega]
              exact this.fr (fun k y1 y2 => by rw [g1 k _ (by omega), mup_r (by omega)]; exact fr k _ (by omega) (by omega))
            · rw [g1 25 0 (by omega), mup_r (by omega)]
              exact ma1.2 i (by omega) j hj
        · rw [ma1.1] at z
          have z := (neq (by omega) (by omega)).mp z
          omega
    · rw [ca.2.1] at z
      have z := (neq (by omega) (by omega)).mp z
      omega
theorem pr_restore (p1 : Int32) : PR 83 178 [zR 0 0, zI p1] [zR 16 0, zI p1] := by
  intro M I
  obtain ⟨T, hg, hc, hm⟩ := I.2.2.2.2.2.1
  obtain ⟨n, s, H, hn, hs, hH, ca, ma⟩ := I.2.2.2.2.2.2.1.cm
  have c5 : ∀ {Q : Option AV → Mem → Prop} {M : Mem}, (∀ k, k < 2 → p1 = nI k → Q (some (zI (nI 1))) M) → ((∀ k, k < 2 → p1 ≠ nI k) → Q (some (zI (nI 0))) M) → wpd 39 109 [zI p1, zI (nI 0), zI (nI 1)] M Q := by
    intro Q M h1 h0
    have := c_inN (d := 38) (Q := Q) (M := M) (v := p1) (N := 2) (by omega) h1 h0
    rw [pk_sub (by omega)] at this
    exact this
  rcases num_or p1 2 with ⟨k, hk, rfl⟩ | hno
  · rcases I.2.2.2.2.2.2.2.1 k hk with ⟨y1, y2⟩ | ⟨T', okT', hcT, y3, y4⟩
    · refine en_X4_restore _ _ (c_isEither (fun _ _ _ => gTn ?_) (fun h => absurd rfl (h k hk)))
      rw [ncl (by omega)]
      refine ⟨vin_i (by omega) (by omega), c_stands y1 (by omega) (fun z => by omega) (fun _ => gFn (gO_i ?_))⟩
      refine en_X5_restore _ _ (c5 (fun _ _ _ => gTn ?_) (fun h => absurd rfl (h k hk)))
      rw [ncl (by omega), y2]
      exact ⟨vin_i (by omega) (by omega), fun z => absurd rfl z, fun _ => gO_i ⟨rfl, I, fun _ _ => rfl⟩⟩
    · refine en_X4_restore _ _ (c_isEither (fun _ _ _ => gTn ?_) (fun h => absurd rfl (h k hk)))
      rw [ncl (by omega)]
      have hpos : 0 < T' 1 := by have := okT'.1.2.1; omega
      refine ⟨vin_i (by omega) (by omega), c_stands hcT.1.1 okT'.1.2.2.1 (fun _ => gTn ⟨vin_i (by omega) (by omega), ?_⟩) (fun z => by omega)⟩
      refine c_becomeT (by omega) hcT okT'.1.2.2.1 okT'.1.2.2.2.1 (fun M1 f1 f2 => gN_i (en_X0_forget _ (gN_i (gO_i ?_))))
      refine en_X5_restore _ _ (c5 (fun _ _ _ => gTn ?_) (fun h => absurd rfl (h k hk)))
      rw [ncl (by omega), mup_r (by omega), f1 27 0 (by omega), y3]
      refine ⟨vin_i (by omega) (by omega), fun _ => ?_, fun z => absurd z c10⟩
      rw [pk_mul]
      refine c_copies4 0 (by omega) (by omega) (fun M2 g1 g2 => gN_i (gO_i ⟨rfl, ?_⟩))
      refine I.act (fun k i a1 a2 a3 a4 a5 a6 => by rw [mup_r a6, g1 k i (by omega), mup_r a2]; exact f1 k i (by omega)) (fun j hj => by rw [mup_ap, if_neg (by omega), g1 16 0 (by omega), mup_r (by omega), f1 16 0 (by omega)]) ⟨T', Or.inr okT', f2.fr (fun k a1 a2 => by rw [mup_r (by omega), g1 k 0 (by omega), mup_r (by omega)]), fun j hj => ?_⟩ ?_
      · rw [mup_r (by omega), g2, if_pos (by omega), mup_r (by omega), f1 26 0 (by omega), show 45 * k + (j - 0) = 45 * k + j by omega]
        exact y4 j hj
      · refine IActs.mk (n := 0) (s := s) (H := H) (by omega) hs (fun i hi => absurd hi (by omega)) ⟨?_, ?_, fun i hi => absurd hi (by omega)⟩ ⟨?_, fun i hi => absurd hi (by omega)⟩
        · rw [mup_r (by omega), g1 13 0 (by omega), mup_ap, if_neg (by omega), f1 13 0 (by omega)]; exact ca.1
        · rw [mup_r (by omega), g1 13 0 (by omega), mup_ap, if_pos ⟨rfl, rfl, rfl⟩]
        · rw [mup_ap, if_pos ⟨rfl, rfl, rfl⟩]
  · refine en_X4_restore _ _ (c_isEither (fun k hk e => absurd e (hno k hk)) (fun _ => gFn (gO_i ?_)))
    exact en_X5_restore _ _ (c5 (fun k hk e => absurd e (hno k hk)) (fun _ => gFn (gO_i ⟨rfl, I, fun _ _ => rfl⟩)))
theorem pr_set (p1 p2 p3 : Int32) : PR 55 120 [zR 0 0, zI p1, zI p2, zI p3] [zR 16 0, zI p1, zI p2, zI p3] := by
  intro M I
  rcases num_or p1 8 with ⟨r, hr, rfl⟩ | hno
  · rcases I.1 r hr with ⟨m4, m5⟩ | ⟨l, n, w1, w2, w3, w4, w5, w6, w7⟩
    · refine en_X4_set _ _ _ _ (c_isRow4 (fun _ _ _ => gTn ?_) (fun h => absurd rfl (h r hr)))
      rw [ncl (by omega), Nat.zero_add]
      refine ⟨vin_i (by omega) (by omega), c_miss4 (fun _ => gTe ?_) (fun z => absurd m4 z)⟩
      refine en_X4_found _ _ (gO_i (gO_i ?_))
      refine en_X5_set _ _ _ _ (c_isRow5 (fun _ _ _ => gTn ?_) (fun h => absurd rfl (h r hr)))
      refine c_miss5 hr (fun _ => gTe ?_) (fun z => absurd (by rw [mup_r (by omega)]; exact m5) z)
      exact en_X5_found _ _ (gO_i (gO_i ⟨rfl, I.find, find_30⟩))
    · refine en_X4_set _ _ _ _ (c_isRow4 (fun _ _ _ => gTn ?_) (fun h => absurd rfl (h r hr)))
      rw [ncl (by omega), Nat.zero_add]
      refine ⟨vin_i (by omega) (by omega), c_miss4 (fun z => absurd (w3 ▸ z) (ne_m1 (by omega))) (fun _ => gFe ?_)⟩
      refine c_hasItems w4 w2 (fun a b ea eb hab => gTn ?_) (fun h => gFn ?_)
      · have hb1 : b = 1 := by
          have := (neq (a := 1) (b := b) (by omega) (by omega)).mp eb
          omega
        subst hb1
        subst ea
        refine c_narrowed w3 w1 (gO_i ?_)
        generalize hnv : (if l = 0 then p3.toInt8.toInt32 else if l = 1 then p3.toInt16.toInt32 else p3) = nv
        rw [ncl (by omega)]
        refine ⟨vin_i (by omega) (by omega), vin_i (by omega) (by omega), en_X4_foundNothing _ _ (gO_i (gO_i ?_))⟩
        rw [mup_ap, if_pos ⟨rfl, rfl, rfl⟩]
        refine en_X5_set _ _ _ _ (c_isRow5 (fun _ _ _ => gTn ?_) (fun h => absurd rfl (h r hr)))
        refine c_miss5 hr (fun z => ?_) (fun _ => gFe ?_)
        · rw [mup_r (by omega), mup_r (by omega), w5] at z
          exact absurd z (ne_no (by omega))
        · rw [ncl (by omega), mup_r (by omega), mup_r (by omega), w6]
          refine ⟨vin_i (by omega) (by omega), c_inN (by omega) (fun _ _ _ => gTn ⟨vin_i (by omega) (by omega), ?_⟩) (fun h => absurd rfl (h a (by omega)))⟩
          rw [mup_r (by omega), mup_r (by omega), w5]
          refine c_cut w1 (gO_i ?_)
          rw [hnv, pk_mul, nI_add, ncl (by omega)]
          refine ⟨vin_i (by omega) (by omega), vin_i (by omega) (by omega), en_X5_well _ _ (gO_i (gO_i ⟨by rw [mup_ap, if_pos ⟨rfl, rfl, rfl⟩], ?_⟩))⟩
          refine I.rows (fun k i a1 a2 a3 a4 a5 a6 a7 a8 => ?_) (fun j hj => ?_) (fun j hj => ?_) ?_ (fun s hs => ?_)
          · rw [mup_r a8, mup_r (by omega), mup_r a7, mup_r (by omega)]
          · rw [mup_r (by omega), mup_r (by omega), mup_ap, if_neg (by omega), mup_r (by omega)]
          · rw [mup_ap, if_neg (by omega), mup_r (by omega), mup_r (by omega), mup_r (by omega)]
          · rw [mup_r (by omega), mup_r (by omega), mup_ap, if_pos ⟨rfl, rfl, rfl⟩, mup_ap, if_pos ⟨rfl, rfl, rfl⟩]
          · have e2 : mup (mup (mup (mup M 3 r a nv) 0 0 8 (nI 0)) 19 0 (40 * r + a) nv) 16 0 4 (nI 0) 2 s = M 2 s := by rw [mup_r (by omega), mup_r (by omega), mup_r (by omega), mup_r (by omega)]
            have e17 : mup (mup (mup (mup M 3 r a nv) 0 0 8 (nI 0)) 19 0 (40 * r + a) nv) 16 0 4 (nI 0) 17 0 = M 17 0 := by rw [mup_r (by omega), mup_r (by omega), mup_r (by omega), mup_r (by omega)]
            have e18 : mup (mup (mup (mup M 3 r a nv) 0 0 8 (nI 0)) 19 0 (40 * r + a) nv) 16 0 4 (nI 0) 18 0 = M 18 0 := by rw [mup_r (by omega), mup_r (by omega), mup_r (by omega), mup_r (by omega)]
            rw [e2, e17, e18]
            rcases I.1 s hs with y | ⟨l', n', v1, v2, v3, v4, v5, v6, v7⟩
            · exact Or.inl y
            · refine Or.inr ⟨l', n', v1, v2, v3, v4, v5, v6, fun j hj => ?_⟩
              rw [mup_r (k' := 3) (by omega), mup_r (k' := 3) (by omega), mup_r (k' := 3) (by omega), mup_ap M 3 r a nv 3 s j, mup_r (k' := 19) (k := 16) (by omega), mup_ap _ 19 0 (40 * r + a) nv 19 0 (40 * s + j), mup_r (k' := 19) (by omega), mup_r (k' := 19) (by omega)]
              by_cases u : s = r ∧ j = a
              · obtain ⟨rfl, rfl⟩ := u
                rw [if_pos ⟨rfl, rfl, rfl⟩, if_pos ⟨rfl, rfl, rfl⟩]
              · rw [if_neg (by omega), if_neg (by omega)]
                exact v7 j hj
      · refine en_X4_found _ _ (gO_i (gO_i ?_))
        refine en_X5_set _ _ _ _ (c_isRow5 (fun _ _ _ => gTn ?_) (fun h => absurd rfl (h r hr)))
        refine c_miss5 hr (fun z => ?_) (fun _ => gFe ?_)
        · rw [mup_r (by omega), w5] at z
          exact absurd z (ne_no (by omega))
        · rw [ncl (by omega), mup_r (by omega), w6]
          refine ⟨vin_i (by omega) (by omega), c_inN (by omega) (fun k hk e => absurd (by omega : k + 1 ≤ n) (h k 1 e rfl)) (fun _ => gFn ?_)⟩
          exact en_X5_found _ _ (gO_i (gO_i ⟨rfl, I.find, find_30⟩))
  · refine en_X4_set _ _ _ _ (c_isRow4 (fun r hr e => absurd e (hno r hr)) (fun _ => gFn (gO_i ?_)))
    exact en_X5_set _ _ _ _ (c_isRow5 (fun r hr e => absurd e (hno r hr)) (fun _ => gFn (gO_i ⟨rfl, I, fun _ _ => rfl⟩)))
