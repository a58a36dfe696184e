/-! ACTS: pour, quench, move, turn -/
theorem CTx.oz {M : Mem} {t : Nat} {E O Z O' Z' : Nat → Nat} (h : CTx M t E O Z) (h8 : E 1 ≤ 8) (ho : ∀ p, p < 8 → O p = O' p) (hz : ∀ p, p < 8 → Z p = Z' p) : CTx M t E O' Z' := by
  obtain ⟨b1, b2, b3, b4, b5, b6, b7, b8⟩ := h
  exact ⟨b1, b2, b3, b4, b5, fun p hp => by rw [← ho p (by omega)]; exact b6 p hp, fun p hp => by rw [← hz p hp]; exact b7 p hp, b8⟩
section Up
variable {M : Mem} {t : Nat} {T : Nat → Nat}
theorem CT.atU {q v : Nat} (h : CT M t T) (h8 : T 1 ≤ 8) : CT (mup M 10 t q (nI v)) t (ups T (22 + 4 * q) v) := by
  refine ⟨(h.1.at).oz (by rw [ups_n (by omega)]; exact h8) (fun p hp => by rw [ups_n (by omega)]) (fun p hp => by rw [ups_n (by omega)]), ?_⟩
  rw [mup_r (by omega), ups_n (by omega)]; exact h.2
theorem CT.wyU {q v : Nat} (h : CT M t T) (h8 : T 1 ≤ 8) : CT (mup M 11 t q (nI v)) t (ups T (23 + 4 * q) v) := by
  refine ⟨(h.1.wy).oz (by rw [ups_n (by omega)]; exact h8) (fun p hp => by rw [ups_n (by omega)]) (fun p hp => by rw [ups_n (by omega)]), ?_⟩
  rw [mup_r (by omega), ups_n (by omega)]; exact h.2
theorem CT.oilU {p v : Nat} (h : CT M t T) (h8 : T 1 ≤ 8) (hp : p < 8) : CT (mup M 7 t p (nI v)) t (ups T (5 + p) v) := by
  obtain ⟨⟨b1, b2, b3, b4, b5, b6, b7, b8⟩, b9⟩ := h
  have e1 : ups T (5 + p) v 1 = T 1 := ups_n (by omega)
  have e2 : ups T (5 + p) v 2 = T 2 := ups_n (by omega)
  refine ⟨⟨by rw [mup_r (by omega), e1]; exact b1, by rw [mup_r (by omega), e2]; exact b2, by rw [mup_r (by omega), ups_n (by omega)]; exact b3, by rw [mup_r (by omega), ups_n (by omega)]; exact b4, ?_, fun r hr => ?_, fun r hr => ?_, fun q hq => ?_⟩, by rw [mup_r (by omega), ups_n (by omega)]; exact b9⟩
  · rw [mup_r (by omega), b5, e2]
    congr 1
    exact bso_cong _ (fun k _ => by rw [ups_n (by omega)])
  · rw [e1] at hr
    rw [mup_ap]
    show _ = nI (ups T (5 + p) v (5 + r))
    by_cases z : r = p
    · subst z
      rw [if_pos ⟨rfl, rfl, rfl⟩, ups_s]
    · rw [if_neg (by omega), ups_n (by omega)]; exact b6 r hr
  · rw [mup_r (by omega)]
    show _ = nI (ups T (5 + p) v (13 + r))
    rw [ups_n (by omega)]; exact b7 r hr
  · rw [e2] at hq
    rw [mup_r (by omega), mup_r (by omega), mup_r (by omega), ups_n (by omega), ups_n (by omega), ups_n (by omega)]
    exact b8 q hq
theorem okT_oil {p v : Nat} (h : okT T) (hp : p < 8) (hv : v ≤ 1000) : okT (ups T (5 + p) v) := by
  obtain ⟨o0, o1, o2, o3, o4, o5, o6, o7⟩ := h
  have e2 : ups T (5 + p) v 2 = T 2 := ups_n (by omega)
  have e1 : ups T (5 + p) v 1 = T 1 := ups_n (by omega)
  refine ⟨by rw [ups_n (by omega)]; exact o0, by rw [e1]; exact o1, by rw [e1]; exact o2, by rw [e2]; exact o3, by rw [ups_n (by omega)]; exact o4, fun r hr => ?_, fun r hr => ?_, fun q hq => ?_⟩
  · by_cases z : r = p
    · subst z; rw [ups_s]; exact hv
    · rw [ups_n (by omega)]; exact o5 r hr
  · rw [ups_n (by omega), e2, sumN_c (T 2) (f := fun q => ups T (5 + p) v (24 + 4 * q)) (g := fun q => T (24 + 4 * q)) (fun k _ => ups_n (by omega))]
    exact o6 r hr
  · rw [e2] at hq
    rw [e1, ups_n (by omega), ups_n (by omega), ups_n (by omega), ups_n (by omega)]
    exact o7 q hq
theorem okT_at {q v : Nat} (h : okT T) (hv : v < T 1) : okT (ups T (22 + 4 * q) v) := by
  obtain ⟨o0, o1, o2, o3, o4, o5, o6, o7⟩ := h
  have e2 : ups T (22 + 4 * q) v 2 = T 2 := ups_n (by omega)
  have e1 : ups T (22 + 4 * q) v 1 = T 1 := ups_n (by omega)
  refine ⟨by rw [ups_n (by omega)]; exact o0, by rw [e1]; exact o1, by rw [e1]; exact o2, by rw [e2]; exact o3, by rw [ups_n (by omega)]; exact o4, fun r hr => by rw [ups_n (by omega)]; exact o5 r hr, fun r hr => ?_, fun r hr => ?_⟩
  · rw [ups_n (by omega), e2, sumN_c (T 2) (f := fun r => ups T (22 + 4 * q) v (24 + 4 * r)) (g := fun r => T (24 + 4 * r)) (fun k _ => ups_n (by omega))]
    exact o6 r hr
  · rw [e2] at hr
    rw [e1, ups_n (show 21 + 4 * r ≠ 22 + 4 * q by omega), ups_n (show 23 + 4 * r ≠ 22 + 4 * q by omega), ups_n (show 24 + 4 * r ≠ 22 + 4 * q by omega)]
    obtain ⟨a1, a2, a3, a4, a5⟩ := o7 r hr
    refine ⟨a1, a2, ?_, a4, a5⟩
    by_cases z : r = q
    · subst z; rw [ups_s]; exact hv
    · rw [ups_n (by omega)]; exact a3
theorem okT_wy {q v : Nat} (h : okT T) (hv : v ≤ 1) : okT (ups T (23 + 4 * q) v) := by
  obtain ⟨o0, o1, o2, o3, o4, o5, o6, o7⟩ := h
  have e2 : ups T (23 + 4 * q) v 2 = T 2 := ups_n (by omega)
  have e1 : ups T (23 + 4 * q) v 1 = T 1 := ups_n (by omega)
  refine ⟨by rw [ups_n (by omega)]; exact o0, by rw [e1]; exact o1, by rw [e1]; exact o2, by rw [e2]; exact o3, by rw [ups_n (by omega)]; exact o4, fun r hr => by rw [ups_n (by omega)]; exact o5 r hr, fun r hr => ?_, fun r hr => ?_⟩
  · rw [ups_n (by omega), e2, sumN_c (T 2) (f := fun r => ups T (23 + 4 * q) v (24 + 4 * r)) (g := fun r => T (24 + 4 * r)) (fun k _ => ups_n (by omega))]
    exact o6 r hr
  · rw [e2] at hr
    rw [e1, ups_n (show 21 + 4 * r ≠ 23 + 4 * q by omega), ups_n (show 22 + 4 * r ≠ 23 + 4 * q by omega), ups_n (show 24 + 4 * r ≠ 23 + 4 * q by omega)]
    obtain ⟨a1, a2, a3, a4, a5⟩ := o7 r hr
    refine ⟨a1, a2, a3, ?_, a5⟩
    by_cases z : r = q
    · subst z; rw [ups_s]; exact hv
    · rw [ups_n (by omega)]; exact a4
end Up
/-- an act's end, on both sides -/
theorem act_end {M M2 M4 : Mem} {n' s' : Nat} {H' : Nat → Nat → Nat} {T' : Nat → Nat} (I : Inv M) (hn : n' ≤ 24) (hs : s' < 24) (hH : ∀ i, i < n' → okN (H' i)) (hT : okN T')
    (c1 : ∀ k i, ¬ (6 ≤ k ∧ k ≤ 11 ∧ (i = 0 ∨ i = 1 ∨ 4 ≤ i)) → ¬ (k = 13 ∧ i = 0) → M2 k i = M k i) (c2 : CT M2 0 T') (c3 : CA M2 n' s' H')
    (m1 : ∀ k i, ¬ (k = 25 ∧ i = 0) → ¬ (k = 16 ∧ i = 0) → ¬ (k = 22) → ¬ (k = 28) → M4 k i = M2 k i) (m2 : ∀ j, j ≠ 18 → M4 16 0 j = M2 16 0 j) (m3 : MT M4 0 T') (m4 : MA M4 n' H') : Inv M4 ∧ ∀ k, 30 ≤ k → M4 k = M k := by
  refine I.act (fun k i y1 y2 y3 y4 y5 y6 => by rw [m1 k i y4 y6 y3 y5]; exact c1 k i y1 y2) (fun j hj => by rw [m2 j hj, c1 16 0 (by omega) (by omega)]) ⟨T', Or.inr hT, c2.fr (fun k y1 y2 => m1 k 0 (by omega) (by omega) (by omega) (by omega)), m3⟩ ?_
  exact IActs.mk hn hs hH (c3.fr (m1 13 0 (by omega) (by omega) (by omega) (by omega)) (fun k i y1 y2 _ => m1 k i (by omega) (by omega) (by omega) (by omega))) m4
theorem c_hasCr5 {d : Nat} {Q : Option AV → Mem → Prop} {M : Mem} {T : Nat → Nat} {q : Nat} (hm : MT M 0 T) (hq : q < 6) (hc : T (24 + 4 * q) ≤ 1) (h1 : T (24 + 4 * q) = 1 → Q (some (zI (nI 1))) M) (h0 : T (24 + 4 * q) = 0 → Q (some (zI (nI 0))) M) : wpd (d + 1) 141 [zR 16 0, zI (nI q)] M Q := by
  refine en_X5_hasCrossed _ _ ?_
  rw [pk_mul, nI_add, nI_add, show 21 + 4 * q + 3 = 24 + 4 * q by omega, ncl (by omega), hm _ (by omega)]
  refine ⟨vin_i (by omega) (by omega), ?_⟩
  rcases (by omega : T (24 + 4 * q) = 0 ∨ T (24 + 4 * q) = 1) with z | z
  · rw [z]; exact ⟨fun _ => ⟨z0, h0 z⟩, fun y => absurd y c01⟩
  · rw [z]; exact ⟨fun y => absurd rfl y, fun _ => ⟨z1, h1 z⟩⟩
theorem pr_pour (p1 p2 : Int32) : PR 62 153 [zR 0 0, zI p1, zI p2] [zR 16 0, zI p1, zI p2] := by
  intro M I
  obtain ⟨T, hg, hc, hm⟩ := I.2.2.2.2.2.1
  obtain ⟨n, s, H, hn, hs, hH, ca, ma⟩ := I.2.2.2.2.2.2.1.cm
  have hb := hg.b
  have bad : (∀ k, k < T 1 → p1 ≠ nI k) ∨ ¬ (nI 1 ≤ p2 ∧ p2 ≤ nI 20) → wpd 40 153 [zR 16 0, zI p1, zI p2] M (fun r' M2 => gO r' fun v' => (-1000001 : Int32) = v' ∧ Inv M2 ∧ ∀ k, 30 ≤ k → M2 k = M k) := by
    intro h
    have B : gO (some (zI (-1000001))) fun v' => (-1000001 : Int32) = v' ∧ Inv M ∧ ∀ k, 30 ≤ k → M k = M k := gO_i ⟨rfl, I, fun _ _ => rfl⟩
    refine en_X5_pour _ _ _ (c_isPlace5 (hm 1 (by omega)) hb.1 (fun k hk e => gTe ?_) (fun _ => gFe B))
    refine c_in (fun y1 y2 => ?_) (fun _ => gFn B)
    rcases h with h | h
    · exact absurd e (h k hk)
    · exact absurd ⟨y1, y2⟩ h
  refine en_X4_pour _ _ _ (c_hasPlace hc.1.1 hb.1 (fun p hp e => gTe ?_) (fun h => gFe (gO_i (bad (Or.inl h)))))
  refine ⟨fun z => gO_i (bad (Or.inr (fun y => Int32.not_le.mpr z y.1))), fun z => ⟨fun z2 => ?_, fun z2 => gO_i (bad (Or.inr (fun y => z2 y.2)))⟩⟩
  have hN := hg.n (by omega)
  have q1 : nI 1 ≤ p2 := Int32.not_lt.mp z
  obtain ⟨m, hm20, rfl⟩ := nI_of2 (x := p2) (M := nI 20) (n := 20) (by decide) (fun y => z (Int32.lt_of_lt_of_le y (by decide))) z2
  subst e
  have ho := hN.1.o p (by omega)
  refine c_keep ca hn hs hc hb.1 hb.2 (fun M1 f1 f2 => gN_i ?_)
  have hc1 : CT M1 0 T := hc.fr (fun k y1 y2 => f1 k 0 (by omega) (by omega))
  have e1 : M1 7 0 p = nI (T (5 + p)) := hc1.1.2.2.2.2.2.1 p hp
  refine en_X3_addOil _ _ _ _ ⟨vin_i (by omega) (by omega), vin_i (by omega) (by omega), gN_i ?_⟩
  rw [ncl (by omega), e1, nI_add, min_if (by omega) (by omega)]
  refine ⟨vin_i (by omega) (by omega), gO_i ?_⟩
  rw [mup_ap, if_pos ⟨rfl, rfl, rfl⟩]
  have hc2 := hc1.oilU (p := p) (v := min (T (5 + p) + m) 20) hb.1 (by omega)
  have fr2 : ∀ k i, ¬ (6 ≤ k ∧ k ≤ 11 ∧ (i = 0 ∨ i = 1 ∨ 4 ≤ i)) → ¬ (k = 13 ∧ i = 0) → mup M1 7 0 p (nI (min (T (5 + p) + m) 20)) k i = M k i := fun k i y1 y2 => by rw [mup_r (by omega)]; exact f1 k i (by omega) y2
  have ca2 : CA (mup M1 7 0 p (nI (min (T (5 + p) + m) 20))) (pn n) ((s + 1) % 24) (pH n H T) := f2.fr (mup_r (by omega)) (fun k i _ _ y => mup_r (by omega))
  have hm2 : MT (mup M1 7 0 p (nI (min (T (5 + p) + m) 20))) 0 T := fun j hj => by rw [fr2 22 0 (by omega) (by omega)]; exact hm j hj
  have ma2 : MA (mup M1 7 0 p (nI (min (T (5 + p) + m) 20))) n H := ma.fr (by rw [fr2 16 0 (by omega) (by omega)]) (fr2 25 0 (by omega) (by omega))
  generalize mup M1 7 0 p (nI (min (T (5 + p) + m) 20)) = M2 at *
  refine en_X5_pour _ _ _ (c_isPlace5 (hm2 1 (by omega)) hb.1 (fun _ _ _ => gTe ?_) (fun h => absurd rfl (h p hp)))
  refine c_in (fun _ _ => gTn ?_) (fun y => absurd ⟨q1, z2⟩ y)
  refine m_notes ma2 hn hm2 (fun M3 g1 g2 g3 => gN_i ?_)
  have hm3 : MT M3 0 T := fun j hj => by rw [g1 22 0 (by omega) (by omega)]; exact hm2 j hj
  rw [nI_add, ncl (by omega), hm3 (5 + p) (by omega), nI_add]
  refine ⟨vin_i (by omega) (by omega), c_lesser (gO_i ⟨vin_i (by omega) (by omega), vin_i (by omega) (by omega), gO_i ?_⟩)⟩
  rw [min_if (by omega) (by omega), mup_ap, if_pos ⟨rfl, rfl, rfl⟩, Nat.min_comm 20]
  refine ⟨rfl, act_end I (pn_le n) (Nat.mod_lt _ (by omega)) (pH_ok hn hH hN) ⟨okT_oil hN.1 (by omega) (by omega), by rw [ups_n (by omega)]; exact hN.2.1, okX_oil hN.2.2 (by omega) (by omega)⟩ fr2 hc2 ca2 (fun k i y1 y2 y3 y4 => by rw [mup_r (by omega)]; exact g1 k i y1 y2) (fun j hj => by rw [mup_r (by omega)]; exact g2 j hj) hm3.up (g3.fr (by rw [mup_r (by omega)]) (mup_r (by omega)))⟩
theorem pr_quench (p1 : Int32) : PR 63 154 [zR 0 0, zI p1] [zR 16 0, zI p1] := by
  intro M I
  obtain ⟨T, hg, hc, hm⟩ := I.2.2.2.2.2.1
  obtain ⟨n, s, H, hn, hs, hH, ca, ma⟩ := I.2.2.2.2.2.2.1.cm
  have hb := hg.b
  rcases num_or p1 (T 1) with ⟨p, hp, rfl⟩ | hno
  · have hN := hg.n (by omega)
    have ho := hN.1.o p (by omega)
    have e1 : M 7 0 p = nI (T (5 + p)) := hc.1.2.2.2.2.2.1 p hp
    refine en_X4_quench _ _ (c_hasPlace hc.1.1 hb.1 (fun _ _ _ => gTn ?_) (fun h => absurd rfl (h p hp)))
    rw [ncl (by omega), e1]
    refine ⟨vin_i (by omega) (by omega), fun z => ?_, fun z => gO_i ?_⟩
    · refine c_keep ca hn hs hc hb.1 hb.2 (fun M1 f1 f2 => gN_i ⟨vin_i (by omega) (by omega), gO_i ?_⟩)
      have hc1 : CT M1 0 T := hc.fr (fun k y1 y2 => f1 k 0 (by omega) (by omega))
      have hc2 := hc1.oilU (p := p) (v := 0) hb.1 (by omega)
      have fr2 : ∀ k i, ¬ (6 ≤ k ∧ k ≤ 11 ∧ (i = 0 ∨ i = 1 ∨ 4 ≤ i)) → ¬ (k = 13 ∧ i = 0) → mup M1 7 0 p (nI 0) k i = M k i := fun k i y1 y2 => by rw [mup_r (by omega)]; exact f1 k i (by omega) y2
      have ca2 : CA (mup M1 7 0 p (nI 0)) (pn n) ((s + 1) % 24) (pH n H T) := f2.fr (mup_r (by omega)) (fun k i _ _ y => mup_r (by omega))
      have hm2 : MT (mup M1 7 0 p (nI 0)) 0 T := fun j hj => by rw [fr2 22 0 (by omega) (by omega)]; exact hm j hj
      have ma2 : MA (mup M1 7 0 p (nI 0)) n H := ma.fr (by rw [fr2 16 0 (by omega) (by omega)]) (fr2 25 0 (by omega) (by omega))
      generalize mup M1 7 0 p (nI 0) = M2 at *
      refine en_X5_quench _ _ (c_isPlace5 (hm2 1 (by omega)) hb.1 (fun _ _ _ => gTn ?_) (fun h => absurd rfl (h p hp)))
      rw [nI_add, ncl (by omega), hm2 (5 + p) (by omega)]
      refine ⟨vin_i (by omega) (by omega), fun _ => ?_, fun y => absurd y z⟩
      refine m_notes ma2 hn hm2 (fun M3 g1 g2 g3 => gN_i ⟨vin_i (by omega) (by omega), gO_i ⟨rfl, ?_⟩⟩)
      have hm3 : MT M3 0 T := fun j hj => by rw [g1 22 0 (by omega) (by omega)]; exact hm2 j hj
      exact act_end I (pn_le n) (Nat.mod_lt _ (by omega)) (pH_ok hn hH hN) ⟨okT_oil hN.1 (by omega) (by omega), by rw [ups_n (by omega)]; exact hN.2.1, okX_oil hN.2.2 (by omega) (by omega)⟩ fr2 hc2 ca2 (fun k i y1 y2 y3 y4 => by rw [mup_r (by omega)]; exact g1 k i y1 y2) (fun j hj => by rw [mup_r (by omega)]; exact g2 j hj) hm3.up (g3.fr (by rw [mup_r (by omega)]) (mup_r (by omega)))
    · refine en_X5_quench _ _ (c_isPlace5 (hm 1 (by omega)) hb.1 (fun _ _ _ => gTn ?_) (fun h => absurd rfl (h p hp)))
      rw [nI_add, ncl (by omega), hm (5 + p) (by omega)]
      exact ⟨vin_i (by omega) (by omega), fun y => absurd z y, fun _ => gO_i ⟨rfl, I, fun _ _ => rfl⟩⟩
  · refine en_X4_quench _ _ (c_hasPlace hc.1.1 hb.1 (fun k hk e => absurd e (hno k hk)) (fun _ => gFn (gO_i ?_)))
    exact en_X5_quench _ _ (c_isPlace5 (hm 1 (by omega)) hb.1 (fun k hk e => absurd e (hno k hk)) (fun _ => gFn (gO_i ⟨rfl, I, fun _ _ => rfl⟩)))
