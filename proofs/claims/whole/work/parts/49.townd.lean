/-! READING A TOWN: the class -/
theorem CT.aF {M : Mem} {T : Nat → Nat} {v : Nat} (h : CT M 1 T) (h8 : T 1 < 8) : CT (mup (mup M 7 1 (T 1) (nI v)) 6 1 5 (nI (T 1 + 1))) 1 (addF T v) := by
  obtain ⟨⟨b1, b2, b3, b4, b5, b6, b7, b8⟩, b9⟩ := h
  have e2 : addF T v 2 = T 2 := addF_o (by omega) (by omega)
  refine ⟨⟨?_, ?_, ?_, ?_, ?_, fun p hp => ?_, fun p hp => ?_, fun q hq => ?_⟩, ?_⟩
  · rw [mup_ap, if_pos ⟨rfl, rfl, rfl⟩, addF_1]
  · rw [mup_ap, if_neg (by omega), mup_r (by omega), e2]; exact b2
  · rw [mup_ap, if_neg (by omega), mup_r (by omega), addF_o (by omega) (by omega)]; exact b3
  · rw [mup_ap, if_neg (by omega), mup_r (by omega), addF_o (by omega) (by omega)]; exact b4
  · rw [mup_ap, if_neg (by omega), mup_r (by omega), e2, b5]
    congr 1
    exact bso_cong _ (fun k _ => by rw [addF_o (by omega) (by omega)])
  · rw [addF_1] at hp
    show _ = nI (addF T v (5 + p))
    rw [mup_r (by omega), mup_ap]
    by_cases e : p = T 1
    · rw [if_pos ⟨rfl, rfl, e⟩, addF_v (by omega)]
    · rw [if_neg (by omega), addF_o (by omega) (by omega)]; exact b6 p (by omega)
  · show _ = nI (addF T v (13 + p))
    rw [mup_r (by omega), mup_r (by omega), addF_o (by omega) (by omega)]; exact b7 p hp
  · rw [e2] at hq
    obtain ⟨y1, y2, y3⟩ := b8 q hq
    exact ⟨by rw [mup_r (by omega), mup_r (by omega), addF_o (by omega) (by omega)]; exact y1, by rw [mup_r (by omega), mup_r (by omega), addF_o (by omega) (by omega)]; exact y2, by rw [mup_r (by omega), mup_r (by omega), addF_o (by omega) (by omega)]; exact y3⟩
  · rw [mup_ap, if_neg (by omega), mup_r (by omega), addF_o (by omega) (by omega)]; exact b9
theorem CT.aS {M : Mem} {T : Nat → Nat} {v : Nat} (h : CT M 1 T) (h8 : T 1 ≤ 8) (hv : v < 8) : CT (mup M 8 1 v (M 8 1 v + nI 1)) 1 (addS T v) := by
  obtain ⟨⟨b1, b2, b3, b4, b5, b6, b7, b8⟩, b9⟩ := h
  have O : ∀ j, j < 13 ∨ 21 ≤ j → addS T v j = T j := fun j hj => addS_o (by omega)
  have e1 := O 1 (by omega)
  have e2 := O 2 (by omega)
  refine ⟨⟨by rw [mup_r (by omega), e1]; exact b1, by rw [mup_r (by omega), e2]; exact b2, by rw [mup_r (by omega), O _ (by omega)]; exact b3, by rw [mup_r (by omega), O _ (by omega)]; exact b4, ?_, fun p hp => ?_, fun p hp => ?_, fun q hq => ?_⟩, by rw [mup_r (by omega), O _ (by omega)]; exact b9⟩
  · rw [mup_r (by omega), e2, b5]
    congr 1
    exact bso_cong _ (fun k _ => by rw [O _ (by omega)])
  · rw [e1] at hp
    show _ = nI (addS T v (5 + p))
    rw [mup_r (by omega), O _ (by omega)]; exact b6 p hp
  · show _ = nI (addS T v (13 + p))
    rw [mup_ap]
    by_cases e : p = v
    · rw [if_pos ⟨rfl, rfl, e⟩, e, b7 v hv, nI_add]
      unfold addS
      rw [ups_s]
    · rw [if_neg (by omega), addS_o (by omega)]; exact b7 p hp
  · rw [e2] at hq
    obtain ⟨y1, y2, y3⟩ := b8 q hq
    exact ⟨by rw [mup_r (by omega), O _ (by omega)]; exact y1, by rw [mup_r (by omega), O _ (by omega)]; exact y2, by rw [mup_r (by omega), O _ (by omega)]; exact y3⟩
theorem CT.aP {M : Mem} {T : Nat → Nat} {s v w : Nat} (h : CT M 1 T) (h8 : T 1 ≤ 8) (h24 : ∀ q, T (24 + 4 * q) = 0) : CT (mup (mup (mup (mup M 9 1 (T 2) (nI s)) 10 1 (T 2) (nI v)) 11 1 (T 2) (nI w)) 6 1 6 (nI (T 2 + 1))) 1 (addP T s v w) := by
  obtain ⟨⟨b1, b2, b3, b4, b5, b6, b7, b8⟩, b9⟩ := h
  have O : ∀ j, j < 21 → j ≠ 2 → addP T s v w j = T j := fun j y1 y2 => addP_o y2 (by omega) (by omega) (by omega)
  have U : ∀ j, j ≠ 6 → mup (mup (mup (mup M 9 1 (T 2) (nI s)) 10 1 (T 2) (nI v)) 11 1 (T 2) (nI w)) 6 1 6 (nI (T 2 + 1)) 6 1 j = M 6 1 j := fun j hj => by
    rw [mup_ap, if_neg (by omega), mup_r (by omega), mup_r (by omega), mup_r (by omega)]
  refine ⟨⟨by rw [U _ (by omega), O _ (by omega) (by omega)]; exact b1, ?_, by rw [U _ (by omega), O _ (by omega) (by omega)]; exact b3, by rw [U _ (by omega), O _ (by omega) (by omega)]; exact b4, ?_, fun p hp => ?_, fun p hp => ?_, fun q hq => ?_⟩, by rw [U _ (by omega), O _ (by omega) (by omega)]; exact b9⟩
  · rw [mup_ap, if_pos ⟨rfl, rfl, rfl⟩, addP_2]
  · rw [U _ (by omega), addP_2, b5]
    congr 1
    have e : bso (fun q => decide (addP T s v w (24 + 4 * q) = 1)) (T 2) = bso (fun q => decide (T (24 + 4 * q) = 1)) (T 2) := bso_cong _ (fun k _ => by rw [addP_o (by omega) (by omega) (by omega) (by omega)])
    have e2 : decide (addP T s v w (24 + 4 * T 2) = 1) = false := by
      rw [addP_o (by omega) (by omega) (by omega) (by omega), h24]; rfl
    show _ = bso (fun q => decide (addP T s v w (24 + 4 * q) = 1)) (T 2) + cond (decide (addP T s v w (24 + 4 * T 2) = 1)) (2 ^ T 2) 0
    rw [e, e2]
    rfl
  · rw [O 1 (by omega) (by omega)] at hp
    show _ = nI (addP T s v w (5 + p))
    rw [mup_r (by omega), mup_r (by omega), mup_r (by omega), mup_r (by omega), O _ (by omega) (by omega)]; exact b6 p hp
  · show _ = nI (addP T s v w (13 + p))
    rw [mup_r (by omega), mup_r (by omega), mup_r (by omega), mup_r (by omega), O _ (by omega) (by omega)]; exact b7 p hp
  · rw [addP_2] at hq
    by_cases e : q = T 2
    · subst e
      refine ⟨?_, ?_, ?_⟩
      · rw [mup_r (by omega), mup_r (by omega), mup_r (by omega), mup_ap, if_pos ⟨rfl, rfl, rfl⟩, addP_s rfl]
      · rw [mup_r (by omega), mup_r (by omega), mup_ap, if_pos ⟨rfl, rfl, rfl⟩, addP_v rfl]
      · rw [mup_r (by omega), mup_ap, if_pos ⟨rfl, rfl, rfl⟩, addP_w rfl]
    · obtain ⟨y1, y2, y3⟩ := b8 q (by omega)
      refine ⟨?_, ?_, ?_⟩
      · rw [mup_r (by omega), mup_r (by omega), mup_r (by omega), mup_ap, if_neg (by omega), addP_o (by omega) (by omega) (by omega) (by omega)]; exact y1
      · rw [mup_r (by omega), mup_r (by omega), mup_ap, if_neg (by omega), mup_r (by omega), addP_o (by omega) (by omega) (by omega) (by omega)]; exact y2
      · rw [mup_r (by omega), mup_ap, if_neg (by omega), mup_r (by omega), mup_r (by omega), addP_o (by omega) (by omega) (by omega) (by omega)]; exact y3
section Cd
variable {d n p : Nat} {Q : Option AV → Mem → Prop} {M0 M M' : Mem} {b T T' : Nat → Nat} {R : RR}
theorem c_readFlame {K : (Nat → Nat) → Nat → RR} (t : TPb M0 b n) (h : CP M0 n M p T) (h8 : T 1 ≤ 8) (hR : R = sFlame b T p K) (h1 : ∀ M' p' v, v ≤ 20 → T 1 < 8 → CP M0 n M' p' (addF T v) → R = K (addF T v) p' → Q (some (zI (nI 1))) M') (h0 : ∀ M', CF M0 n R M' → Q (some (zI (nI 0))) M') : wpd (d + 3) 14 [zR 4 0, zR 6 1] M Q := by
  have e5 : M 6 1 5 = nI (T 1) := h.2.2.2.2.1.1
  have go : ¬ (b p = 102 ∧ T 1 = 8) → WP (wpd (d + 2)) 2 T_X2_readFlame Q (24, [zR 4 0, zR 6 1, zU], []) M := by
    intro hn
    refine cp2_X2_readFlame_24 _ _ (c_psl t h (by omega) (hR.trans (if_neg hn)) (fun M1 x1 g1 r1 => gTn ?_) (fun M1 f => gFn ⟨z0, h0 M1 f⟩))
    have t8 : T 1 < 8 := by omega
    refine c_readNumber t g1 r1 (by omega) (by omega) (fun M2 g2 r2 u2 => gO_i ⟨fun _ => ?_, fun z => absurd z (ne_m1 (by omega))⟩) (fun M2 f => gO_i ⟨fun z => absurd rfl z, fun _ => ⟨z0, h0 M2 f⟩⟩)
    rw [show M2 6 1 5 = nI (T 1) from g2.2.2.2.2.1.1, ncl (by omega), nI_add]
    refine ⟨vin_i t8 (by omega), c_psl t (g2.tw (fun k i a => by rw [mup_r (by omega), mup_r (by omega)]) (g2.2.2.2.2.aF t8)) (by omega) r2 (fun M3 _ g3 r3 => gO_i ⟨z1, h1 _ _ _ u2 t8 g3 r3⟩) (fun M3 f => gO_i ⟨z0, h0 M3 f⟩)⟩
  refine en2_X2_readFlame _ _ (c_isNext t h (by omega) (fun x => gTe ?_) (fun x => gFe (go (fun y => x y.1))))
  rw [e5]
  refine ⟨fun y => go (fun z => y (by rw [z.2])), fun y => ?_⟩
  rw [neq (by omega) (by omega)] at y
  exact c_faultHere h (hR.trans (if_pos ⟨x, y⟩)) (by omega) (fun M' f => gO_i ⟨z0, h0 M' f⟩)
theorem c_readFlames {K : (Nat → Nat) → Nat → RR} (t : TPb M0 b n) (h1 : ∀ M' p' T', CP M0 n M' p' T' → okP 0 T' → T' 2 = 0 → 4 ≤ T' 1 → R = K T' p' → Q (some (zI (nI 1))) M') (h0 : ∀ M', CF M0 n R M' → Q (some (zI (nI 0))) M') :
    ∀ (m i : Nat) (M : Mem) (p : Nat) (T : Nat → Nat), i + m = 9 → T 1 = i → okP 0 T → T 2 = 0 → CP M0 n M p T → R = sFlames b K m T p → WP (wpd (d + 3)) 2 T_X2_readFlames Q (2, [zR 4 0, zR 6 1, zI (nI i)], []) M := by
  intro m
  induction m with
  | zero =>
    intro i M p T e1 e2 ok _ _ _
    exact absurd ok.2.1 (by omega)
  | succ m ih =>
    intro i M p T e1 e2 ok e3 h hR
    have go : ¬ (4 ≤ T 1 ∧ b p ≠ 102) → wpd (d + 3) 14 [zR 4 0, zR 6 1] M (fun r1 M1 => gO r1 fun v1 => ((¬ v1 = nI 0 → WP (wpd (d + 3)) 2 T_X2_readFlames Q (2, [zR 4 0, zR 6 1, zI (nI i + nI 1)], []) M1) ∧ (v1 = nI 0 → ((nI 0 = 0 ∨ nI 0 = 1) ∧ Q (some (zI (nI 0))) M1)))) := by
      intro hn
      refine c_readFlame t h ok.2.1 (hR.trans (if_neg hn)) (fun M' p' v hv t8 g r => gTn ?_) (fun M' f => gFn ⟨z0, h0 M' f⟩)
      obtain ⟨o1, o2⟩ := okP_F ok e3 t8 hv
      rw [nI_add]
      exact ih (i + 1) M' p' (addF T v) (by omega) (by rw [addF_1]; omega) o1 o2 g r
    refine cp_X2_readFlames_2 _ _ _ ⟨fun z => absurd ((nlt (by omega) (by omega)).mp z) (by have := ok.2.1; omega), fun _ => ⟨fun z => go ?_, fun z => ?_⟩⟩
    · rw [nlt (by omega) (by omega)] at z
      omega
    · rw [nlt (by omega) (by omega)] at z
      exact c_isNext t h (by omega) (fun x => gTn (go (fun y => y.2 x))) (fun x => gFn ⟨z1, h1 M p T h ok e3 (by omega) (hR.trans (if_pos ⟨by omega, x⟩))⟩)
theorem c_readSitters {K : (Nat → Nat) → Nat → RR} (t : TPb M0 b n) (h1 : ∀ M' p' T', CP M0 n M' p' T' → okP 5 T' → T' 2 = 0 → 4 ≤ T' 1 → R = K T' p' → Q (some (zI (nI 1))) M') (h0 : ∀ M', CF M0 n R M' → Q (some (zI (nI 0))) M') :
    ∀ (m i : Nat) (M : Mem) (p : Nat) (T : Nat → Nat), i + m = 6 → 1 ≤ m → okP i T → T 2 = 0 → 4 ≤ T 1 → CP M0 n M p T → R = sSits b K m T p → WP (wpd (d + 2)) 2 T_X2_readSitters Q (2, [zR 4 0, zR 6 1, zI (nI i), zU], []) M := by
  intro m
  induction m with
  | zero =>
    intro i M p T e1 e2
    omega
  | succ m ih =>
    intro i M p T e1 _ ok e3 t4 h hR
    have t8 := ok.2.1
    refine cp_X2_readSitters_2 _ _ _ ⟨fun z => absurd ((nlt (by omega) (by omega)).mp z) (by omega), fun _ => ?_⟩
    refine c_isNext t h (by omega) (fun x => gTe ?_) (fun x => gFe ⟨z1, h1 M p T h ?_ e3 t4 (hR.trans (if_neg x))⟩)
    · have hR2 := hR.trans (if_pos x)
      have pn := t.lt (by omega) x
      rw [neq (by omega) (by omega)]
      refine ⟨fun y => ?_, fun y => ?_⟩
      · rw [show M 6 1 5 = nI (T 1) from h.2.2.2.2.1.1, pk_sub (by omega)]
        refine c_readNumber t (h.nx (k := 1) (by omega)) (hR2.trans (if_neg (by omega))) (by omega) (by omega) (fun M2 g2 r2 u2 => gO_i ⟨fun _ => ?_, fun z => absurd z (ne_m1 (by omega))⟩) (fun M2 f => gO_i ⟨fun z => absurd rfl z, fun _ => ⟨z0, h0 M2 f⟩⟩)
        rw [ncl (by omega)]
        refine ⟨vin_i (by omega) (by omega), vin_i (by omega) (by omega), c_psl t (g2.tw (fun k i a => mup_r (by omega)) (g2.2.2.2.2.aS t8 (by omega))) (by omega) r2 (fun M3 _ g3 r3 => gTn ?_) (fun M3 f => gFn ⟨z0, h0 M3 f⟩)⟩
        rw [nI_add]
        exact ih (i + 1) M3 _ _ (by omega) (by omega) (okP_S ok (by omega)) (by rw [addS_o (by omega)]; exact e3) (by rw [addS_o (by omega)]; exact t4) g3 r3
      · exact c_faultHere h (hR2.trans (if_pos (by omega))) (by omega) (fun M' f => gO_i ⟨z0, h0 M' f⟩)
    · obtain ⟨a0, a1, a2, a3, a4, a5, a6, a7, a8⟩ := ok
      exact ⟨a0, a1, a2, a3, a4, a5, by omega, a7, a8⟩
theorem c_sortOf {c : Nat} (hc : c < 256) (h : Q (some (zI (nI (kndN c)))) M) : wpd (d + 1) 18 [zI (nI c)] M Q := by
  have E : ∀ k, k < 256 → (nI c = nI k ↔ c = k) := fun k hk => neq (by omega) (by omega)
  refine en_X2_sortOf _ _ ?_
  rw [E 97 (by omega), E 99 (by omega), E 108 (by omega), E 114 (by omega), E 119 (by omega)]
  unfold kndN at h
  refine ⟨fun z => ?_, fun z => ⟨fun y => ?_, fun y => ⟨fun x => ?_, fun x => ⟨fun w => ?_, fun w => ⟨fun u => ?_, fun u => ?_⟩⟩⟩⟩⟩
  · rw [if_pos z] at h; exact h
  · rw [if_neg z, if_neg (by omega), if_pos y] at h; exact h
  · rw [if_neg z, if_pos x] at h; exact h
  · rw [if_neg z, if_neg x, if_neg y, if_pos w] at h; exact h
  · rw [if_neg z, if_neg x, if_neg y, if_neg w, if_pos u] at h; exact h
  · rw [if_neg z, if_neg x, if_neg y, if_neg w, if_neg u] at h; exact h
theorem c_readPlayer {i : Nat} {K : (Nat → Nat) → Nat → RR} (t : TPb M0 b n) (h : CP M0 n M p T) (ok : okP i T) (t4 : 4 ≤ T 1) (hp : p < n) (hR : R = sPl b T p K) (h1 : ∀ M' p' T', okP i T' → T' 2 = T 2 + 1 → T' 1 = T 1 → CP M0 n M' p' T' → R = K T' p' → Q (some (zI (nI 1))) M') (h0 : ∀ M', CF M0 n R M' → Q (some (zI (nI 0))) M') : wpd (d + 3) 17 [zR 4 0, zR 6 1] M Q := by
  have t8 := ok.2.1
  have t6 := ok.2.2.1
  have n9 := t.1
  have bp := t.2.2.1 p hp
  refine en_X2_readPlayer _ _ ?_
  rw [h.2.1, ncl (by omega), h.2.2.2.1 5 0 (by omega) (by omega), bp.1]
  refine ⟨vin_i (by omega) (by omega), c_sortOf bp.2 (gO_i ?_)⟩
  have kb := knd_b (c := b p)
  rw [neq (by omega) (by omega)]
  refine ⟨fun z => ?_, fun z => c_faultHere h (hR.trans (if_pos z)) (by omega) (fun M' f => gO_i ⟨z0, h0 M' f⟩)⟩
  have hR2 := hR.trans (if_neg z)
  rw [show M 6 1 6 = nI (T 2) from h.2.2.2.2.1.2.1, neq (by omega) (by omega)]
  refine ⟨fun y => ?_, fun y => c_faultHere h (hR2.trans (if_pos y)) (by omega) (fun M' f => gO_i ⟨z0, h0 M' f⟩)⟩
  rw [show M 6 1 5 = nI (T 1) from h.2.2.2.2.1.1, pk_sub (by omega)]
  refine c_readNumber t (h.nx (k := 1) (by omega)) (hR2.trans (if_neg y)) (by omega) (by omega) (fun M2 g2 r2 u2 => gO_i ⟨fun z => absurd z (ne_m1 (by omega)), fun _ => ?_⟩) (fun M2 f => gO_i ⟨fun _ => ⟨z0, h0 M2 f⟩, fun z => absurd rfl z⟩)
  refine c_psl t g2 (by omega) r2 (fun M3 _ g3 r3 => gTn ?_) (fun M3 f => gFn ⟨z0, h0 M3 f⟩)
  refine c_readNumber t g3 r3 (by omega) (by omega) (fun M4 g4 r4 u4 => gO_i ⟨fun _ => ?_, fun z => absurd z (ne_m1 (by omega))⟩) (fun M4 f => gO_i ⟨fun z => absurd rfl z, fun _ => ⟨z0, h0 M4 f⟩⟩)
  refine en_X3_addPlayer _ _ _ _ _ ?_
  rw [show M4 6 1 6 = nI (T 2) from g4.2.2.2.2.1.2.1, ncl (by omega), nI_add]
  refine ⟨vin_i (by omega) (by omega), vin_i (by omega) (by omega), vin_i (by omega) (by omega), gN_i ?_⟩
  refine c_psl t (g4.tw (fun k i a => by rw [mup_r (by omega), mup_r (by omega), mup_r (by omega), mup_r (by omega)]) (g4.2.2.2.2.aP t8 ok.2.2.2.2.2.2.2.2)) (by omega) r4 (fun M5 _ g5 r5 => gO_i ⟨z1, h1 M5 _ _ (okP_P ok (by omega) (by omega) (by omega) u4) addP_2 (addP_o (by omega) (by omega) (by omega) (by omega)) g5 r5⟩) (fun M5 f => gO_i ⟨z0, h0 M5 f⟩)
theorem c_readPlayers {i : Nat} {K : (Nat → Nat) → Nat → RR} (t : TPb M0 b n) (h1 : ∀ M' p' T', CP M0 n M' p' T' → okP i T' → 4 ≤ T' 1 → R = K T' p' → Q (some (zI (nI 1))) M') (h0 : ∀ M', CF M0 n R M' → Q (some (zI (nI 0))) M') :
    ∀ (m j : Nat) (M : Mem) (p : Nat) (T : Nat → Nat), j + m = 7 → T 2 = j → okP i T → 4 ≤ T 1 → CP M0 n M p T → R = sPls b K m T p → WP (wpd (d + 3)) 2 T_X2_readPlayers Q (2, [zR 4 0, zR 6 1, zI (nI j)], []) M := by
  intro m
  induction m with
  | zero =>
    intro j M p T e1 e2 ok
    exact absurd ok.2.2.1 (by omega)
  | succ m ih =>
    intro j M p T e1 e2 ok t4 h hR
    have n9 := t.1
    have pn := h.1
    refine cp_X2_readPlayers_2 _ _ _ ⟨fun z => absurd ((nlt (by omega) (by omega)).mp z) (by have := ok.2.2.1; omega), fun _ => ?_⟩
    rw [h.2.2.1 1 (by omega), t.2.1, h.2.1, nle (by omega) (by omega)]
    refine ⟨fun z => ⟨z1, h1 M p T h ok t4 (hR.trans (if_pos (t.2.2.2 p z)))⟩, fun z => ?_⟩
    have bp := (t.2.2.1 p (by omega)).2
    refine c_readPlayer t h ok t4 (by omega) (hR.trans (if_neg (by omega))) (fun M' p' T' o1 o2 o3 g r => gTn ?_) (fun M' f => gFn ⟨z0, h0 M' f⟩)
    rw [nI_add]
    exact ih (j + 1) M' p' T' (by omega) (by omega) o1 (by omega) g r
theorem c_clear1 (hQ : ∀ M', (∀ k i, ¬ (6 ≤ k ∧ k ≤ 11 ∧ i = 1) → M' k i = M k i) → CT M' 1 z0T → Q none M') : wpd (d + 1) 28 [zR 6 1] M Q := by
  refine en_X3_clear _ _ ?_
  refine up_ind (P := fun i => ∀ M1, (∀ k i, ¬ (6 ≤ k ∧ k ≤ 11 ∧ i = 1) → M1 k i = M k i) → (∀ j, 5 ≤ j → j ≤ 11 → M1 6 1 j = nI 0) → (∀ j, j < i → M1 8 1 j = nI 0) → WP (wpd d) 0 T_X3_clear Q (37, [zR 6 1, zI (nI i)], []) M1) (n := 8) ?_ ?_ _ (fun k i a => by rw [mup_r (by omega), mup_r (by omega), mup_r (by omega), mup_r (by omega), mup_r (by omega), mup_r (by omega), mup_r (by omega)]) ?_ (fun j hj => absurd hj (by omega))
  · intro M1 f1 f2 f3
    refine cp_X3_clear_37 _ _ _ ⟨fun _ => hQ M1 f1 ⟨⟨f2 5 (by omega) (by omega), f2 6 (by omega) (by omega), f2 7 (by omega) (by omega), f2 9 (by omega) (by omega), f2 8 (by omega) (by omega), fun p hp => absurd hp (by show ¬ p < 0; omega), fun p hp => f3 p hp, fun p hp => absurd hp (by show ¬ p < 0; omega)⟩, f2 10 (by omega) (by omega)⟩, fun z => absurd ((nle (by omega) (by omega)).mpr (Nat.le_refl _)) z⟩
  · intro i hi ih M1 f1 f2 f3
    refine cp_X3_clear_37 _ _ _ ⟨fun z => absurd ((nle (by omega) (by omega)).mp z) (by omega), fun _ => ⟨vin_i (by omega) (by omega), ?_⟩⟩
    rw [nI_add, ncl (by omega)]
    refine ih _ (fun k i a => (mup_r (by omega)).trans (f1 k i a)) (fun j a1 a2 => by rw [mup_r (by omega)]; exact f2 j a1 a2) (fun j hj => ?_)
    rw [mup_ap]
    by_cases y : j = i
    · rw [if_pos ⟨rfl, rfl, y⟩]
    · rw [if_neg (by omega)]; exact f3 j (by omega)
  · intro j a1 a2
    rcases (by omega : j = 5 ∨ j = 6 ∨ j = 7 ∨ j = 8 ∨ j = 9 ∨ j = 10 ∨ j = 11) with rfl | rfl | rfl | rfl | rfl | rfl | rfl <;> simp [mup_ap]
theorem c_readLaw {K : (Nat → Nat) → Nat → RR} (t : TPb M0 b n) (h : CP M0 n M 0 z0T) (hR : R = sLit b 116 0 fun p => sNum b 1 3 p fun v p => sLit b 59 p fun p => K (ups z0T 0 v) p) (h1 : ∀ M' p' v, v ≤ 3 → CP M0 n M' p' (ups z0T 0 v) → R = K (ups z0T 0 v) p' → Q (some (zI (nI 1))) M') (h0 : ∀ M', CF M0 n R M' → Q (some (zI (nI 0))) M') : wpd (d + 3) 12 [zR 4 0, zR 6 1] M Q := by
  refine en_X2_readLaw _ _ (c_psl t h (by omega) hR (fun M1 x1 g1 r1 => gTn ?_) (fun M1 f => gFn ⟨z0, h0 M1 f⟩))
  refine c_readNumber t g1 r1 (by omega) (by omega) (fun M2 g2 r2 u2 => gO_i ?_) (fun M2 f => gO_i ?_)
  · rw [mup_ap, if_pos ⟨rfl, rfl, rfl⟩]
    refine ⟨fun z => absurd z (ne_m1 (by omega)), fun _ => ?_⟩
    refine c_psl t (g2.tw (fun k i a => mup_r (by omega)) ?_) (by omega) r2 (fun M3 _ g3 r3 => gTe ⟨z1, h1 _ _ _ u2 g3 r3⟩) (fun M3 f => gFe ⟨z0, h0 M3 f⟩)
    obtain ⟨⟨b1, b2, b3, b4, b5, b6, b7, b8⟩, b9⟩ := g2.2.2.2.2
    refine ⟨⟨?_, ?_, ?_, ?_, ?_, fun p hp => absurd hp (by show ¬ p < 0; omega), fun p hp => ?_, fun p hp => absurd hp (by show ¬ p < 0; omega)⟩, ?_⟩
    · rw [mup_ap, if_neg (by omega)]; exact b1
    · rw [mup_ap, if_neg (by omega)]; exact b2
    · rw [mup_ap, if_pos ⟨rfl, rfl, rfl⟩, ups_s]
    · rw [mup_ap, if_neg (by omega)]; exact b4
    · rw [mup_ap, if_neg (by omega)]; exact b5
    · rw [mup_r (by omega)]
      show M2 8 1 p = nI (ups z0T 0 (nvN b (0 + 1)) (13 + p))
      rw [ups_n (by omega)]
      exact b7 p hp
    · rw [mup_ap, if_neg (by omega)]; exact b9
  · rw [mup_ap, if_pos ⟨rfl, rfl, rfl⟩]
    exact ⟨fun _ => ⟨z0, h0 _ (f.tw (fun k i a => mup_r (by omega)))⟩, fun z => absurd rfl z⟩
theorem c_readInto (t : TPb M b n) (hn : 0 ≤ n) (hR : R = sTown b) (h1 : ∀ M' p' T', CP M n M' p' T' → okN T' → R = (0, p', T') → Q (some (zI (nI 1))) M') (h0 : ∀ M', CF M n R M' → Q (some (zI (nI 0))) M') : wpd (d + 5) 11 [zR 4 0, zR 6 1] M Q := by
  refine en_X2_readInto _ _ (c_clear1 (fun M1 f1 c1 => gN_i ?_))
  have h : CP M n M1 0 z0T := ⟨by omega, by rw [f1 4 0 (by omega), mup_ap, if_pos ⟨rfl, rfl, rfl⟩], fun j hj => by rw [f1 4 0 (by omega), mup_ap, if_neg (by omega)], fun k i a1 a2 => by rw [f1 k i a1, mup_r a2], c1⟩
  refine c_readLaw t h hR (fun M2 p2 v2 u2 g2 r2 => gTe ?_) (fun M2 f => gFe ⟨z0, h0 M2 f⟩)
  have ok2 : okP 0 (ups z0T 0 v2) := by
    have O : ∀ j, j ≠ 0 → ups z0T 0 v2 j = 0 := fun j hj => ups_n hj
    refine ⟨by rw [ups_s]; exact u2, by rw [O _ (by omega)]; omega, by rw [O _ (by omega)]; omega, O _ (by omega), O _ (by omega), fun p _ => by rw [O _ (by omega)]; omega, ?_, fun q hq => ?_, fun q => O _ (by omega)⟩
    · unfold sitN
      rw [sit8]
      simp only [O _ (show 13 + 0 ≠ 0 by omega), O _ (show 13 + 1 ≠ 0 by omega), O _ (show 13 + 2 ≠ 0 by omega), O _ (show 13 + 3 ≠ 0 by omega), O _ (show 13 + 4 ≠ 0 by omega), O _ (show 13 + 5 ≠ 0 by omega), O _ (show 13 + 6 ≠ 0 by omega), O _ (show 13 + 7 ≠ 0 by omega)]
      omega
    · rw [O _ (by omega)] at hq
      exact absurd hq (by omega)
  refine en_X2_readFlames _ _ (c_readFlames t (fun M3 p3 T3 g3 ok3 e3 l3 r3 => gTe ?_) (fun M3 f => gFe ⟨z0, h0 M3 f⟩) 9 0 M2 p2 _ (by omega) (ups_n (by omega)) ok2 (ups_n (by omega)) g2 r2)
  refine en_X2_readSitters _ _ (c_readSitters t (fun M4 p4 T4 g4 ok4 e4 l4 r4 => gTe ?_) (fun M4 f => gFe ⟨z0, h0 M4 f⟩) 6 0 M3 p3 T3 (by omega) (by omega) ok3 e3 l3 g3 r3)
  exact en_X2_readPlayers _ _ (c_readPlayers t (fun M5 p5 T5 g5 ok5 l5 r5 => gTe ⟨z1, h1 M5 p5 T5 g5 (okP_N ok5 l5) r5⟩) (fun M5 f => gFe ⟨z0, h0 M5 f⟩) 7 0 M4 p4 T4 (by omega) e4 ok4 l4 g4 r4)
end Cd
