/-! READING A TOWN: the reference -/
section Mr
variable {d n p s : Nat} {Q : Option AV → Mem → Prop} {M0 M M' : Mem} {b T T' : Nat → Nat} {R : RR}
theorem RF.dr {j : Nat} {v : Int32} (h : RF M0 R M) : RF M0 R (mup M 22 1 j v) := by
  obtain ⟨k, p, r, k1, k3, hp, f, h7, h8⟩ := h
  exact ⟨k, p, r, k1, k3, hp, ⟨fun k i y1 y2 => by rw [mup_r y2]; exact f.1 k i y1 y2, fun j hj => by rw [mup_r (by omega)]; exact f.2 j hj⟩, by rw [mup_r (by omega)]; exact h7, by rw [mup_r (by omega)]; exact h8⟩
theorem RS.tw (h : RS M0 b n M p T s) (f : ∀ k i, ¬ (k = 22 ∧ i = 1) → M' k i = M k i) (g : MT M' 1 T') : RS M0 b n M' p T' s := by
  obtain ⟨h1, h2, h3, h4, h5, h6, h7⟩ := h
  have e := f 16 0 (by omega)
  refine ⟨h1, ⟨fun k i y1 y2 => by rw [f k i y2]; exact h2.1 k i y1 y2, fun j hj => by rw [e]; exact h2.2 j hj⟩, by rw [e]; exact h3, by rw [e]; exact h4, by rw [e]; exact h5, ?_, g⟩
  unfold TOK
  rw [e]
  exact h6
theorem RS.sa (h : RS M0 b n M p T s) : RS M0 b n (mup M 16 0 13 (nI (s + 1))) p T (s + 1) := by
  obtain ⟨h1, h2, h3, h4, h5, h6, h7⟩ := h
  have e : ∀ j, j ≠ 13 → mup M 16 0 13 (nI (s + 1)) 16 0 j = M 16 0 j := fun j hj => by rw [mup_ap, if_neg (by omega)]
  refine ⟨h1, ⟨fun k i y1 y2 => by rw [mup_r y1]; exact h2.1 k i y1 y2, fun j hj => by rw [e j (by omega)]; exact h2.2 j hj⟩, by rw [e 7 (by omega)]; exact h3, by rw [e 8 (by omega)]; exact h4, by rw [mup_ap, if_pos ⟨rfl, rfl, rfl⟩], ?_, fun j hj => by rw [mup_r (by omega)]; exact h7 j hj⟩
  unfold TOK
  rw [e 10 (by omega), e 11 (by omega), e 12 (by omega), e 9 (by omega)]
  exact h6
theorem m_wellY (h : M 16 0 8 = -1) (hQ : Q (some (zI (nI 1))) M) : wpd (d + 1) 127 [zR 16 0] M Q := by
  refine en_X5_isWell _ ?_
  rw [h]
  exact ⟨fun z => absurd z (by decide), fun _ => ⟨z1, hQ⟩⟩
theorem m_wellN (h : RF M0 R M) (hQ : Q (some (zI (nI 0))) M) : wpd (d + 1) 127 [zR 16 0] M Q := by
  obtain ⟨k, p, r, k1, k3, hp, f, h7, h8⟩ := h
  refine en_X5_isWell _ ?_
  rw [h8]
  exact ⟨fun _ => ⟨z0, hQ⟩, fun z => absurd ((nle (by omega) (by omega)).mpr (by omega)) z⟩
theorem nw_takes {x y : Int32} (h : RF M0 R M) (hQ : Q (some (zI (nI 0))) M) : wpd (d + 2) 128 [zR 16 0, zI x, zI y] M Q := en_X5_takes _ _ _ (m_wellN h (gFn hQ))
theorem nw_figure {x y : Int32} (h : RF M0 R M) (hQ : Q (some (zI (nI 0))) M) : wpd (d + 3) 129 [zR 16 0, zI x, zI y] M Q :=
  en_X5_figure _ _ _ (m_wellN h (gFe (c_in (fun _ _ => gO_i (nw_takes h (gO_i hQ))) (fun _ => gO_i (nw_takes h (gO_i hQ))))))
theorem nw_follows {x y : Int32} (h : RF M0 R M) (hQ : Q (some (zI (nI 0))) M) : wpd (d + 4) 131 [zR 16 0, zI x, zI y] M Q :=
  en_X5_follows _ _ _ ⟨fun _ => nw_takes h (gO_i (nw_figure h (gO_i hQ))), fun _ => nw_takes h (gO_i (nw_figure h (gO_i hQ)))⟩
theorem nw_must {x : Int32} (h : RF M0 R M) (hQ : Q none M) : wpd (d + 2) 135 [zR 16 0, zI x] M Q := en_X5_must _ _ (m_wellN h (gFe hQ))
theorem ln_n (t : TPm M0 b n) (hp : p ≤ n) : p + lnN b p ≤ n := by
  unfold lnN
  by_cases e : dgB (b p) = true
  · rw [if_pos e]; exact fg_n t.2.2.2 hp
  · rw [if_neg e]
    by_cases e2 : b p = 256
    · rw [if_pos e2]; omega
    · rw [if_neg e2]
      rcases Nat.lt_or_ge p n with y | y
      · omega
      · exact absurd (t.2.2.2 p y) e2
theorem m_takesY {x : Int32} (t : TPm M0 b n) (h : RS M0 b n M p T s) (hg : fgN b p ≠ 3) (hQ : ∀ M', RS M0 b n M' (p + lnN b p) T s → Q (some (zI (vlN b p))) M') : wpd (d + 3) 128 [zR 16 0, zI (nI 1), zI x] M Q := by
  obtain ⟨h1, h2, h3, h4, h5, h6, h7⟩ := h
  refine en_X5_takes _ _ _ (m_wellY h4 (gTn ⟨fun _ => ?_, fun z => absurd z c10⟩))
  rw [h6.2.2.1]
  refine m_advances t (ln_n t h1) h2 (h6.2.2.2 hg) (fun M' a k => gN_i (hQ M' ⟨ln_n t h1, h2.ad a, by rw [a.2 7 (by omega) (by omega) (by omega) (by omega)]; exact h3, by rw [a.2 8 (by omega) (by omega) (by omega) (by omega)]; exact h4, by rw [a.2 13 (by omega) (by omega) (by omega) (by omega)]; exact h5, k, fun j hj => by rw [a.1 22 1 (by omega)]; exact h7 j hj⟩))
theorem m_takesN {k : Nat} (t : TPm M0 b n) (h : RS M0 b n M p T s) (hR : R = (k, p, z0T)) (hk : 1 ≤ k ∧ k ≤ 3) (hQ : ∀ M', RF M0 R M' → Q (some (zI (nI 0))) M') : wpd (d + 3) 128 [zR 16 0, zI (nI 0), zI (nI k)] M Q := by
  obtain ⟨h1, h2, h3, h4, h5, h6, h7⟩ := h
  have n9 := t.1
  refine en_X5_takes _ _ _ (m_wellY h4 (gTn ⟨fun z => absurd rfl z, fun _ => hQ _ ⟨k, p, hR, hk.1, hk.2, by omega, ⟨fun k i y1 y2 => by rw [mup_r y1, mup_r y1]; exact h2.1 k i y1 y2, fun j hj => by rw [mup_ap, if_neg (by omega), mup_ap, if_neg (by omega)]; exact h2.2 j hj⟩, by rw [mup_ap, if_pos ⟨rfl, rfl, rfl⟩], ?_⟩⟩))
  rw [mup_ap, if_neg (by omega), mup_ap, if_pos ⟨rfl, rfl, rfl⟩]
  exact h6.1
theorem tk_4 : tkN b p = 4 ↔ b p = 59 := by
  unfold tkN
  constructor
  · intro h
    by_cases e : b p = 59
    · exact e
    · exfalso
      revert h
      repeat' split
      all_goals omega
  · intro h
    rw [h]; rfl
theorem tk_3 : tkN b p = 3 ↔ b p = 44 := by
  unfold tkN
  constructor
  · intro h
    by_cases e : b p = 44
    · exact e
    · exfalso
      revert h
      repeat' split
      all_goals omega
  · intro h
    rw [h]; rfl
theorem tk_0 : tkN b p = 0 ↔ b p = 256 := by
  unfold tkN
  constructor
  · intro h
    by_cases e : b p = 256
    · exact e
    · exfalso
      revert h
      repeat' split
      all_goals omega
  · intro h
    rw [if_pos h]
theorem tk_5 : tkN b p ≤ 5 := by
  unfold tkN
  repeat' split
  all_goals omega
theorem tk_2 : tkN b p = 2 ↔ fgN b p ≠ 0 ∧ fgN b p ≠ 3 := by
  rw [Ne, fg_0]
  unfold tkN
  by_cases e : dgB (b p) = true
  · have nb : ¬ b p = 256 := fun z => by rw [dg_256 z] at e; exact absurd e (by decide)
    rw [if_neg nb, if_pos e, e]
    by_cases e3 : fgN b p = 3
    · rw [if_pos e3]
      exact ⟨fun z => absurd z (by omega), fun z => absurd e3 z.2⟩
    · rw [if_neg e3]
      exact ⟨fun _ => ⟨by decide, e3⟩, fun _ => rfl⟩
  · have ef : dgB (b p) = false := by revert e; cases dgB (b p) <;> simp
    constructor
    · intro h
      exfalso
      revert h
      repeat' split
      all_goals first | omega | exact absurd ef (by simp_all)
    · intro h
      exact absurd ef h.1
/-- a letter: token and value -/
theorem tk_1 {c : Nat} (hc : 97 ≤ c ∧ c ≤ 122) : (tkN b p = 1 ∧ vlN b p = nI c) ↔ b p = c := by
  constructor
  · rintro ⟨h, g⟩
    unfold tkN at h
    by_cases e1 : b p = 256
    · rw [if_pos e1] at h; omega
    · rw [if_neg e1] at h
      by_cases e2 : dgB (b p) = true
      · rw [if_pos e2] at h
        by_cases e3 : fgN b p = 3
        · rw [if_pos e3] at h; omega
        · rw [if_neg e3] at h; omega
      · rw [if_neg e2] at h
        by_cases e3 : 97 ≤ b p ∧ b p ≤ 122
        · unfold vlN at g
          rw [if_neg e1, if_neg e2, neq (by omega) (by omega)] at g
          exact g
        · rw [if_neg e3] at h
          exfalso
          revert h
          repeat' split
          all_goals omega
  · intro h
    have e2 : ¬ dgB (b p) = true := by rw [h, dgB_t]; omega
    unfold tkN vlN
    rw [if_neg (by omega), if_neg e2, if_pos (by omega), if_neg (by omega), if_neg e2, h]
    exact ⟨rfl, rfl⟩
theorem ln_1 {c : Nat} (h : b p = c) (hc : dgB c = false) (h6 : c < 256) : lnN b p = 1 ∧ fgN b p ≠ 3 := by
  have e2 : ¬ dgB (b p) = true := by rw [h, hc]; decide
  have e3 : fgN b p = 0 := fg_0.mpr (by rw [h]; exact hc)
  unfold lnN
  rw [if_neg e2, if_neg (by omega)]
  exact ⟨rfl, by omega⟩
theorem m_lit {c k : Nat} {K : Nat → RR} (t : TPm M0 b n) (h : RS M0 b n M p T s) (hk : tkN b p = k ↔ b p = c) (h5 : k ≤ 5) (hc : dgB c = false) (h6 : c < 256) (hR : R = sLit b c p K) (h1 : ∀ v M', RS M0 b n M' (p + 1) T s → R = K (p + 1) → Q (some (zI v)) M') (h0 : ∀ M', RF M0 R M' → Q (some (zI (nI 0))) M') :
    (¬ M 16 0 11 = nI k → wpd (d + 3) 128 [zR 16 0, zI (nI 0), zI (nI 1)] M Q) ∧ (M 16 0 11 = nI k → wpd (d + 3) 128 [zR 16 0, zI (nI 1), zI (nI 1)] M Q) := by
  have k5 := tk_5 (b := b) (p := p)
  rw [h.2.2.2.2.2.1.2.1, neq (by omega) (by omega), hk]
  refine ⟨fun z => m_takesN t h (hR.trans (if_neg z)) (by omega) h0, fun z => ?_⟩
  obtain ⟨l1, l3⟩ := ln_1 z hc h6
  refine m_takesY t h l3 (fun M' g => ?_)
  rw [l1] at g
  exact h1 _ M' g (hR.trans (if_pos z))
theorem m_figure {lo hi : Nat} {K : Nat → Nat → RR} (t : TPm M0 b n) (h : RS M0 b n M p T s) (hR : R = sNum b lo hi p K) (hl : lo ≤ 100) (hh : hi ≤ 100) (h1 : ∀ M', RS M0 b n M' (p + fgN b p) T s → R = K (nvN b p) (p + fgN b p) → nvN b p ≤ hi → Q (some (zI (nI (nvN b p)))) M') (h0 : ∀ M', RF M0 R M' → Q (some (zI (nI 0))) M') : wpd (d + 4) 129 [zR 16 0, zI (nI lo), zI (nI hi)] M Q := by
  have k5 := tk_5 (b := b) (p := p)
  have f3 := fg_3 (b := b) (p := p)
  refine en_X5_figure _ _ _ (m_wellY h.2.2.2.1 (gTe ?_))
  rw [h.2.2.2.2.2.1.2.1, neq (by omega) (by omega), tk_2]
  refine ⟨fun z => ?_, fun z => m_takesN t h (hR.trans (if_pos (by omega))) (by omega) (fun M' g => gO_i (h0 M' g))⟩
  have hR2 := hR.trans (if_neg (by omega))
  have nv := nv_le z.1
  have e : dgB (b p) = true := by
    have := z.1
    rw [Ne, fg_0] at this
    revert this
    cases dgB (b p) <;> simp
  have nb : ¬ b p = 256 := fun z => by rw [dg_256 z] at e; exact absurd e (by decide)
  have ev : vlN b p = nI (nvN b p) := by
    unfold vlN
    rw [if_neg nb, if_pos e]
  have el : lnN b p = fgN b p := by
    unfold lnN
    rw [if_pos e]
  rw [h.2.2.2.2.2.1.2.2.1, ev]
  refine c_in (fun y1 y2 => gO_i ?_) (fun y => gO_i ?_)
  · rw [nle (by omega) (by omega)] at y1 y2
    refine m_takesY t h z.2 (fun M' g => gO_i ?_)
    rw [el] at g
    rw [ev]
    exact h1 M' g (hR2.trans (if_neg (by omega))) y2
  · rw [nle (by omega) (by omega), nle (by omega) (by omega)] at y
    exact m_takesN t h (hR2.trans (if_pos (by omega))) (by omega) (fun M' g => gO_i (h0 M' g))
/-! one flame -/
theorem nw_fl73 {x1 x2 : Int32} (h : RF M0 R M) (hQ : Q none M) : WP (wpd (d + 1)) 0 T_X5_readsFlame Q (73, [zR 16 0, zI x1, zI x2], []) M := cp2_X5_readsFlame_73 _ _ _ (m_wellN h (gFe hQ))
theorem nw_fl54 {x1 x2 : Int32} (h : RF M0 R M) (hQ : Q none M) : WP (wpd (d + 2)) 0 T_X5_readsFlame Q (54, [zR 16 0, zI x1, zI x2], []) M :=
  cp2_X5_readsFlame_54 _ _ _ ⟨fun _ => nw_takes h (gO_i (nw_fl73 h hQ)), fun _ => nw_takes h (gO_i (nw_fl73 h hQ))⟩
theorem nw_fl22 (h : RF M0 R M) (hQ : Q none M) : WP (wpd (d + 3)) 0 T_X5_readsFlame Q (22, [zR 16 0, zU, zU], []) M := by
  refine cp2_X5_readsFlame_22 _ ⟨vin_i (by omega) (by omega), fun _ => ?_, fun _ => ⟨vin_i (by omega) (by omega), ?_⟩⟩
  · exact cp2_X5_readsFlame_46 _ _ (nw_figure h (gO_i (nw_fl54 h hQ)))
  · exact cp2_X5_readsFlame_46 _ _ (nw_figure h (gO_i (nw_fl54 h hQ)))
theorem m_readsFlame {K : (Nat → Nat) → Nat → RR} (t : TPm M0 b n) (h : RS M0 b n M p T s) (h8 : T 1 ≤ 8) (x : b p = 102) (hR : R = sFlame b T p K) (h1 : ∀ M' p' v, v ≤ 20 → T 1 < 8 → RS M0 b n M' p' (addF T v) s → R = K (addF T v) p' → Q none M') (h0 : ∀ M', RF M0 R M' → Q none M') : wpd (d + 5) 132 [zR 16 0] M Q := by
  have e1 : M 22 1 1 = nI (T 1) := h.2.2.2.2.2.2 1 (by omega)
  refine en2_X5_readsFlame _ ⟨vin_i (by omega) (by omega), ?_⟩
  rw [e1, nle (by omega) (by omega)]
  refine ⟨fun z => m_takesN t h (hR.trans (if_pos ⟨x, by omega⟩)) (by omega) (fun M1 g => gO_i (nw_fl22 g (h0 M1 g))), fun z => ?_⟩
  have hR2 : R = sNum b 0 20 (p + 1) fun v p => sLit b 59 p fun p => K (addF T v) p := (hR.trans (if_neg (by omega))).trans (if_pos x)
  obtain ⟨l1, l3⟩ := ln_1 x (by decide) (by omega)
  refine m_takesY t h l3 (fun M1 g1 => gO_i ?_)
  rw [l1] at g1
  refine cp2_X5_readsFlame_22 _ ⟨vin_i (by omega) (by omega), ?_⟩
  rw [show M1 22 1 1 = nI (T 1) from g1.2.2.2.2.2.2 1 (by omega), nle (by omega) (by omega), nI_add]
  refine ⟨fun y => absurd y z, fun _ => ⟨vin_i (by omega) (by omega), ?_⟩⟩
  refine cp2_X5_readsFlame_46 _ _ (m_figure t g1 hR2 (by omega) (by omega) (fun M2 g2 r2 u2 => gO_i ?_) (fun M2 g => gO_i (nw_fl54 g (h0 M2 g))))
  refine cp2_X5_readsFlame_54 _ _ _ (m_lit t g2 tk_4 (by omega) (by decide) (by omega) r2 (fun v3 M3 g3 r3 => gO_i ?_) (fun M3 g => gO_i (nw_fl73 g (h0 M3 g))))
  refine cp2_X5_readsFlame_73 _ _ _ (m_wellY g3.2.2.2.1 (gTe ?_))
  rw [nI_add, ncl (by omega)]
  refine ⟨vin_i (by omega) (by omega), vin_i (by omega) (by omega), vin_i (by omega) (by omega), ?_⟩
  have m1 : MT (mup M3 22 1 (5 + T 1) (nI (nvN b (p + 1)))) 1 (ups T (5 + T 1) (nvN b (p + 1))) := g3.2.2.2.2.2.2.up
  rw [m1 1 (by omega), ups_n (by omega), nI_add]
  exact h1 _ _ _ u2 (by omega) (g3.tw (fun k i y => by rw [mup_r y, mup_r y]) m1.up) r3
/-! one sitter -/
theorem nw_si52 {x1 : Int32} (h : RF M0 R M) (hQ : Q none M) : WP (wpd (d + 1)) 0 T_X5_readsSitter Q (52, [zR 16 0, zI x1], []) M := cp2_X5_readsSitter_52 _ _ (m_wellN h (gFe hQ))
theorem nw_si33 {x1 : Int32} (h : RF M0 R M) (hQ : Q none M) : WP (wpd (d + 2)) 0 T_X5_readsSitter Q (33, [zR 16 0, zI x1], []) M :=
  cp2_X5_readsSitter_33 _ _ ⟨fun _ => nw_takes h (gO_i (nw_si52 h hQ)), fun _ => nw_takes h (gO_i (nw_si52 h hQ))⟩
theorem nw_si19 (h : RF M0 R M) (hQ : Q none M) : WP (wpd (d + 3)) 0 T_X5_readsSitter Q (19, [zR 16 0, zU], []) M :=
  cp2_X5_readsSitter_19 _ ⟨vin_i (by omega) (by omega), nw_figure h (gO_i (nw_si33 h hQ))⟩
theorem m_readsSitter {K : Nat → Nat → RR} (t : TPm M0 b n) (h : RS M0 b n M p T s) (h8 : T 1 ≤ 8) (t4 : 4 ≤ T 1) (hs : s ≤ 5) (x : b p = 122) (hR : R = if s = 5 then (3, p, z0T) else sNum b 0 (T 1 - 1) (p + 1) fun v p => sLit b 59 p fun p => K v p) (h1 : ∀ M' p' v, v < T 1 → s < 5 → RS M0 b n M' p' (addS T v) (s + 1) → R = K v p' → Q none M') (h0 : ∀ M', RF M0 R M' → Q none M') : wpd (d + 5) 133 [zR 16 0] M Q := by
  refine en2_X5_readsSitter _ ?_
  rw [h.2.2.2.2.1, nle (by omega) (by omega)]
  refine ⟨fun z => m_takesN t h (hR.trans (if_pos (by omega))) (by omega) (fun M1 g => gO_i (nw_si19 g (h0 M1 g))), fun z => ?_⟩
  have hR2 := hR.trans (if_neg (by omega))
  obtain ⟨l1, l3⟩ := ln_1 x (by decide) (by omega)
  refine m_takesY t h l3 (fun M1 g1 => gO_i ?_)
  rw [l1] at g1
  refine cp2_X5_readsSitter_19 _ ⟨vin_i (by omega) (by omega), ?_⟩
  rw [show M1 22 1 1 = nI (T 1) from g1.2.2.2.2.2.2 1 (by omega), pk_sub (by omega)]
  refine m_figure t g1 hR2 (by omega) (by omega) (fun M2 g2 r2 u2 => gO_i ?_) (fun M2 g => gO_i (nw_si33 g (h0 M2 g)))
  refine cp2_X5_readsSitter_33 _ _ (m_lit t g2 tk_4 (by omega) (by decide) (by omega) r2 (fun v3 M3 g3 r3 => gO_i ?_) (fun M3 g => gO_i (nw_si52 g (h0 M3 g))))
  refine cp2_X5_readsSitter_52 _ _ (m_wellY g3.2.2.2.1 (gTe ?_))
  rw [nI_add, ncl (by omega), g3.2.2.2.2.1, nI_add s, g3.2.2.2.2.2.2 _ (by omega), nI_add]
  refine ⟨vin_i (by omega) (by omega), vin_i (by omega) (by omega), ?_⟩
  exact h1 _ _ _ (by omega) (by omega) (g3.tw (M' := mup M3 22 1 (13 + nvN b (p + 1)) (nI (T (13 + nvN b (p + 1)) + 1))) (fun k i y => mup_r y) g3.2.2.2.2.2.2.up).sa r3
/-! one player -/
theorem m_kindOf {x : Int32} {c : Nat} (hc : c < 256) (e : x = nI c) (h : Q (some (zI (nI (kndN c)))) M) : wpd (d + 1) 130 [zI x] M Q := by
  have E : ∀ k, k < 256 → (nI c = nI k ↔ c = k) := fun k hk => neq (by omega) (by omega)
  subst e
  refine en_X5_kindOf _ _ ?_
  rw [E 97 (by omega), E 99 (by omega), E 108 (by omega), E 114 (by omega), E 119 (by omega)]
  unfold kndN at h
  refine ⟨fun z => ⟨fun y => ⟨fun x => ⟨fun w => ⟨fun u => ?_, fun u => ?_⟩, fun w => ?_⟩, fun x => ?_⟩, fun y => ?_⟩, fun z => ?_⟩
  · rw [if_neg z, if_neg y, if_neg x, if_neg w, if_neg u] at h; exact h
  · rw [if_neg z, if_neg y, if_neg x, if_neg w, if_pos u] at h; exact h
  · rw [if_neg z, if_neg y, if_neg x, if_pos w] at h; exact h
  · rw [if_neg z, if_neg y, if_pos x] at h; exact h
  · rw [if_neg z, if_pos y] at h; exact h
  · rw [if_pos z] at h; exact h
theorem nw_pl98 {x1 x2 x3 x4 : Int32} (h : RF M0 R M) (hQ : Q none M) : WP (wpd (d + 1)) 0 T_X5_readsPlayer Q (98, [zR 16 0, zI x1, zI x2, zI x3, zI x4], []) M := cp2_X5_readsPlayer_98 _ _ _ _ _ (m_wellN h (gFe hQ))
theorem nw_pl79 {x1 x2 x3 x4 : Int32} (h : RF M0 R M) (hQ : Q none M) : WP (wpd (d + 2)) 0 T_X5_readsPlayer Q (79, [zR 16 0, zI x1, zI x2, zI x3, zI x4], []) M :=
  cp2_X5_readsPlayer_79 _ _ _ _ _ ⟨fun _ => nw_takes h (gO_i (nw_pl98 h hQ)), fun _ => nw_takes h (gO_i (nw_pl98 h hQ))⟩
theorem nw_pl71 {x1 x2 x3 : Int32} (h : RF M0 R M) (hQ : Q none M) : WP (wpd (d + 4)) 0 T_X5_readsPlayer Q (71, [zR 16 0, zI x1, zI x2, zI x3, zU], []) M :=
  cp2_X5_readsPlayer_71 _ _ _ _ (nw_follows h (gO_i (nw_pl79 h hQ)))
theorem nw_pl57 {x1 x2 : Int32} (h : RF M0 R M) (hQ : Q none M) : WP (wpd (d + 4)) 0 T_X5_readsPlayer Q (57, [zR 16 0, zI x1, zI x2, zU, zU], []) M :=
  cp2_X5_readsPlayer_57 _ _ _ ⟨vin_i (by omega) (by omega), nw_figure h (gO_i (nw_pl71 h hQ))⟩
theorem nw_pl30 {x1 : Int32} (h : RF M0 R M) (hQ : Q none M) : WP (wpd (d + 4)) 0 T_X5_readsPlayer Q (30, [zR 16 0, zI x1, zU, zU, zU], []) M :=
  cp2_X5_readsPlayer_30 _ _ ⟨vin_i (by omega) (by omega), fun _ => nw_pl57 h hQ, fun _ => ⟨vin_i (by omega) (by omega), nw_pl57 h hQ⟩⟩
theorem m_readsPlayer {i : Nat} {K : (Nat → Nat) → Nat → RR} (t : TPm M0 b n) (h : RS M0 b n M p T s) (ok : okP i T) (t4 : 4 ≤ T 1) (hc : 97 ≤ b p ∧ b p ≤ 122) (hk : kndN (b p) ≠ 0) (hR : R = sPl b T p K) (h1 : ∀ M' p' T', okP i T' → T' 2 = T 2 + 1 → T' 1 = T 1 → RS M0 b n M' p' T' s → R = K T' p' → Q none M') (h0 : ∀ M', RF M0 R M' → Q none M') : wpd (d + 6) 134 [zR 16 0] M Q := by
  have t8 := ok.2.1
  have t6 := ok.2.2.1
  have kb := knd_b (c := b p)
  have hR1 := hR.trans (if_neg hk)
  have hv : vlN b p = nI (b p) := ((tk_1 hc).mpr rfl).2
  refine en2_X5_readsPlayer _ ?_
  rw [h.2.2.2.2.2.1.2.2.1, hv]
  refine m_kindOf (by omega) rfl (gO_i ?_)
  refine cp2_X5_readsPlayer_8 _ _ ⟨vin_i (by omega) (by omega), ?_⟩
  rw [show M 22 1 2 = nI (T 2) from h.2.2.2.2.2.2 2 (by omega), nle (by omega) (by omega)]
  refine ⟨fun z => m_takesN t h (hR1.trans (if_pos (by omega))) (by omega) (fun M1 g => gO_i (nw_pl30 g (h0 M1 g))), fun z => ?_⟩
  have hR2 := hR1.trans (if_neg (by omega))
  obtain ⟨l1, l3⟩ := ln_1 (b := b) (p := p) rfl (dgB_f.mpr (by omega)) (by omega)
  refine m_takesY t h l3 (fun M1 g1 => gO_i ?_)
  rw [l1] at g1
  refine cp2_X5_readsPlayer_30 _ _ ⟨vin_i (by omega) (by omega), ?_⟩
  rw [show M1 22 1 2 = nI (T 2) from g1.2.2.2.2.2.2 2 (by omega), nle (by omega) (by omega), pk_mul, nI_add]
  refine ⟨fun y => absurd y z, fun _ => ⟨vin_i (by omega) (by omega), ?_⟩⟩
  refine cp2_X5_readsPlayer_57 _ _ _ ⟨vin_i (by omega) (by omega), ?_⟩
  rw [show M1 22 1 1 = nI (T 1) from g1.2.2.2.2.2.2 1 (by omega), pk_sub (by omega)]
  refine m_figure t g1 hR2 (by omega) (by omega) (fun M2 g2 r2 u2 => gO_i ?_) (fun M2 g => gO_i (nw_pl71 g (h0 M2 g)))
  refine cp2_X5_readsPlayer_71 _ _ _ _ (en_X5_follows _ _ _ (m_lit t g2 tk_3 (by omega) (by decide) (by omega) r2 (fun v3 M3 g3 r3 => gO_i ?_) (fun M3 g => gO_i (nw_figure g (gO_i (gO_i (nw_pl79 g (h0 M3 g))))))))
  refine m_figure t g3 r3 (by omega) (by omega) (fun M4 g4 r4 u4 => gO_i (gO_i ?_)) (fun M4 g => gO_i (gO_i (nw_pl79 g (h0 M4 g))))
  refine cp2_X5_readsPlayer_79 _ _ _ _ _ (m_lit t g4 tk_4 (by omega) (by decide) (by omega) r4 (fun v5 M5 g5 r5 => gO_i ?_) (fun M5 g => gO_i (nw_pl98 g (h0 M5 g))))
  refine cp2_X5_readsPlayer_98 _ _ _ _ _ (m_wellY g5.2.2.2.1 (gTe ?_))
  rw [pk_mul, nI_add, nI_add, nI_add, ncl (by omega), ncl (by omega), ncl (by omega)]
  refine ⟨vin_i (by omega) (by omega), vin_i (by omega) (by omega), vin_i (by omega) (by omega), vin_i (by omega) (by omega), vin_i (by omega) (by omega), ?_⟩
  have m1 := ((g5.2.2.2.2.2.2.up (j := 21 + 4 * T 2) (v := kndN (b p))).up (j := 21 + 4 * T 2 + 1) (v := nvN b (p + 1))).up (j := 21 + 4 * T 2 + 2) (v := nvN b (p + 1 + fgN b (p + 1) + 1))
  rw [m1 2 (by omega), ups_n (by omega), ups_n (by omega), ups_n (by omega), nI_add]
  have m2 := m1.up (j := 2) (v := T 2 + 1)
  have eT : ups (ups (ups (ups T (21 + 4 * T 2) (kndN (b p))) (21 + 4 * T 2 + 1) (nvN b (p + 1))) (21 + 4 * T 2 + 2) (nvN b (p + 1 + fgN b (p + 1) + 1))) 2 (T 2 + 1) = addP T (kndN (b p)) (nvN b (p + 1)) (nvN b (p + 1 + fgN b (p + 1) + 1)) := by
    unfold addP
    rw [show 21 + 4 * T 2 + 1 = 22 + 4 * T 2 by omega, show 21 + 4 * T 2 + 2 = 23 + 4 * T 2 by omega]
  rw [eT] at m2
  exact h1 _ _ _ (okP_P ok (by omega) (by omega) (by omega) u4) addP_2 (addP_o (by omega) (by omega) (by omega) (by omega)) (g5.tw (fun k i y => by rw [mup_r y, mup_r y, mup_r y, mup_r y]) m2) r5
end Mr
