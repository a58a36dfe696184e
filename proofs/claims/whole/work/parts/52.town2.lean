/-! TOWN -/
section Tw
variable {d n p s : Nat} {Q : Option AV → Mem → Prop} {M0 M M' : Mem} {b T T' : Nat → Nat} {R : RR}
theorem nt_212 (h : RF M0 R M) (hF : WP (wpd (d + 8)) 1 T_X5_town Q (228, [zR 16 0, zU], []) M) : WP (wpd (d + 8)) 1 T_X5_town Q (212, [zR 16 0, zU], []) M := cp2_X5_town_212 _ ⟨fun _ => nw_must h (gN_i hF), fun _ => nw_must h (gN_i hF)⟩
theorem nt_180 (h : RF M0 R M) (hF : WP (wpd (d + 8)) 1 T_X5_town Q (228, [zR 16 0, zU], []) M) : WP (wpd (d + 8)) 1 T_X5_town Q (180, [zR 16 0, zU], []) M := cp2_X5_town_180 _ (m_wellN h (gFe (nt_212 h hF)))
theorem nt_149 (h : RF M0 R M) (hF : WP (wpd (d + 8)) 1 T_X5_town Q (228, [zR 16 0, zU], []) M) : WP (wpd (d + 8)) 1 T_X5_town Q (149, [zR 16 0, zU], []) M := cp2_X5_town_149 _ (m_wellN h (gFe (nt_180 h hF)))
theorem nt_130 (h : RF M0 R M) (hF : WP (wpd (d + 8)) 1 T_X5_town Q (228, [zR 16 0, zU], []) M) : WP (wpd (d + 8)) 1 T_X5_town Q (130, [zR 16 0, zU], []) M :=
  cp2_X5_town_130 _ ⟨vin_i (by omega) (by omega), fun _ => nw_must h (gN_i (nt_149 h hF)), fun _ => nw_must h (gN_i (nt_149 h hF))⟩
theorem nt_99 (h : RF M0 R M) (hF : WP (wpd (d + 8)) 1 T_X5_town Q (228, [zR 16 0, zU], []) M) : WP (wpd (d + 8)) 1 T_X5_town Q (99, [zR 16 0, zU], []) M := cp2_X5_town_99 _ (m_wellN h (gFe (nt_130 h hF)))
theorem nt_80 (h : RF M0 R M) (hF : WP (wpd (d + 8)) 1 T_X5_town Q (228, [zR 16 0, zU], []) M) : WP (wpd (d + 8)) 1 T_X5_town Q (80, [zR 16 0, zU], []) M :=
  cp2_X5_town_80 _ ⟨fun _ => nw_takes h (gO_i (nt_99 h hF)), fun _ => nw_takes h (gO_i (nt_99 h hF))⟩
theorem nt_68 (h : RF M0 R M) (hF : ∀ M', RF M0 R M' → WP (wpd (d + 8)) 1 T_X5_town Q (228, [zR 16 0, zU], []) M') : WP (wpd (d + 8)) 1 T_X5_town Q (68, [zR 16 0, zU], []) M :=
  cp2_X5_town_68 _ (nw_figure h (gO_i ⟨vin_i (by omega) (by omega), nt_80 h.dr (hF _ h.dr)⟩))
theorem m_mustY (h : RS M0 b n M p T s) (hQ : Q none M) : wpd (d + 4) 135 [zR 16 0, zI (nI 1)] M Q := en_X5_must _ _ (m_wellY h.2.2.2.1 (gTe ⟨fun _ => hQ, fun z => absurd z c10⟩))
theorem m_mustN (t : TPm M0 b n) (h : RS M0 b n M p T s) (hR : R = (1, p, z0T)) (hQ : ∀ M', RF M0 R M' → Q none M') : wpd (d + 4) 135 [zR 16 0, zI (nI 0)] M Q :=
  en_X5_must _ _ (m_wellY h.2.2.2.1 (gTe ⟨fun z => absurd rfl z, fun _ => m_takesN t h hR (by omega) (fun M' g => gO_i (hQ M' g))⟩))
theorem ex_212 (t : TPm M0 b n) (h : RS M0 b n M p T s) (h1 : b p = 256 → WP (wpd (d + 8)) 1 T_X5_town Q (228, [zR 16 0, zU], []) M) (hR : b p ≠ 256 → R = (1, p, z0T)) (hF : ∀ M', RF M0 R M' → WP (wpd (d + 8)) 1 T_X5_town Q (228, [zR 16 0, zU], []) M') : WP (wpd (d + 8)) 1 T_X5_town Q (212, [zR 16 0, zU], []) M := by
  have k5 := tk_5 (b := b) (p := p)
  refine cp2_X5_town_212 _ ?_
  rw [h.2.2.2.2.2.1.2.1, neq (by omega) (by omega), tk_0]
  exact ⟨fun z => m_mustN t h (hR z) (fun M' g => gN_i (hF M' g)), fun z => m_mustY h (gN_i (h1 z))⟩
theorem mt_180 {i : Nat} (t : TPm M0 b n) (hF : ∀ M', RF M0 R M' → WP (wpd (d + 8)) 1 T_X5_town Q (228, [zR 16 0, zU], []) M') (hY : ∀ M' p' T', RS M0 b n M' p' T' s → R = (0, p', T') → WP (wpd (d + 8)) 1 T_X5_town Q (228, [zR 16 0, zU], []) M') :
    ∀ (m j : Nat) (M : Mem) (p : Nat) (T : Nat → Nat), j + m = 7 → T 2 = j → okP i T → 4 ≤ T 1 → RS M0 b n M p T s → R = sPls b (fun T p => (0, p, T)) m T p → WP (wpd (d + 8)) 1 T_X5_town Q (180, [zR 16 0, zU], []) M := by
  intro m
  induction m with
  | zero =>
    intro j M p T e1 e2 ok
    exact absurd ok.2.2.1 (by omega)
  | succ m ih =>
    intro j M p T e1 e2 ok t4 h hR
    have k5 := tk_5 (b := b) (p := p)
    have ex : (b p = 256 ∨ kndN (b p) = 0) → WP (wpd (d + 8)) 1 T_X5_town Q (212, [zR 16 0, zU], []) M := fun e => ex_212 t h (fun z => hY M p T h (hR.trans (if_pos z))) (fun z => (hR.trans (if_neg z)).trans (if_pos (by rcases e with e | e; exact absurd e z; exact e))) hF
    have nk : ∀ c, ¬ (97 ≤ c ∧ c ≤ 122) → kndN c = 0 := fun c hc => by
      unfold kndN
      rw [if_neg (by omega), if_neg (by omega), if_neg (by omega), if_neg (by omega), if_neg (by omega)]
    refine cp2_X5_town_180 _ (m_wellY h.2.2.2.1 (gTe ?_))
    rw [h.2.2.2.2.2.1.2.1, neq (by omega) (by omega), h.2.2.2.2.2.1.2.2.1]
    refine ⟨fun z => ex (Or.inr (nk _ (fun y => z ((tk_1 y).mpr rfl).1))), fun z => ?_⟩
    have hc : 97 ≤ b p ∧ b p ≤ 122 := by
      unfold tkN at z
      by_cases y : 97 ≤ b p ∧ b p ≤ 122
      · exact y
      · exfalso
        revert z
        repeat' split
        all_goals first | omega | exact absurd ‹97 ≤ b p ∧ b p ≤ 122› y
    have hv : vlN b p = nI (b p) := ((tk_1 hc).mpr rfl).2
    have kb := knd_b (c := b p)
    refine m_kindOf (c := b p) (by omega) hv (gO_i ⟨fun y => ex (Or.inr ?_), fun y => ?_⟩)
    · rw [nle (by omega) (by omega)] at y
      omega
    · rw [nle (by omega) (by omega)] at y
      refine m_readsPlayer t h ok t4 hc (by omega) (hR.trans (if_neg (by omega))) (fun M' p' T' o1 o2 o3 g r => gN_i ?_) (fun M' g => gN_i (nt_180 g (hF M' g)))
      exact ih (j + 1) M' p' T' (by omega) (by omega) o1 (by omega) g r
theorem mt_149 {K : (Nat → Nat) → Nat → RR} (t : TPm M0 b n) (hF : ∀ M', RF M0 R M' → WP (wpd (d + 8)) 1 T_X5_town Q (228, [zR 16 0, zU], []) M') (hY : ∀ M' p' T' s', RS M0 b n M' p' T' s' → okP 5 T' → T' 2 = 0 → 4 ≤ T' 1 → R = K T' p' → WP (wpd (d + 8)) 1 T_X5_town Q (180, [zR 16 0, zU], []) M') :
    ∀ (m s : Nat) (M : Mem) (p : Nat) (T : Nat → Nat), s + m = 6 → 1 ≤ m → okP s T → T 2 = 0 → 4 ≤ T 1 → RS M0 b n M p T s → R = sSits b K m T p → WP (wpd (d + 8)) 1 T_X5_town Q (149, [zR 16 0, zU], []) M := by
  intro m
  induction m with
  | zero =>
    intro s M p T e1 e2
    omega
  | succ m ih =>
    intro s M p T e1 _ ok e3 t4 h hR
    have k5 := tk_5 (b := b) (p := p)
    have t8 := ok.2.1
    have ok5 : okP 5 T := by
      obtain ⟨a0, a1, a2, a3, a4, a5, a6, a7, a8⟩ := ok
      exact ⟨a0, a1, a2, a3, a4, a5, by omega, a7, a8⟩
    have ex : ¬ b p = 122 → WP (wpd (d + 8)) 1 T_X5_town Q (180, [zR 16 0, zU], []) M := fun e => hY M p T s h ok5 e3 t4 (hR.trans (if_neg e))
    have L := tk_1 (b := b) (p := p) (c := 122) (by omega)
    refine cp2_X5_town_149 _ (m_wellY h.2.2.2.1 (gTe ?_))
    rw [h.2.2.2.2.2.1.2.1, neq (by omega) (by omega), h.2.2.2.2.2.1.2.2.1]
    refine ⟨fun z => ex (fun e => z (L.mpr e).1), fun z => ⟨fun y => ex (fun e => y (L.mpr e).2), fun y => ?_⟩⟩
    have x := L.mp ⟨z, y⟩
    have hR2 := hR.trans (if_pos x)
    have hR3 : R = if s = 5 then (3, p, z0T) else sNum b 0 (T 1 - 1) (p + 1) fun v p => sLit b 59 p fun p => sSits b K m (addS T v) p := by
      by_cases e : m = 0
      · rw [if_pos e] at hR2
        rw [if_pos (by omega)]
        exact hR2
      · rw [if_neg e] at hR2
        rw [if_neg (by omega)]
        exact hR2
    refine m_readsSitter (K := fun v p => sSits b K m (addS T v) p) t h t8 t4 (by omega) x hR3 (fun M' p' v hv hs g r => gN_i ?_) (fun M' g => gN_i (nt_149 g (hF M' g)))
    exact ih (s + 1) M' p' _ (by omega) (by omega) (okP_S ok (by omega)) (by rw [addS_o (by omega)]; exact e3) (by rw [addS_o (by omega)]; exact t4) g r
theorem mt_99 {K : (Nat → Nat) → Nat → RR} (t : TPm M0 b n) (hF : ∀ M', RF M0 R M' → WP (wpd (d + 8)) 1 T_X5_town Q (228, [zR 16 0, zU], []) M') (hY : ∀ M' p' T', RS M0 b n M' p' T' 0 → okP 0 T' → T' 2 = 0 → 4 ≤ T' 1 → R = K T' p' → WP (wpd (d + 8)) 1 T_X5_town Q (149, [zR 16 0, zU], []) M') :
    ∀ (m i : Nat) (M : Mem) (p : Nat) (T : Nat → Nat), i + m = 9 → T 1 = i → okP 0 T → T 2 = 0 → RS M0 b n M p T 0 → R = sFlames b K m T p → WP (wpd (d + 8)) 1 T_X5_town Q (99, [zR 16 0, zU], []) M := by
  intro m
  induction m with
  | zero =>
    intro i M p T e1 e2 ok
    exact absurd ok.2.1 (by omega)
  | succ m ih =>
    intro i M p T e1 e2 ok e3 h hR
    have k5 := tk_5 (b := b) (p := p)
    have t8 := ok.2.1
    have ex : ¬ b p = 102 → WP (wpd (d + 8)) 1 T_X5_town Q (130, [zR 16 0, zU], []) M := fun e => by
      refine cp2_X5_town_130 _ ⟨vin_i (by omega) (by omega), ?_⟩
      rw [show M 22 1 1 = nI (T 1) from h.2.2.2.2.2.2 1 (by omega), nle (by omega) (by omega)]
      refine ⟨fun z => m_mustN t h ?_ (fun M' g => gN_i (nt_149 g (hF M' g))), fun z => m_mustY h (gN_i (hY M p T h ok e3 (by omega) (hR.trans (if_pos ⟨by omega, e⟩))))⟩
      exact ((hR.trans (if_neg (by omega))).trans (if_neg (by omega))).trans (if_neg e)
    have L := tk_1 (b := b) (p := p) (c := 102) (by omega)
    refine cp2_X5_town_99 _ (m_wellY h.2.2.2.1 (gTe ?_))
    rw [h.2.2.2.2.2.1.2.1, neq (by omega) (by omega), h.2.2.2.2.2.1.2.2.1]
    refine ⟨fun z => ex (fun e => z (L.mpr e).1), fun z => ⟨fun y => ex (fun e => y (L.mpr e).2), fun y => ?_⟩⟩
    have x := L.mp ⟨z, y⟩
    refine m_readsFlame t h t8 x (hR.trans (if_neg (fun z => z.2 x))) (fun M' p' v hv h8 g r => gN_i ?_) (fun M' g => gN_i (nt_99 g (hF M' g)))
    obtain ⟨o1, o2⟩ := okP_F ok e3 h8 hv
    exact ih (i + 1) M' p' _ (by omega) (by rw [addF_1]; omega) o1 o2 g r
theorem ok_0 {v : Nat} (u : v ≤ 3) : okP 0 (ups z0T 0 v) := by
  have O : ∀ j, j ≠ 0 → ups z0T 0 v j = 0 := fun j hj => ups_n hj
  refine ⟨by rw [ups_s]; exact u, by rw [O _ (by omega)]; omega, by rw [O _ (by omega)]; omega, O _ (by omega), O _ (by omega), fun p _ => by rw [O _ (by omega)]; omega, ?_, fun q hq => ?_, fun q => O _ (by omega)⟩
  · have e : sitN (ups z0T 0 v) = sitN z0T := sumN_c 8 (fun p hp => O _ (by omega))
    rw [e]
    decide
  · rw [O _ (by omega)] at hq
    exact absurd hq (by omega)
theorem m_town (t : TPm M b n) (hR : R = sTown b)
    (hF : ∀ M' k p, R = (k, p, z0T) → 1 ≤ k → (∀ k i, ¬ (k = 16 ∧ i = 0) → ¬ (k = 22 ∧ i = 1) → M' k i = M k i) → (∀ j, j < 6 ∨ 14 ≤ j → M' 16 0 j = M 16 0 j) → M' 16 0 6 = nI 0 → M' 16 0 7 = nI k → Q (some (zI (-1000100 - nI p))) M')
    (hY : ∀ M' p T, R = (0, p, T) → (∀ k i, ¬ (k = 16 ∧ i = 0) → ¬ (k = 22) → M' k i = M k i) → (∀ j, j < 6 ∨ (14 ≤ j ∧ j ≠ 18) → M' 16 0 j = M 16 0 j) → M' 16 0 6 = nI 0 → M' 16 0 7 = M 16 0 7 → M' 16 0 18 = nI 0 → MT M' 0 T → Q (some (zI (nI (T 1)))) M') : wpd (d + 9) 136 [zR 16 0] M Q := by
  have F : ∀ M', RF M R M' → WP (wpd (d + 8)) 1 T_X5_town Q (228, [zR 16 0, zU], []) M' := by
    rintro M' ⟨k, p, r, k1, k3, hp, f, h7, h8⟩
    refine cp2_X5_town_228 _ (en_X5_isWell _ ?_)
    have e8 : mup M' 16 0 6 (nI 0) 16 0 8 = nI p := by rw [mup_ap, if_neg (by omega)]; exact h8
    rw [e8]
    refine ⟨fun _ => ⟨z0, gFn ?_⟩, fun z => absurd ((nle (by omega) (by omega)).mpr (by omega)) z⟩
    refine hF _ k p r k1 (fun k i y1 y2 => by rw [mup_r y1]; exact f.1 k i y1 y2) (fun j hj => by rw [mup_ap, if_neg (by omega)]; exact f.2 j (by omega)) (by rw [mup_ap, if_pos ⟨rfl, rfl, rfl⟩]) (by rw [mup_ap, if_neg (by omega)]; exact h7)
  have Y : ∀ M' p' T' s', RS M b n M' p' T' s' → R = (0, p', T') → WP (wpd (d + 8)) 1 T_X5_town Q (228, [zR 16 0, zU], []) M' := by
    intro M' p' T' s' h r
    obtain ⟨h1, h2, h3, h4, h5, h6, h7⟩ := h
    refine cp2_X5_town_228 _ (m_wellY (by rw [mup_ap, if_neg (by omega)]; exact h4) (gTn ?_))
    refine c_copies0 1 0 (by omega) (by omega) (by omega) (fun M2 g1 g2 => gN_i ⟨vin_i (by omega) (by omega), ?_⟩)
    have mt : MT M2 0 T' := fun j hj => by
      rw [g2, if_pos (by omega), mup_r (by omega), show 0 + (j - 0) = j by omega]
      exact h7 j hj
    rw [mt 1 (by omega)]
    refine hY _ p' T' r (fun k i y1 y2 => by rw [mup_r y1, g1 k i (by omega), mup_r y1]; exact h2.1 k i y1 (by omega)) (fun j hj => by rw [mup_ap, if_neg (by omega), g1 16 0 (by omega), mup_ap, if_neg (by omega)]; exact h2.2 j (by omega)) ?_ ?_ (by rw [mup_ap, if_pos ⟨rfl, rfl, rfl⟩]) (fun j hj => by rw [mup_r (by omega)]; exact mt j hj)
    · rw [mup_ap, if_neg (by omega), g1 16 0 (by omega), mup_ap, if_pos ⟨rfl, rfl, rfl⟩]
    · rw [mup_ap, if_neg (by omega), g1 16 0 (by omega), mup_ap, if_neg (by omega)]; exact h3
  have G : ∀ M1, RS M b n M1 0 z0T 0 → WP (wpd (d + 8)) 1 T_X5_town Q (40, [zR 16 0, zU], []) M1 := by
    intro M1 h
    have k5 := tk_5 (b := b) (p := 0)
    have L := tk_1 (b := b) (p := 0) (c := 116) (by omega)
    have no : ¬ b 0 = 116 → wpd (d + 8) 128 [zR 16 0, zI (nI 0), zI (nI 1)] M1 (fun r1 M1 => gO r1 fun v1 => WP (wpd (d + 8)) 1 T_X5_town Q (68, [zR 16 0, zU], []) M1) := fun e => m_takesN t h (hR.trans (if_neg e)) (by omega) (fun M' g => gO_i (nt_68 g F))
    refine cp2_X5_town_40 _ ?_
    rw [h.2.2.2.2.2.1.2.1, neq (by omega) (by omega), h.2.2.2.2.2.1.2.2.1]
    refine ⟨fun z => no (fun e => z (L.mpr e).1), fun z => ⟨fun y => no (fun e => y (L.mpr e).2), fun y => ?_⟩⟩
    have x := L.mp ⟨z, y⟩
    have hR2 := hR.trans (if_pos x)
    obtain ⟨l1, l3⟩ := ln_1 x (by decide) (by omega)
    refine m_takesY t h l3 (fun M2 g2 => gO_i ?_)
    rw [l1] at g2
    refine cp2_X5_town_68 _ (m_figure t g2 hR2 (by omega) (by omega) (fun M3 g3 r3 u3 => gO_i ⟨vin_i (by omega) (by omega), ?_⟩) (fun M3 g => gO_i ⟨vin_i (by omega) (by omega), nt_80 g.dr (F _ g.dr)⟩))
    have g4 := g3.tw (M' := mup M3 22 1 0 (nI (nvN b (0 + 1)))) (fun k i y => mup_r y) g3.2.2.2.2.2.2.up
    refine cp2_X5_town_80 _ (m_lit t g4 tk_4 (by omega) (by decide) (by omega) r3 (fun v5 M5 g5 r5 => gO_i ?_) (fun M5 g => gO_i (nt_99 g (F _ g))))
    refine mt_99 t F (fun M6 p6 T6 g6 ok6 e6 l6 r6 => ?_) 9 0 M5 _ _ (by omega) (ups_n (by omega)) (ok_0 u3) (ups_n (by omega)) g5 r5
    refine mt_149 t F (fun M7 p7 T7 s7 g7 ok7 e7 l7 r7 => ?_) 6 0 M6 p6 T6 (by omega) (by omega) ok6 e6 l6 g6 r6
    exact mt_180 t F (fun M8 p8 T8 g8 r8 => Y M8 p8 T8 _ g8 r8) 7 0 M7 p7 T7 (by omega) e7 ok7 l7 g7 r7
  refine en2_X5_town _ ?_
  refine up_ind (P := fun i => ∀ M1, (∀ k i, ¬ (k = 22 ∧ i = 1) → M1 k i = M k i) → (∀ j, j < i → M1 22 1 j = nI 0) → WP (wpd (d + 8)) 1 T_X5_town Q (2, [zR 16 0, zI (nI i)], []) M1) (n := 45) ?_ ?_ M (fun _ _ _ => rfl) (fun j hj => absurd hj (by omega))
  · intro M1 f1 f2
    refine cp2_X5_town_2 _ _ ⟨fun _ => ?_, fun z => absurd ((nle (by omega) (by omega)).mpr (Nat.le_refl _)) z⟩
    have mf : MF M (mup (mup (mup M1 16 0 9 (nI 0)) 16 0 13 (nI 0)) 16 0 8 (-1)) := ⟨fun k i y1 y2 => by rw [mup_r y1, mup_r y1, mup_r y1]; exact f1 k i y2, fun j hj => by rw [mup_ap, if_neg (by omega), mup_ap, if_neg (by omega), mup_ap, if_neg (by omega), f1 16 0 (by omega)]⟩
    refine m_advances (p := 0) t (by omega) mf (by rw [mup_ap, if_neg (by omega), mup_ap, if_neg (by omega), mup_ap, if_pos ⟨rfl, rfl, rfl⟩]) (fun M2 a k => gN_i (G M2 ⟨by omega, mf.ad a, ?_, ?_, ?_, k, fun j hj => ?_⟩))
    · rw [a.2 7 (by omega) (by omega) (by omega) (by omega), mup_ap, if_neg (by omega), mup_ap, if_neg (by omega), mup_ap, if_neg (by omega), f1 16 0 (by omega)]
    · rw [a.2 8 (by omega) (by omega) (by omega) (by omega), mup_ap, if_pos ⟨rfl, rfl, rfl⟩]
    · rw [a.2 13 (by omega) (by omega) (by omega) (by omega), mup_ap, if_neg (by omega), mup_ap, if_pos ⟨rfl, rfl, rfl⟩]
    · rw [a.1 22 1 (by omega), mup_r (by omega), mup_r (by omega), mup_r (by omega)]; exact f2 j hj
  · intro i hi ih M1 f1 f2
    refine cp2_X5_town_2 _ _ ⟨fun z => absurd ((nle (by omega) (by omega)).mp z) (by omega), fun _ => ⟨vin_i (by omega) (by omega), ?_⟩⟩
    rw [nI_add, ncl (by omega)]
    refine ih _ (fun k i y => (mup_r y).trans (f1 k i y)) (fun j hj => ?_)
    rw [mup_ap]
    by_cases y : j = i
    · rw [if_pos ⟨rfl, rfl, y⟩]
    · rw [if_neg (by omega)]; exact f2 j (by omega)
end Tw
theorem Inv.town {M M' : Mem} (I : Inv M) (fr : ∀ k i, ¬ (6 ≤ k ∧ k ≤ 11 ∧ i ≤ 1) → ¬ (k = 4 ∧ i = 0) → ¬ (k = 13 ∧ i = 0) → ¬ (k = 16 ∧ i = 0) → ¬ (k = 22) → M' k i = M k i) (f16 : ∀ j, j < 6 ∨ (14 ≤ j ∧ j ≠ 18) → M' 16 0 j = M 16 0 j) (a1 : M' 4 0 1 = nI 0) (a2 : M' 16 0 6 = nI 0) (a3 : M' 4 0 2 = M' 16 0 7) (hT : ITown M') (hA : IActs M') : Inv M' ∧ ∀ k, 30 ≤ k → M' k = M k := by
  obtain ⟨h1, h2, h3, h4, h5, h6, h7, h8, h9⟩ := I
  have G : ∀ k i, k < 4 ∨ k = 5 ∨ k = 12 ∨ k = 14 ∨ k = 15 ∨ (17 ≤ k ∧ k ≤ 21) ∨ 23 ≤ k → M' k i = M k i := fun k i hk => fr k i (by omega) (by omega) (by omega) (by omega) (by omega)
  have f30 : ∀ k, 30 ≤ k → M' k = M k := fun k hk => funext (fun i => G k i (by omega))
  refine ⟨⟨h1.fr (fun r hr => ⟨G _ _ (by omega), G _ _ (by omega)⟩) (G _ _ (by omega)) (G _ _ (by omega)) (G _ _ (by omega)), ⟨0, by omega, a1, a2, fun j hj => absurd hj (by omega)⟩, a3, h4.fr (by rw [G 0 0 (by omega)]) (f16 _ (by omega)), h5.fr (by rw [G 0 0 (by omega)]) (f16 _ (by omega)) (G _ _ (by omega)) (G _ _ (by omega)), hT, hA, h8.fr (fun k i y1 y2 y3 y4 => fr k i (by omega) (by omega) (by omega) (by omega) (by omega)) (G _ _ (by omega)) (G _ _ (by omega)), h9.fr f30⟩, f30⟩
theorem pr_town : PR 59 136 [zR 0 0] [zR 16 0] := by
  intro M I
  obtain ⟨n, hn, e1, e2, e3⟩ := I.2.1
  obtain ⟨nn, s, H, hnn, hs, hH, ca, ma⟩ := I.2.2.2.2.2.2.1.cm
  let b : Nat → Nat := fun j => if j < n then (M 5 0 j).toNatClampNeg else 256
  have bn : ∀ j, n ≤ j → b j = 256 := fun j hj => if_neg (by omega)
  have bl : ∀ j, j < n → M 5 0 j = nI (b j) ∧ b j < 256 := fun j hj => by
    obtain ⟨c, hc, ec⟩ := (e3 j hj).2
    have eb : b j = c := by
      show (if j < n then (M 5 0 j).toNatClampNeg else 256) = c
      rw [if_pos hj, ec, ncl (by omega)]
    rw [eb]
    exact ⟨ec, hc⟩
  have tb : TPb M b n := ⟨hn, e1, bl, bn⟩
  have TM : ∀ M1 : Mem, (∀ j, M1 16 0 j = M 16 0 j) → M1 21 0 = M 21 0 → TPm M1 b n := fun M1 f16 f21 => ⟨hn, by rw [f16]; exact e2, fun j hj => by rw [f21, ← (e3 j hj).1]; exact bl j hj, bn⟩
  refine en_X4_town _ (c_readInto tb (by omega) rfl (fun M1 p T g1 okT r1 => gO_i ?_) (fun M1 f => gO_i ?_))
  · refine en_X2_clear _ (gN_i ⟨fun _ => ?_, fun z => absurd z c10⟩)
    obtain ⟨g2, g3, g4, g5, g6⟩ := g1
    have c1 : CT (mup M1 4 0 1 (nI 0)) 1 T := g6.fr (fun k y1 y2 => mup_r (by omega))
    refine c_becomeT (by omega) c1 okT.1.2.2.1 okT.1.2.2.2.1 (fun M2 f1 f2 => gN_i (en_X0_forget _ (gN_i (gO_i ?_))))
    have FR : ∀ k i, ¬ (6 ≤ k ∧ k ≤ 11 ∧ i ≤ 1) → ¬ (k = 4 ∧ i = 0) → ¬ (k = 13 ∧ i = 0) → mup M2 13 0 2 (nI 0) k i = M k i := fun k i y1 y2 y3 => by
      rw [mup_r y3, f1 k i (by omega), mup_r y2]
      exact g5 k i (by omega) y2
    have e6 : mup M2 13 0 2 (nI 0) 6 0 5 = nI (T 1) := by
      rw [mup_r (by omega)]; exact f2.1.1
    rw [e6]
    refine m_town (R := sTown b) (TM _ (fun j => by rw [FR 16 0 (by omega) (by omega) (by omega)]) (FR 21 0 (by omega) (by omega) (by omega))) rfl (fun M3 k p' r => ?_) (fun M3 p' T' r h1 h2 h3 h4 h5 h6 => gO_i ?_)
    · intro k1
      rw [r1, Prod.mk.injEq] at r
      exact absurd r.1 (by omega)
    · rw [r1, Prod.mk.injEq, Prod.mk.injEq] at r
      obtain ⟨_, _, rfl⟩ := r
      refine ⟨rfl, I.town (fun k i y1 y2 y3 y4 y5 => by rw [h1 k i y4 y5]; exact FR k i y1 y2 y3) (fun j hj => by rw [h2 j hj, FR 16 0 (by omega) (by omega) (by omega)]) ?_ h3 ?_ ⟨T, Or.inr okT, ?_, h6⟩ ?_⟩
      · rw [h1 4 0 (by omega) (by omega), mup_r (by omega), f1 4 0 (by omega), mup_ap, if_pos ⟨rfl, rfl, rfl⟩]
      · rw [h4, FR 16 0 (by omega) (by omega) (by omega), h1 4 0 (by omega) (by omega), mup_r (by omega), f1 4 0 (by omega), mup_ap, if_neg (by omega), g4 2 (by omega)]
        exact I.2.2.1
      · exact f2.fr (fun k y1 y2 => by rw [h1 k 0 (by omega) (by omega), mup_r (by omega)])
      · refine IActs.mk (n := 0) (s := s) (H := H) (by omega) hs (fun i hi => absurd hi (by omega)) ⟨?_, ?_, fun i hi => absurd hi (by omega)⟩ ⟨h5, fun i hi => absurd hi (by omega)⟩
        · rw [h1 13 0 (by omega) (by omega), mup_ap, if_neg (by omega), f1 13 0 (by omega), mup_r (by omega), g5 13 0 (by omega) (by omega)]; exact ca.1
        · rw [h1 13 0 (by omega) (by omega), mup_ap, if_pos ⟨rfl, rfl, rfl⟩]
  · refine en_X2_clear _ (gN_i ⟨fun z => absurd rfl z, fun _ => ?_⟩)
    obtain ⟨k, p, r1, k1, k3, hp, f2, f3, f4, f5⟩ := f
    have e4 : mup M1 4 0 1 (nI 0) 4 0 3 = nI p := by
      rw [mup_ap, if_neg (by omega)]; exact f3
    rw [e4]
    have FR : ∀ k i, ¬ (6 ≤ k ∧ k ≤ 11 ∧ i = 1) → ¬ (k = 4 ∧ i = 0) → mup M1 4 0 1 (nI 0) k i = M k i := fun k i y1 y2 => by
      rw [mup_r y2]
      exact f5 k i y1 y2
    refine gO_i (m_town (R := sTown b) (TM _ (fun j => by rw [FR 16 0 (by omega) (by omega)]) (FR 21 0 (by omega) (by omega))) rfl (fun M3 k' p' r _ h1 h2 h3 h4 => gO_i ?_) (fun M3 p' T' r => ?_))
    · rw [r1, Prod.mk.injEq, Prod.mk.injEq] at r
      obtain ⟨rfl, rfl, _⟩ := r
      refine ⟨rfl, I.town (fun k i y1 y2 y3 y4 y5 => by rw [h1 k i y4 (by omega)]; exact FR k i (by omega) y2) (fun j hj => by rw [h2 j (by omega), FR 16 0 (by omega) (by omega)]) ?_ h3 ?_ (I.2.2.2.2.2.1.fr (fun k y1 y2 => ?_) ?_) (I.2.2.2.2.2.2.1.fr (fun k i y1 y2 y3 => ?_) ?_ ?_ ?_)⟩
      · rw [h1 4 0 (by omega) (by omega), mup_ap, if_pos ⟨rfl, rfl, rfl⟩]
      · rw [h4, h1 4 0 (by omega) (by omega), mup_ap, if_neg (by omega)]; exact f2
      · rw [h1 k 0 (by omega) (by omega)]; exact FR k 0 (by omega) (by omega)
      · rw [h1 22 0 (by omega) (by omega)]; exact FR 22 0 (by omega) (by omega)
      · rw [h1 k i (by omega) (by omega)]; exact FR k i (by omega) (by omega)
      · rw [h1 13 0 (by omega) (by omega)]; exact FR 13 0 (by omega) (by omega)
      · rw [h2 18 (by omega), FR 16 0 (by omega) (by omega)]
      · rw [h1 25 0 (by omega) (by omega)]; exact FR 25 0 (by omega) (by omega)
    · rw [r1, Prod.mk.injEq] at r
      exact absurd r.1 (by omega)
