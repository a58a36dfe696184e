/-! READING A TOWN: what is read of the bytes b, as (0, place behind it, the town) or (fault, its place, nothing) -/
abbrev RR : Type := Nat × Nat × (Nat → Nat)
def dgB (c : Nat) : Bool := decide (48 ≤ c) && decide (c ≤ 57)
def fgN (b : Nat → Nat) (p : Nat) : Nat := if dgB (b p) = true then (if dgB (b (p + 1)) = true then (if dgB (b (p + 2)) = true then 3 else 2) else 1) else 0
def nvN (b : Nat → Nat) (p : Nat) : Nat := if dgB (b (p + 1)) = true then (b p - 48) * 10 + b (p + 1) - 48 else b p - 48
def z0T : Nat → Nat := fun _ => 0
def sLit (b : Nat → Nat) (c p : Nat) (K : Nat → RR) : RR := if b p = c then K (p + 1) else (1, p, z0T)
def sNum (b : Nat → Nat) (lo hi p : Nat) (K : Nat → Nat → RR) : RR := if fgN b p = 0 ∨ fgN b p = 3 then (1, p, z0T) else if nvN b p < lo ∨ hi < nvN b p then (2, p, z0T) else K (nvN b p) (p + fgN b p)
def addF (T : Nat → Nat) (v : Nat) : Nat → Nat := ups (ups T (5 + T 1) v) 1 (T 1 + 1)
def addS (T : Nat → Nat) (v : Nat) : Nat → Nat := ups T (13 + v) (T (13 + v) + 1)
def addP (T : Nat → Nat) (s v w : Nat) : Nat → Nat := ups (ups (ups (ups T (21 + 4 * T 2) s) (22 + 4 * T 2) v) (23 + 4 * T 2) w) 2 (T 2 + 1)
def kndN (c : Nat) : Nat := if c = 97 then 1 else if c = 108 then 2 else if c = 99 then 3 else if c = 114 then 4 else if c = 119 then 5 else 0
def sFlame (b : Nat → Nat) (T : Nat → Nat) (p : Nat) (K : (Nat → Nat) → Nat → RR) : RR :=
  if b p = 102 ∧ T 1 = 8 then (3, p, z0T) else sLit b 102 p fun p => sNum b 0 20 p fun v p => sLit b 59 p fun p => K (addF T v) p
def sFlames (b : Nat → Nat) (K : (Nat → Nat) → Nat → RR) : Nat → (Nat → Nat) → Nat → RR
  | 0, T, p => K T p
  | m + 1, T, p => if 4 ≤ T 1 ∧ b p ≠ 102 then K T p else sFlame b T p (sFlames b K m)
def sSits (b : Nat → Nat) (K : (Nat → Nat) → Nat → RR) : Nat → (Nat → Nat) → Nat → RR
  | 0, T, p => K T p
  | m + 1, T, p => if b p = 122 then (if m = 0 then (3, p, z0T) else sNum b 0 (T 1 - 1) (p + 1) fun v p => sLit b 59 p fun p => sSits b K m (addS T v) p) else K T p
def sPl (b : Nat → Nat) (T : Nat → Nat) (p : Nat) (K : (Nat → Nat) → Nat → RR) : RR :=
  if kndN (b p) = 0 then (1, p, z0T) else if T 2 = 6 then (3, p, z0T) else sNum b 0 (T 1 - 1) (p + 1) fun v p1 => sLit b 44 p1 fun p2 => sNum b 0 1 p2 fun w p3 => sLit b 59 p3 fun p4 => K (addP T (kndN (b p)) v w) p4
def sPls (b : Nat → Nat) (K : (Nat → Nat) → Nat → RR) : Nat → (Nat → Nat) → Nat → RR
  | 0, T, p => K T p
  | m + 1, T, p => if b p = 256 then K T p else sPl b T p (sPls b K m)
def sTown (b : Nat → Nat) : RR := sLit b 116 0 fun p => sNum b 1 3 p fun v p => sLit b 59 p fun p => sFlames b (sSits b (sPls b (fun T p => (0, p, T)) 7) 6) 9 (ups z0T 0 v) p
def okP (i : Nat) (T : Nat → Nat) : Prop := T 0 ≤ 3 ∧ T 1 ≤ 8 ∧ T 2 ≤ 6 ∧ T 3 = 0 ∧ T 4 = 0 ∧ (∀ p, p < 8 → T (5 + p) ≤ 20) ∧ sitN T ≤ i ∧ (∀ q, q < T 2 → 1 ≤ T (21 + 4 * q) ∧ T (21 + 4 * q) ≤ 5 ∧ T (22 + 4 * q) < T 1 ∧ T (23 + 4 * q) ≤ 1) ∧ ∀ q, T (24 + 4 * q) = 0
section Pure
variable {T : Nat → Nat} {i v : Nat}
theorem addF_o {j : Nat} (h1 : j ≠ 1) (h2 : j ≠ 5 + T 1) : addF T v j = T j := by
  unfold addF
  rw [ups_n h1, ups_n h2]
theorem addF_1 : addF T v 1 = T 1 + 1 := ups_s
theorem addF_v {j : Nat} (h : j = 5 + T 1) : addF T v j = v := by
  unfold addF
  rw [ups_n (by omega), h, ups_s]
theorem addS_o {j : Nat} (h : j ≠ 13 + v) : addS T v j = T j := ups_n h
theorem addP_o {s w j : Nat} (h : j ≠ 2) (h1 : j ≠ 21 + 4 * T 2) (h2 : j ≠ 22 + 4 * T 2) (h3 : j ≠ 23 + 4 * T 2) : addP T s v w j = T j := by
  unfold addP
  rw [ups_n h, ups_n h3, ups_n h2, ups_n h1]
theorem addP_2 {s w : Nat} : addP T s v w 2 = T 2 + 1 := ups_s
theorem addP_s {s w j : Nat} (h : j = 21 + 4 * T 2) : addP T s v w j = s := by
  unfold addP
  rw [ups_n (by omega), ups_n (by omega), ups_n (by omega), h, ups_s]
theorem addP_v {s w j : Nat} (h : j = 22 + 4 * T 2) : addP T s v w j = v := by
  unfold addP
  rw [ups_n (by omega), ups_n (by omega), h, ups_s]
theorem addP_w {s w j : Nat} (h : j = 23 + 4 * T 2) : addP T s v w j = w := by
  unfold addP
  rw [ups_n (by omega), h, ups_s]
theorem okP_F (h : okP i T) (h2 : T 2 = 0) (h8 : T 1 < 8) (hv : v ≤ 20) : okP i (addF T v) ∧ addF T v 2 = 0 := by
  obtain ⟨a0, a1, a2, a3, a4, a5, a6, a7, a8⟩ := h
  have e2 : addF T v 2 = T 2 := addF_o (by omega) (by omega)
  refine ⟨⟨by rw [addF_o (by omega) (by omega)]; exact a0, by rw [addF_1]; omega, by rw [e2]; exact a2, by rw [addF_o (by omega) (by omega)]; exact a3, by rw [addF_o (by omega) (by omega)]; exact a4, fun p hp => ?_, ?_, fun q hq => ?_, fun q => ?_⟩, by rw [e2]; exact h2⟩
  · by_cases e : p = T 1
    · rw [addF_v (by omega)]; exact hv
    · rw [addF_o (by omega) (by omega)]; exact a5 p hp
  · have e : sitN (addF T v) = sitN T := sumN_c 8 (fun p hp => addF_o (by omega) (by omega))
    rw [e]; exact a6
  · rw [e2, h2] at hq
    exact absurd hq (by omega)
  · rw [addF_o (by omega) (by omega)]; exact a8 q
theorem sitN_S (hv : v < 8) : sitN (addS T v) = sitN T + 1 := by
  unfold sitN
  rw [sit8, sit8]
  unfold addS ups
  rcases (by omega : v = 0 ∨ v = 1 ∨ v = 2 ∨ v = 3 ∨ v = 4 ∨ v = 5 ∨ v = 6 ∨ v = 7) with rfl | rfl | rfl | rfl | rfl | rfl | rfl | rfl <;> simp <;> omega
theorem okP_S (h : okP i T) (hv : v < 8) : okP (i + 1) (addS T v) := by
  obtain ⟨a0, a1, a2, a3, a4, a5, a6, a7, a8⟩ := h
  refine ⟨by rw [addS_o (by omega)]; exact a0, by rw [addS_o (by omega)]; exact a1, by rw [addS_o (by omega)]; exact a2, by rw [addS_o (by omega)]; exact a3, by rw [addS_o (by omega)]; exact a4, fun p hp => by rw [addS_o (by omega)]; exact a5 p hp, by rw [sitN_S hv]; omega, fun q hq => ?_, fun q => by rw [addS_o (by omega)]; exact a8 q⟩
  rw [addS_o (by omega)] at hq
  rw [addS_o (by omega), addS_o (by omega), addS_o (by omega), addS_o (by omega)]
  exact a7 q hq
theorem okP_P {s w : Nat} (h : okP i T) (h6 : T 2 < 6) (hs : 1 ≤ s ∧ s ≤ 5) (hv : v < T 1) (hw : w ≤ 1) : okP i (addP T s v w) := by
  obtain ⟨a0, a1, a2, a3, a4, a5, a6, a7, a8⟩ := h
  have O : ∀ j, j < 21 → j ≠ 2 → addP T s v w j = T j := fun j y1 y2 => addP_o y2 (by omega) (by omega) (by omega)
  refine ⟨by rw [O 0 (by omega) (by omega)]; exact a0, by rw [O 1 (by omega) (by omega)]; exact a1, by rw [addP_2]; omega, by rw [O 3 (by omega) (by omega)]; exact a3, by rw [O 4 (by omega) (by omega)]; exact a4, fun p hp => by rw [O _ (by omega) (by omega)]; exact a5 p hp, ?_, fun q hq => ?_, fun q => by rw [addP_o (by omega) (by omega) (by omega) (by omega)]; exact a8 q⟩
  · have e : sitN (addP T s v w) = sitN T := sumN_c 8 (fun p hp => O _ (by omega) (by omega))
    rw [e]; exact a6
  · rw [addP_2] at hq
    rw [O 1 (by omega) (by omega)]
    by_cases e : q = T 2
    · rw [addP_s (by omega), addP_v (by omega), addP_w (by omega)]
      exact ⟨hs.1, hs.2, hv, hw⟩
    · rw [addP_o (by omega) (by omega) (by omega) (by omega), addP_o (by omega) (by omega) (by omega) (by omega), addP_o (by omega) (by omega) (by omega) (by omega)]
      exact a7 q (by omega)
theorem okP_N (h : okP 5 T) (h4 : 4 ≤ T 1) : okN T := by
  obtain ⟨a0, a1, a2, a3, a4, a5, a6, a7, a8⟩ := h
  refine ⟨⟨a0, h4, a1, a2, by omega, fun p hp => by have := a5 p hp; omega, fun p hp => ?_, fun q hq => ?_⟩, by omega, a5, by omega, by omega⟩
  · have : T (13 + p) ≤ sitN T := by
      unfold sitN
      rw [sit8]
      rcases (by omega : p = 0 ∨ p = 1 ∨ p = 2 ∨ p = 3 ∨ p = 4 ∨ p = 5 ∨ p = 6 ∨ p = 7) with rfl | rfl | rfl | rfl | rfl | rfl | rfl | rfl <;> omega
    omega
  · obtain ⟨y1, y2, y3, y4⟩ := a7 q hq
    exact ⟨y1, y2, y3, y4, by rw [a8 q]; omega⟩
end Pure
theorem dgB_t {c : Nat} : dgB c = true ↔ 48 ≤ c ∧ c ≤ 57 := by
  unfold dgB
  rw [Bool.and_eq_true, decide_eq_true_iff, decide_eq_true_iff]
theorem dgB_f {c : Nat} : dgB c = false ↔ ¬ (48 ≤ c ∧ c ≤ 57) := by
  rw [← dgB_t]
  cases dgB c <;> simp
theorem nv_le {b : Nat → Nat} {p : Nat} (h : fgN b p ≠ 0) : nvN b p ≤ 99 := by
  unfold fgN at h
  unfold nvN
  by_cases e : dgB (b p) = true
  · have e1 := dgB_t.mp e
    by_cases e2 : dgB (b (p + 1)) = true
    · have e3 := dgB_t.mp e2
      rw [if_pos e2]; omega
    · rw [if_neg e2]; omega
  · rw [if_neg e] at h
    exact absurd rfl h
theorem knd_b {c : Nat} : kndN c ≤ 5 := by
  unfold kndN
  repeat' split
  all_goals omega
/-! the class's side -/
def TPb (M0 : Mem) (b : Nat → Nat) (n : Nat) : Prop := n ≤ 90 ∧ M0 4 0 1 = nI n ∧ (∀ j, j < n → M0 5 0 j = nI (b j) ∧ b j < 256) ∧ ∀ j, n ≤ j → b j = 256
def CP (M0 : Mem) (n : Nat) (M : Mem) (p : Nat) (T : Nat → Nat) : Prop := p ≤ n ∧ M 4 0 4 = nI p ∧ (∀ j, j ≠ 4 → M 4 0 j = M0 4 0 j) ∧ (∀ k i, ¬ (6 ≤ k ∧ k ≤ 11 ∧ i = 1) → ¬ (k = 4 ∧ i = 0) → M k i = M0 k i) ∧ CT M 1 T
def CF (M0 : Mem) (n : Nat) (R : RR) (M : Mem) : Prop := ∃ k p, R = (k, p, z0T) ∧ 1 ≤ k ∧ k ≤ 3 ∧ p ≤ n ∧ M 4 0 2 = nI k ∧ M 4 0 3 = nI p ∧ (∀ j, j ≠ 2 → j ≠ 3 → j ≠ 4 → M 4 0 j = M0 4 0 j) ∧ ∀ k i, ¬ (6 ≤ k ∧ k ≤ 11 ∧ i = 1) → ¬ (k = 4 ∧ i = 0) → M k i = M0 k i
section Cs
variable {d n p : Nat} {Q : Option AV → Mem → Prop} {M0 M M' : Mem} {b T T' : Nat → Nat} {R : RR}
theorem TPb.lt {c : Nat} (t : TPb M0 b n) (hc : c < 256) (e : b p = c) : p < n := by
  rcases Nat.lt_or_ge p n with y | y
  · exact y
  · have := t.2.2.2 p y
    omega
theorem CP.tw (h : CP M0 n M p T) (f : ∀ k i, ¬ (6 ≤ k ∧ k ≤ 11 ∧ i = 1) → M' k i = M k i) (g : CT M' 1 T') : CP M0 n M' p T' := by
  obtain ⟨g1, g2, g3, g4, g5⟩ := h
  refine ⟨g1, by rw [f 4 0 (by omega)]; exact g2, fun j hj => by rw [f 4 0 (by omega)]; exact g3 j hj, fun k i a1 a2 => by rw [f k i a1]; exact g4 k i a1 a2, g⟩
theorem CF.tw (h : CF M0 n R M) (f : ∀ k i, ¬ (6 ≤ k ∧ k ≤ 11 ∧ i = 1) → M' k i = M k i) : CF M0 n R M' := by
  obtain ⟨k, p, r, k1, k3, g1, g2, g3, g4, g5⟩ := h
  refine ⟨k, p, r, k1, k3, g1, by rw [f 4 0 (by omega)]; exact g2, by rw [f 4 0 (by omega)]; exact g3, fun j y1 y2 y3 => by rw [f 4 0 (by omega)]; exact g4 j y1 y2 y3, fun k i a1 a2 => by rw [f k i a1]; exact g5 k i a1 a2⟩
theorem CP.nx {k : Nat} (h : CP M0 n M p T) (hk : p + k ≤ n) : CP M0 n (mup M 4 0 4 (M 4 0 4 + nI k)) (p + k) T := by
  obtain ⟨g1, g2, g3, g4, g5⟩ := h
  refine ⟨hk, ?_, fun j hj => ?_, fun k i a1 a2 => ?_, g5.fr (fun k a1 a2 => mup_r (by omega))⟩
  · rw [mup_ap, if_pos ⟨rfl, rfl, rfl⟩, g2, nI_add]
  · rw [mup_ap, if_neg (by omega)]; exact g3 j hj
  · rw [mup_r a2]; exact g4 k i a1 a2
theorem c_isNext {c : Nat} (t : TPb M0 b n) (h : CP M0 n M p T) (hc : c < 256) (h1 : b p = c → Q (some (zI (nI 1))) M) (h0 : b p ≠ c → Q (some (zI (nI 0))) M) : wpd (d + 1) 19 [zR 4 0, zI (nI c)] M Q := by
  obtain ⟨t1, t2, t3, t4⟩ := t
  obtain ⟨g1, g2, g3, g4, g5⟩ := h
  refine en_X2_isNext _ _ ?_
  rw [g3 1 (by omega), t2, g2, ncl (by omega), g4 5 0 (by omega) (by omega)]
  refine ⟨fun z => ⟨z0, h0 ?_⟩, fun z => ?_⟩
  · rw [nle (by omega) (by omega)] at z
    have := t4 p z
    omega
  · rw [nle (by omega) (by omega)] at z
    obtain ⟨y1, y2⟩ := t3 p (by omega)
    refine ⟨vin_i (by omega) (by omega), fun y => ⟨z0, h0 (fun e => y ?_)⟩, fun y => ⟨z1, h1 ?_⟩⟩
    · rw [y1, e]
    · rw [y1, neq (by omega) (by omega)] at y
      exact y
theorem c_faultHere {k : Nat} (h : CP M0 n M p T) (hR : R = (k, p, z0T)) (hk : 1 ≤ k ∧ k ≤ 3) (h0 : ∀ M', CF M0 n R M' → Q (some (zI (nI 0))) M') : wpd (d + 1) 23 [zR 4 0, zI (nI k)] M Q := by
  obtain ⟨g1, g2, g3, g4, g5⟩ := h
  refine en_X2_faultHere _ _ ⟨z0, h0 _ ⟨k, p, hR, hk.1, hk.2, g1, ?_, ?_, fun j a1 a2 a3 => ?_, fun k i a1 a2 => ?_⟩⟩
  · rw [mup_ap, if_neg (by omega), mup_ap, if_pos ⟨rfl, rfl, rfl⟩]
  · rw [mup_ap, if_pos ⟨rfl, rfl, rfl⟩]; exact g2
  · rw [mup_ap, if_neg (by omega), mup_ap, if_neg (by omega)]; exact g3 j a3
  · rw [mup_r a2, mup_r a2]; exact g4 k i a1 a2
theorem c_psl {c : Nat} {K : Nat → RR} (t : TPb M0 b n) (h : CP M0 n M p T) (hc : c < 256) (hR : R = sLit b c p K) (h1 : ∀ M', b p = c → CP M0 n M' (p + 1) T → R = K (p + 1) → Q (some (zI (nI 1))) M') (h0 : ∀ M', CF M0 n R M' → Q (some (zI (nI 0))) M') : wpd (d + 2) 20 [zR 4 0, zI (nI c)] M Q := by
  refine en_X2_passes _ _ (c_isNext t h hc (fun e => gTn ⟨z1, h1 _ e (h.nx ?_) (hR.trans (if_pos e))⟩) (fun e => gFn (c_faultHere h (hR.trans (if_neg e)) (by omega) (fun M' f => gO_i ⟨z0, h0 M' f⟩))))
  have := t.lt hc e
  omega
theorem c_isFigure {c : Nat} (hc : c < 2147483648) (h1 : dgB c = true → Q (some (zI (nI 1))) M) (h0 : dgB c = false → Q (some (zI (nI 0))) M) : wpd (d + 1) 22 [zI (nI c)] M Q := by
  refine en_X2_isFigure _ _ ?_
  rw [nlt hc (by omega), nlt (by omega) hc]
  refine ⟨fun z => ⟨z0, h0 (dgB_f.mpr (by omega))⟩, fun z => ⟨fun y => ⟨z0, h0 (dgB_f.mpr (by omega))⟩, fun y => ⟨z1, h1 (dgB_t.mpr (by omega))⟩⟩⟩
theorem rn_11 {f v : Nat} {x1 x2 : Int32} (t : TPb M0 b n) (h : CP M0 n M p T) (hf : f ≤ 3) (hs : f = 3 ∨ dgB (b (p + f)) = false → WP (wpd (d + 1)) 1 T_X2_readNumber Q (65, [zR 4 0, zI x1, zI x2, zI (nI f), zI (nI v), zU], []) M)
    (hg : f < 3 → dgB (b (p + f)) = true → p + f < n → WP (wpd (d + 1)) 1 T_X2_readNumber Q (11, [zR 4 0, zI x1, zI x2, zI (nI (f + 1)), zI (nI (v * 10 + b (p + f) - 48)), zI (nI (p + f + 1))], []) M) : WP (wpd (d + 1)) 1 T_X2_readNumber Q (11, [zR 4 0, zI x1, zI x2, zI (nI f), zI (nI v), zI (nI (p + f))], []) M := by
  obtain ⟨t1, t2, t3, t4⟩ := t
  obtain ⟨g1, g2, g3, g4, g5⟩ := h
  refine cp2_X2_readNumber_11 _ _ _ _ _ _ ?_
  rw [g3 1 (by omega), t2, nle (by omega) (by omega), nle (by omega) (by omega), g4 5 0 (by omega) (by omega), ncl (by omega)]
  refine ⟨fun z => hs (Or.inr ?_), fun z => ⟨fun y => hs (Or.inl (by omega)), fun y => ⟨vin_i (by omega) (by omega), ?_⟩⟩⟩
  · rw [t4 _ z]; rfl
  · obtain ⟨y1, y2⟩ := t3 (p + f) (by omega)
    rw [y1]
    refine c_isFigure (by omega) (fun e => gTe ⟨vin_i (by omega) (by omega), ?_⟩) (fun e => gFe (hs (Or.inr e)))
    have e1 := dgB_t.mp e
    rw [g4 5 0 (by omega) (by omega), y1, pk_mul, nI_add, nI_add, nI_add, pk_sub (by omega)]
    exact hg (by omega) e (by omega)
theorem rn_65 {f v lo hi : Nat} {K : Nat → Nat → RR} (h : CP M0 n M p T) (hf : f = fgN b p) (hv : f ≠ 0 → f ≠ 3 → v = nvN b p ∧ p + f ≤ n) (hR : R = sNum b lo hi p K) (hl : lo ≤ 100) (hh : hi ≤ 100)
    (h1 : ∀ M', CP M0 n M' (p + fgN b p) T → R = K (nvN b p) (p + fgN b p) → nvN b p ≤ hi → Q (some (zI (nI (nvN b p)))) M') (h0 : ∀ M', CF M0 n R M' → Q (some (zI (-1))) M') : WP (wpd (d + 1)) 1 T_X2_readNumber Q (65, [zR 4 0, zI (nI lo), zI (nI hi), zI (nI f), zI (nI v), zU], []) M := by
  have f3 : fgN b p ≤ 3 := by
    unfold fgN
    repeat' split
    all_goals omega
  have fl1 : f = 0 ∨ f = 3 → wpd (d + 1) 23 [zR 4 0, zI (nI 1)] M (fun r1 M1 => gO r1 fun v1 => Q (some (zI (-1))) M1) := fun e => c_faultHere h (hR.trans (if_pos (by omega))) (by omega) (fun M' g => gO_i (h0 M' g))
  refine cp2_X2_readNumber_65 _ _ _ _ _ ⟨fun z => fl1 (Or.inl ((neq (by omega) (by omega)).mp z)), fun z => ?_⟩
  rw [neq (by omega) (by omega)] at z
  have nv := nv_le (b := b) (p := p) (by omega)
  by_cases e3 : f = 3
  · exact ⟨fun y => absurd ((nle (by omega) (by omega)).mp y) (by omega), fun _ => fl1 (Or.inr e3)⟩
  · obtain ⟨e4, e5⟩ := hv z e3
    rw [e4]
    have hR2 := hR.trans (if_neg (by omega))
    have fl2 : nvN b p < lo ∨ hi < nvN b p → wpd (d + 1) 23 [zR 4 0, zI (nI 2)] M (fun r1 M1 => gO r1 fun v1 => Q (some (zI (-1))) M1) := fun e => c_faultHere h (hR2.trans (if_pos e)) (by omega) (fun M' g => gO_i (h0 M' g))
    refine ⟨fun _ => ⟨fun y => fl2 (Or.inl ((nlt (by omega) (by omega)).mp y)), fun y => ⟨fun x => ?_, fun x => fl2 (Or.inr ?_)⟩⟩, fun y => absurd ((nle (by omega) (by omega)).mpr (by omega)) y⟩
    · rw [nlt (by omega) (by omega)] at y
      rw [nle (by omega) (by omega)] at x
      rw [hf]
      exact h1 _ (h.nx (by omega)) (hR2.trans (if_neg (by omega))) x
    · rw [nle (by omega) (by omega)] at x
      omega
theorem c_readNumber {lo hi : Nat} {K : Nat → Nat → RR} (t : TPb M0 b n) (h : CP M0 n M p T) (hR : R = sNum b lo hi p K) (hl : lo ≤ 100) (hh : hi ≤ 100)
    (h1 : ∀ M', CP M0 n M' (p + fgN b p) T → R = K (nvN b p) (p + fgN b p) → nvN b p ≤ hi → Q (some (zI (nI (nvN b p)))) M') (h0 : ∀ M', CF M0 n R M' → Q (some (zI (-1))) M') : wpd (d + 2) 21 [zR 4 0, zI (nI lo), zI (nI hi)] M Q := by
  refine en2_X2_readNumber _ _ _ ?_
  rw [h.2.1]
  refine rn_11 (f := 0) t h (by omega) (fun e => ?_) (fun _ d0 l0 => ?_)
  · rcases e with e | e
    · omega
    · refine rn_65 h ?_ (fun y => absurd rfl y) hR hl hh h1 h0
      unfold fgN
      rw [if_neg (by rw [show b p = b (p + 0) from rfl, e]; decide)]
  · refine rn_11 (f := 1) t h (by omega) (fun e => ?_) (fun _ d1 l1 => ?_)
    · rcases e with e | e
      · omega
      · have ef : fgN b p = 1 := by
          unfold fgN
          rw [if_pos (show dgB (b p) = true from d0), if_neg (by rw [e]; decide)]
        refine rn_65 h ef.symm (fun _ _ => ⟨?_, by omega⟩) hR hl hh h1 h0
        unfold nvN
        rw [if_neg (by rw [e]; decide), Nat.zero_mul, Nat.zero_add]
        rfl
    · have ev : nvN b p = (0 * 10 + b (p + 0) - 48) * 10 + b (p + 1) - 48 := by
        unfold nvN
        rw [if_pos d1, Nat.zero_mul, Nat.zero_add]
        rfl
      refine rn_11 (f := 2) t h (by omega) (fun e => ?_) (fun _ d2 l2 => ?_)
      · rcases e with e | e
        · omega
        · have ef : fgN b p = 2 := by
            unfold fgN
            rw [if_pos (show dgB (b p) = true from d0), if_pos d1, if_neg (by rw [e]; decide)]
          exact rn_65 h ef.symm (fun _ _ => ⟨ev.symm, by omega⟩) hR hl hh h1 h0
      · have ef : fgN b p = 3 := by
          unfold fgN
          rw [if_pos (show dgB (b p) = true from d0), if_pos d1, if_pos d2]
        exact rn_11 (f := 3) t h (by omega) (fun _ => rn_65 h ef.symm (fun _ y => absurd rfl y) hR hl hh h1 h0) (fun y => by omega)
end Cs
