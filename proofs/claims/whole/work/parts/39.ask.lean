/-! ask -/
def TC (M : Mem) (m : Nat) (g : Nat → Int32) : Prop := M 0 0 7 = nI m ∧ ∀ j, j < m → M 15 0 j = g j
def TM (M : Mem) (m : Nat) (g : Nat → Int32) : Prop := M 16 0 23 = nI m ∧ ∀ j, j < m → M 29 0 j = g j
def ap1 (g : Nat → Int32) (m : Nat) (v : Int32) : Nat → Int32 := fun j => if j = m then v else g j
def aps (g : Nat → Int32) : Nat → List Int32 → Nat → Int32
  | _, [] => g
  | m, a :: l => aps (ap1 g m a) (m + 1) l
theorem aps_app (l l' : List Int32) : ∀ (g : Nat → Int32) (m : Nat), aps g m (l ++ l') = aps (aps g m l) (m + l.length) l' := by
  induction l with
  | nil => intro g m; rfl
  | cons a l ih =>
    intro g m
    show aps (ap1 g m a) (m + 1) (l ++ l') = aps (aps (ap1 g m a) (m + 1) l) (m + (l.length + 1)) l'
    rw [ih, show m + 1 + l.length = m + (l.length + 1) by omega]
/-- only the class's trace has changed -/
def FT (M M' : Mem) : Prop := (∀ k i, ¬ (k = 0 ∧ i = 0) → ¬ (k = 15 ∧ i = 0) → M' k i = M k i) ∧ ∀ j, j ≠ 7 → M' 0 0 j = M 0 0 j
def FU (M M' : Mem) : Prop := (∀ k i, ¬ (k = 16 ∧ i = 0) → ¬ (k = 29 ∧ i = 0) → M' k i = M k i) ∧ ∀ j, j ≠ 23 → M' 16 0 j = M 16 0 j
theorem FT.tr {M M1 M2 : Mem} (h : FT M M1) (g : FT M1 M2) : FT M M2 := ⟨fun k i a b => (g.1 k i a b).trans (h.1 k i a b), fun j hj => (g.2 j hj).trans (h.2 j hj)⟩
theorem FU.tr {M M1 M2 : Mem} (h : FU M M1) (g : FU M1 M2) : FU M M2 := ⟨fun k i a b => (g.1 k i a b).trans (h.1 k i a b), fun j hj => (g.2 j hj).trans (h.2 j hj)⟩
section As
variable {d : Nat} {Q : Option AV → Mem → Prop} {M : Mem} {m : Nat} {g : Nat → Int32} {v : Int32}
theorem c_trace (h : TC M m g) (hm : m < 16) (hQ : ∀ M', FT M M' → TC M' (m + 1) (ap1 g m v) → Q none M') : wpd (d + 1) 108 [zR 0 0, zI v] M Q := by
  refine en_X4_leaveTrace _ _ ?_
  rw [h.1]
  refine ⟨fun z => ?_, fun _ => ⟨vin_i (by omega) (by omega), ?_⟩⟩
  · rw [nle (by omega) (by omega)] at z
    omega
  · rw [ncl (by omega), nI_add]
    refine hQ _ ⟨fun k i a b => by rw [mup_r a, mup_r b], fun j hj => by rw [mup_ap, if_neg (by omega), mup_r (by omega)]⟩ ⟨by rw [mup_ap, if_pos ⟨rfl, rfl, rfl⟩], fun j hj => ?_⟩
    rw [mup_r (by omega), mup_ap]
    unfold ap1
    by_cases e : j = m
    · rw [if_pos ⟨rfl, rfl, e⟩, if_pos e]
    · rw [if_neg (by omega), if_neg e]
      exact h.2 j (by omega)
theorem m_trace (h : TM M m g) (hm : m < 16) (hQ : ∀ M', FU M M' → TM M' (m + 1) (ap1 g m v) → Q none M') : wpd (d + 1) 182 [zR 16 0, zI v] M Q := by
  refine en_X5_begins _ _ ?_
  rw [h.1]
  refine ⟨fun z => ?_, fun _ => ⟨vin_i (by omega) (by omega), ?_⟩⟩
  · rw [nle (by omega) (by omega)] at z
    omega
  · rw [ncl (by omega), nI_add]
    refine hQ _ ⟨fun k i a b => by rw [mup_r a, mup_r b], fun j hj => by rw [mup_ap, if_neg (by omega), mup_r (by omega)]⟩ ⟨by rw [mup_ap, if_pos ⟨rfl, rfl, rfl⟩], fun j hj => ?_⟩
    rw [mup_r (by omega), mup_ap]
    unfold ap1
    by_cases e : j = m
    · rw [if_pos ⟨rfl, rfl, e⟩, if_pos e]
    · rw [if_neg (by omega), if_neg e]
      exact h.2 j (by omega)
end As
/-- a body that begins: what it leaves in the trace, what it answers -/
def Bd (d : Nat) (T : Nat → Nat) (q dep : Nat) (b : Int32) (l : List Int32) (v : Int32) : Prop := ∀ (M : Mem) (m : Nat) (g : Nat → Int32) (Q : Option AV → Mem → Prop), CT M 0 T → ISt M → TC M m g → m + l.length ≤ 16 → (∀ M', FT M M' → TC M' (m + l.length) (aps g m l) → Q (some (zI v)) M') → wpd d 107 [zR 0 0, zI b, zI (nI q), zI (nI dep)] M Q
theorem CT.ft {M M' : Mem} {T : Nat → Nat} (h : CT M 0 T) (f : FT M M') : CT M' 0 T := h.fr (fun k a b => f.1 k 0 (by omega) (by omega))
theorem ISt.ft {M M' : Mem} (h : ISt M) (f : FT M M') : ISt M' := h.fr (fun k a => funext (fun i => f.1 k i (by omega) (by omega)))
section Bo
variable {d : Nat} {T : Nat → Nat} {q dep : Nat}
theorem bd10 (hq : q < T 2) (h6 : T 2 ≤ 6) (hd : dep ≤ 10) : Bd (d + 2) T q dep (nI 10) [nI 10] (nI (T (23 + 4 * q))) := by
  intro M m g Q hc hst ht hl hQ
  have hl : m + 1 ≤ 16 := hl
  refine en_X4_beginBody _ _ _ _ ⟨fun _ => ?_, fun z => absurd ((nle (by omega) (by omega)).mpr hd) z⟩
  refine c_trace ht (by omega) (fun M1 f1 t1 => gN_i ?_)
  refine en_X4_bodyGives _ _ _ _ ?_
  refine ⟨fun _ => ⟨vin_i (by omega) (by omega), by rw [ncl (by omega), ((hc.ft f1).1.2.2.2.2.2.2.2 q hq).2.2]; exact gO_i (hQ M1 f1 t1)⟩, fun z => absurd rfl z⟩
theorem bd20 (hq : q < T 2) (h6 : T 2 ≤ 6) (hd : dep ≤ 10) : Bd (d + 2) T q dep (nI 20) [nI 20] (nI q) := by
  intro M m g Q hc hst ht hl hQ
  have hl : m + 1 ≤ 16 := hl
  refine en_X4_beginBody _ _ _ _ ⟨fun _ => ?_, fun z => absurd ((nle (by omega) (by omega)).mpr hd) z⟩
  refine c_trace ht (by omega) (fun M1 f1 t1 => gN_i ?_)
  refine en_X4_bodyGives _ _ _ _ ?_
  refine ⟨fun z => absurd z (by decide), fun _ => ⟨fun z => absurd z (by decide), fun _ => ⟨fun z => absurd z (by decide), fun _ => ⟨fun z => absurd z (by decide), fun _ => ⟨fun z => absurd z (by decide), fun _ => ⟨fun z => absurd z (by decide), fun _ => ⟨fun z => absurd z (by decide), fun _ => ⟨fun z => absurd z (by decide), fun _ => ⟨fun z => absurd z (by decide), fun _ => ⟨fun z => absurd z (by decide), fun _ => ⟨fun _ => gO_i (hQ M1 f1 t1), fun z => absurd rfl z⟩⟩⟩⟩⟩⟩⟩⟩⟩⟩⟩
theorem bd21  {l : List Int32} {v : Int32} (hq : q < T 2) (h6 : T 2 ≤ 6) (hd : dep ≤ 10) (h : Bd d T q (dep + 1) (nI 20) l v) (hd1 : 1 ≤ d) : Bd (d + 2) T q dep (nI 21) (nI 21 :: l) (v + nI (T (22 + 4 * q))) := by
  intro M m g Q hc hst ht hl hQ
  have hl : m + (l.length + 1) ≤ 16 := hl
  obtain ⟨e, rfl⟩ : ∃ e, d = e + 1 := ⟨d - 1, by omega⟩
  refine en_X4_beginBody _ _ _ _ ⟨fun _ => ?_, fun z => absurd ((nle (by omega) (by omega)).mpr hd) z⟩
  refine c_trace ht (by omega) (fun M1 f1 t1 => gN_i ?_)
  rw [nI_add]
  refine en_X4_bodyGives _ _ _ _ ?_
  refine ⟨fun z => absurd z (by decide), fun _ => ⟨fun z => absurd z (by decide), fun _ => ⟨fun z => absurd z (by decide), fun _ => ⟨fun z => absurd z (by decide), fun _ => ⟨fun z => absurd z (by decide), fun _ => ⟨fun z => absurd z (by decide), fun _ => ⟨fun z => absurd z (by decide), fun _ => ⟨fun z => absurd z (by decide), fun _ => ⟨fun z => absurd z (by decide), fun _ => ⟨fun z => absurd z (by decide), fun _ => ⟨fun z => absurd z (by decide), fun _ => ⟨fun _ => h _ _ _ _ (hc.ft f1) (hst.ft f1) t1 (by omega) (fun M2 f2 t2 => gO_i ?_), fun z => absurd rfl z⟩⟩⟩⟩⟩⟩⟩⟩⟩⟩⟩⟩
  have t3 : TC M2 (m + (l.length + 1)) (aps g m (nI 21 :: l)) := by
    rw [show m + (l.length + 1) = m + 1 + l.length by omega]
    exact t2
  refine ⟨vin_i (by omega) (by omega), ?_⟩
  rw [ncl (by omega), ((hc.ft (f1.tr f2)).1.2.2.2.2.2.2.2 q hq).2.1]
  exact gO_i (hQ M2 (f1.tr f2) t3)
theorem bd22  {l : List Int32} {v : Int32} (hq : q < T 2) (h6 : T 2 ≤ 6) (hd : dep ≤ 10) (h : Bd d T q (dep + 1) (nI 21) l v) (hd1 : 1 ≤ d) : Bd (d + 2) T q dep (nI 22) (nI 22 :: l) (v - nI 1000) := by
  intro M m g Q hc hst ht hl hQ
  have hl : m + (l.length + 1) ≤ 16 := hl
  obtain ⟨e, rfl⟩ : ∃ e, d = e + 1 := ⟨d - 1, by omega⟩
  refine en_X4_beginBody _ _ _ _ ⟨fun _ => ?_, fun z => absurd ((nle (by omega) (by omega)).mpr hd) z⟩
  refine c_trace ht (by omega) (fun M1 f1 t1 => gN_i ?_)
  rw [nI_add]
  refine en_X4_bodyGives _ _ _ _ ?_
  refine ⟨fun z => absurd z (by decide), fun _ => ⟨fun z => absurd z (by decide), fun _ => ⟨fun z => absurd z (by decide), fun _ => ⟨fun z => absurd z (by decide), fun _ => ⟨fun z => absurd z (by decide), fun _ => ⟨fun z => absurd z (by decide), fun _ => ⟨fun z => absurd z (by decide), fun _ => ⟨fun z => absurd z (by decide), fun _ => ⟨fun z => absurd z (by decide), fun _ => ⟨fun z => absurd z (by decide), fun _ => ⟨fun z => absurd z (by decide), fun _ => ⟨fun z => absurd z (by decide), fun _ => ⟨fun _ => h _ _ _ _ (hc.ft f1) (hst.ft f1) t1 (by omega) (fun M2 f2 t2 => gO_i ?_), fun z => absurd rfl z⟩⟩⟩⟩⟩⟩⟩⟩⟩⟩⟩⟩⟩
  have t3 : TC M2 (m + (l.length + 1)) (aps g m (nI 22 :: l)) := by
    rw [show m + (l.length + 1) = m + 1 + l.length by omega]
    exact t2
  exact gO_i (hQ M2 (f1.tr f2) t3)
theorem bd24  {l : List Int32} {v : Int32} (hq : q < T 2) (h6 : T 2 ≤ 6) (hd : dep ≤ 10) (h : Bd d T q (dep + 1) (nI 21) l v) (hd1 : 1 ≤ d) : Bd (d + 2) T q dep (nI 24) (nI 24 :: l) (v * nI 2) := by
  intro M m g Q hc hst ht hl hQ
  have hl : m + (l.length + 1) ≤ 16 := hl
  obtain ⟨e, rfl⟩ : ∃ e, d = e + 1 := ⟨d - 1, by omega⟩
  refine en_X4_beginBody _ _ _ _ ⟨fun _ => ?_, fun z => absurd ((nle (by omega) (by omega)).mpr hd) z⟩
  refine c_trace ht (by omega) (fun M1 f1 t1 => gN_i ?_)
  rw [nI_add]
  refine en_X4_bodyGives _ _ _ _ ?_
  refine ⟨fun z => absurd z (by decide), fun _ => ⟨fun z => absurd z (by decide), fun _ => ⟨fun z => absurd z (by decide), fun _ => ⟨fun z => absurd z (by decide), fun _ => ⟨fun z => absurd z (by decide), fun _ => ⟨fun z => absurd z (by decide), fun _ => ⟨fun z => absurd z (by decide), fun _ => ⟨fun z => absurd z (by decide), fun _ => ⟨fun z => absurd z (by decide), fun _ => ⟨fun z => absurd z (by decide), fun _ => ⟨fun z => absurd z (by decide), fun _ => ⟨fun z => absurd z (by decide), fun _ => ⟨fun z => absurd z (by decide), fun _ => ⟨fun z => absurd z (by decide), fun _ => ⟨fun _ => h _ _ _ _ (hc.ft f1) (hst.ft f1) t1 (by omega) (fun M2 f2 t2 => gO_i ?_), fun z => absurd rfl z⟩⟩⟩⟩⟩⟩⟩⟩⟩⟩⟩⟩⟩⟩⟩
  have t3 : TC M2 (m + (l.length + 1)) (aps g m (nI 24 :: l)) := by
    rw [show m + (l.length + 1) = m + 1 + l.length by omega]
    exact t2
  exact gO_i (hQ M2 (f1.tr f2) t3)
theorem bd13  {l : List Int32} {v : Int32} (hq : q < T 2) (h6 : T 2 ≤ 6) (hd : dep ≤ 10) (h : Bd d T q (dep + 1) (nI 10) l v) (hd1 : 1 ≤ d) : Bd (d + 2) T q dep (nI 13) (nI 13 :: l) (v - nI 100) := by
  intro M m g Q hc hst ht hl hQ
  have hl : m + (l.length + 1) ≤ 16 := hl
  obtain ⟨e, rfl⟩ : ∃ e, d = e + 1 := ⟨d - 1, by omega⟩
  refine en_X4_beginBody _ _ _ _ ⟨fun _ => ?_, fun z => absurd ((nle (by omega) (by omega)).mpr hd) z⟩
  refine c_trace ht (by omega) (fun M1 f1 t1 => gN_i ?_)
  rw [nI_add]
  refine en_X4_bodyGives _ _ _ _ ?_
  refine ⟨fun z => absurd z (by decide), fun _ => ⟨fun z => absurd z (by decide), fun _ => ⟨fun z => absurd z (by decide), fun _ => ⟨fun _ => h _ _ _ _ (hc.ft f1) (hst.ft f1) t1 (by omega) (fun M2 f2 t2 => gO_i ?_), fun z => absurd rfl z⟩⟩⟩⟩
  have t3 : TC M2 (m + (l.length + 1)) (aps g m (nI 13 :: l)) := by
    rw [show m + (l.length + 1) = m + 1 + l.length by omega]
    exact t2
  exact gO_i (hQ M2 (f1.tr f2) t3)
theorem bd14  {l : List Int32} {v : Int32} (hq : q < T 2) (h6 : T 2 ≤ 6) (hd : dep ≤ 10) (h : Bd d T q (dep + 1) (nI 13) l v) (hd1 : 1 ≤ d) : Bd (d + 2) T q dep (nI 14) (nI 14 :: l) (v * nI 2) := by
  intro M m g Q hc hst ht hl hQ
  have hl : m + (l.length + 1) ≤ 16 := hl
  obtain ⟨e, rfl⟩ : ∃ e, d = e + 1 := ⟨d - 1, by omega⟩
  refine en_X4_beginBody _ _ _ _ ⟨fun _ => ?_, fun z => absurd ((nle (by omega) (by omega)).mpr hd) z⟩
  refine c_trace ht (by omega) (fun M1 f1 t1 => gN_i ?_)
  rw [nI_add]
  refine en_X4_bodyGives _ _ _ _ ?_
  refine ⟨fun z => absurd z (by decide), fun _ => ⟨fun z => absurd z (by decide), fun _ => ⟨fun z => absurd z (by decide), fun _ => ⟨fun z => absurd z (by decide), fun _ => ⟨fun _ => h _ _ _ _ (hc.ft f1) (hst.ft f1) t1 (by omega) (fun M2 f2 t2 => gO_i ?_), fun z => absurd rfl z⟩⟩⟩⟩⟩
  have t3 : TC M2 (m + (l.length + 1)) (aps g m (nI 14 :: l)) := by
    rw [show m + (l.length + 1) = m + 1 + l.length by omega]
    exact t2
  exact gO_i (hQ M2 (f1.tr f2) t3)
theorem bd12  {l : List Int32} {v : Int32} (hq : q < T 2) (h6 : T 2 ≤ 6) (hd : dep ≤ 10) (h : Bd d T q (dep + 1) (nI 11) l v) (hd1 : 1 ≤ d) : Bd (d + 2) T q dep (nI 12) (nI 12 :: l) (-v) := by
  intro M m g Q hc hst ht hl hQ
  have hl : m + (l.length + 1) ≤ 16 := hl
  obtain ⟨e, rfl⟩ : ∃ e, d = e + 1 := ⟨d - 1, by omega⟩
  refine en_X4_beginBody _ _ _ _ ⟨fun _ => ?_, fun z => absurd ((nle (by omega) (by omega)).mpr hd) z⟩
  refine c_trace ht (by omega) (fun M1 f1 t1 => gN_i ?_)
  rw [nI_add]
  refine en_X4_bodyGives _ _ _ _ ?_
  refine ⟨fun z => absurd z (by decide), fun _ => ⟨fun z => absurd z (by decide), fun _ => ⟨fun _ => h _ _ _ _ (hc.ft f1) (hst.ft f1) t1 (by omega) (fun M2 f2 t2 => gO_i ?_), fun z => absurd rfl z⟩⟩⟩
  have t3 : TC M2 (m + (l.length + 1)) (aps g m (nI 12 :: l)) := by
    rw [show m + (l.length + 1) = m + 1 + l.length by omega]
    exact t2
  exact gO_i (hQ M2 (f1.tr f2) t3)
theorem bd11 {l l' : List Int32} {v v' b : Int32} (hq : q < T 2) (h6 : T 2 ≤ 6) (hd : dep ≤ 10) (hk : T (21 + 4 * q) ≤ 5) (hb : mkA (T (21 + 4 * q)) = b) (h : Bd d T q (dep + 1) (nI 10) l v) (h' : Bd d T q (dep + 1) b l' v') (hd1 : 1 ≤ d) : Bd (d + 2) T q dep (nI 11) (nI 11 :: (l ++ l')) (v + v') := by
  intro M m g Q hc hst ht hl hQ
  have hl : m + ((l ++ l').length + 1) ≤ 16 := hl
  rw [List.length_append] at hl
  obtain ⟨e, rfl⟩ : ∃ e, d = e + 1 := ⟨d - 1, by omega⟩
  refine en_X4_beginBody _ _ _ _ ⟨fun _ => ?_, fun z => absurd ((nle (by omega) (by omega)).mpr hd) z⟩
  refine c_trace ht (by omega) (fun M1 f1 t1 => gN_i ?_)
  rw [nI_add]
  refine en_X4_bodyGives _ _ _ _ ?_
  refine ⟨fun z => absurd z (by decide), fun _ => ⟨fun _ => h _ _ _ _ (hc.ft f1) (hst.ft f1) t1 (by omega) (fun M2 f2 t2 => gO_i ?_), fun z => absurd rfl z⟩⟩
  refine en_X4_firstBody _ _ _ ?_
  have hst2 := hst.ft (f1.tr f2)
  rw [ncl (by omega), ((hc.ft (f1.tr f2)).1.2.2.2.2.2.2.2 q hq).1, ncl (by omega), (hst2 _ (by omega)).2.1, (hst2 _ (by omega)).2.2, hb]
  refine ⟨vin_i (by omega) (by omega), ⟨fun _ => ⟨vin_i (by omega) (by omega), gO_i ?_⟩, fun z => absurd z c10⟩⟩
  have t2 : TC M2 (m + 1 + l.length) (aps g m (nI 11 :: l)) := t2
  refine h' _ _ _ _ (hc.ft (f1.tr f2)) hst2 t2 (by omega) (fun M3 f3 t3 => gO_i ?_)
  refine gO_i (hQ M3 ((f1.tr f2).tr f3) ?_)
  have e1 : aps g m (nI 11 :: (l ++ l')) = aps (aps g m (nI 11 :: l)) (m + 1 + l.length) l' := by
    show aps (ap1 g m (nI 11)) (m + 1) (l ++ l') = aps (aps (ap1 g m (nI 11)) (m + 1) l) (m + 1 + l.length) l'
    rw [aps_app]
  rw [e1, show m + (nI 11 :: (l ++ l')).length = m + 1 + l.length + l'.length by rw [List.length_cons, List.length_append]; omega]
  exact t3
theorem bd23 {l l' : List Int32} {v v' b : Int32} (hq : q < T 2) (h6 : T 2 ≤ 6) (hd : dep ≤ 10) (hk : T (21 + 4 * q) ≤ 5) (hb : szA (T (21 + 4 * q)) = b) (h : Bd d T q (dep + 1) (nI 20) l v) (h' : Bd d T q (dep + 1) b l' v') (hd1 : 1 ≤ d) : Bd (d + 2) T q dep (nI 23) (nI 23 :: (l ++ l')) (v - v') := by
  intro M m g Q hc hst ht hl hQ
  have hl : m + ((l ++ l').length + 1) ≤ 16 := hl
  rw [List.length_append] at hl
  obtain ⟨e, rfl⟩ : ∃ e, d = e + 1 := ⟨d - 1, by omega⟩
  refine en_X4_beginBody _ _ _ _ ⟨fun _ => ?_, fun z => absurd ((nle (by omega) (by omega)).mpr hd) z⟩
  refine c_trace ht (by omega) (fun M1 f1 t1 => gN_i ?_)
  rw [nI_add]
  refine en_X4_bodyGives _ _ _ _ ?_
  refine ⟨fun z => absurd z (by decide), fun _ => ⟨fun z => absurd z (by decide), fun _ => ⟨fun z => absurd z (by decide), fun _ => ⟨fun z => absurd z (by decide), fun _ => ⟨fun z => absurd z (by decide), fun _ => ⟨fun z => absurd z (by decide), fun _ => ⟨fun z => absurd z (by decide), fun _ => ⟨fun z => absurd z (by decide), fun _ => ⟨fun z => absurd z (by decide), fun _ => ⟨fun z => absurd z (by decide), fun _ => ⟨fun z => absurd z (by decide), fun _ => ⟨fun z => absurd z (by decide), fun _ => ⟨fun z => absurd z (by decide), fun _ => ⟨fun _ => h _ _ _ _ (hc.ft f1) (hst.ft f1) t1 (by omega) (fun M2 f2 t2 => gO_i ?_), fun z => absurd rfl z⟩⟩⟩⟩⟩⟩⟩⟩⟩⟩⟩⟩⟩⟩
  refine en_X4_firstBody _ _ _ ?_
  have hst2 := hst.ft (f1.tr f2)
  rw [ncl (by omega), ((hc.ft (f1.tr f2)).1.2.2.2.2.2.2.2 q hq).1, ncl (by omega), (hst2 _ (by omega)).2.1, (hst2 _ (by omega)).2.2, hb]
  refine ⟨vin_i (by omega) (by omega), ⟨fun z => absurd rfl z, fun _ => ⟨vin_i (by omega) (by omega), gO_i ?_⟩⟩⟩
  have t2 : TC M2 (m + 1 + l.length) (aps g m (nI 23 :: l)) := t2
  refine h' _ _ _ _ (hc.ft (f1.tr f2)) hst2 t2 (by omega) (fun M3 f3 t3 => gO_i ?_)
  refine gO_i (hQ M3 ((f1.tr f2).tr f3) ?_)
  have e1 : aps g m (nI 23 :: (l ++ l')) = aps (aps g m (nI 23 :: l)) (m + 1 + l.length) l' := by
    show aps (ap1 g m (nI 23)) (m + 1) (l ++ l') = aps (aps (ap1 g m (nI 23)) (m + 1) l) (m + 1 + l.length) l'
    rw [aps_app]
  rw [e1, show m + (nI 23 :: (l ++ l')).length = m + 1 + l.length + l'.length by rw [List.length_cons, List.length_append]; omega]
  exact t3
end Bo
/-- the same of the reference's methods -/
def Rd (d : Nat) (T : Nat → Nat) (q y : Nat) (l : List Int32) (v : Int32) : Prop := ∀ (M : Mem) (m : Nat) (g : Nat → Int32) (Q : Option AV → Mem → Prop), MT M 0 T → TM M m g → m + l.length ≤ 16 → (∀ M', FU M M' → TM M' (m + l.length) (aps g m l) → Q (some (zI v)) M') → wpd d y [zR 16 0, zI (nI q)] M Q
theorem MT.fu {M M' : Mem} {T : Nat → Nat} (h : MT M 0 T) (f : FU M M') : MT M' 0 T := fun j hj => by rw [f.1 22 0 (by omega) (by omega)]; exact h j hj
section Ro
variable {d : Nat} {T : Nat → Nat} {q : Nat}
theorem m_kindIn {Q : Option AV → Mem → Prop} {M : Mem} (h : MT M 0 T) (hq : q < 6) (hQ : Q (some (zI (nI (T (21 + 4 * q))))) M) : wpd (d + 1) 179 [zR 16 0, zI (nI q)] M Q := by
  refine en_X5_kindIn _ _ ?_
  rw [pk_mul, nI_add, ncl (by omega), h _ (by omega)]
  exact ⟨vin_i (by omega) (by omega), hQ⟩
theorem rdM1 (hq : q < 6) (hk : T (21 + 4 * q) = 1) : Rd (d + 2) T q 183 [nI 21, nI 20] (nI q + nI (T (22 + 4 * q))) := by
  intro M m g Q hm ht hl hQ
  have hl : m + 2 ≤ 16 := hl
  refine en_X5_farmerMark _ _ (m_kindIn hm hq (gO_i ?_))
  rw [hk]
  refine ⟨fun _ => ?_, fun z => absurd rfl z⟩
  refine m_trace ht (by omega) (fun M1 f1 t1 => gN_i ?_)
  refine m_trace t1 (by omega) (fun M2 f2 t2 => gN_i ?_)
  have fA := (f1).tr f2
  have hmA := hm.fu fA
  rw [pk_mul, nI_add 21, nI_add (21 + 4 * q), show 21 + 4 * q + 1 = 22 + 4 * q by omega, ncl (by omega), hmA _ (by omega)]
  exact ⟨vin_i (by omega) (by omega), fun _ => ⟨fun _ => hQ _ fA t2, fun z => absurd z (by decide)⟩, fun z => absurd z (by decide)⟩
theorem rdM3 (hq : q < 6) (hk : T (21 + 4 * q) = 3) : Rd (d + 2) T q 183 [nI 22, nI 21, nI 20] ((nI q + nI (T (22 + 4 * q))) - nI 1000) := by
  intro M m g Q hm ht hl hQ
  have hl : m + 3 ≤ 16 := hl
  refine en_X5_farmerMark _ _ (m_kindIn hm hq (gO_i ?_))
  rw [hk]
  refine ⟨fun z => absurd z (by decide), fun _ => ⟨fun _ => ?_, fun z => absurd z (by decide)⟩⟩
  refine m_trace ht (by omega) (fun M1 f1 t1 => gN_i ?_)
  refine m_trace t1 (by omega) (fun M2 f2 t2 => gN_i ?_)
  refine m_trace t2 (by omega) (fun M3 f3 t3 => gN_i ?_)
  have fA := ((f1).tr f2).tr f3
  have hmA := hm.fu fA
  rw [pk_mul, nI_add 21, nI_add (21 + 4 * q), show 21 + 4 * q + 1 = 22 + 4 * q by omega, ncl (by omega), hmA _ (by omega)]
  exact ⟨vin_i (by omega) (by omega), fun _ => ⟨fun z => absurd rfl z, fun _ => hQ _ fA t3⟩, fun z => absurd z (by decide)⟩
theorem rdM2 (hq : q < 6) (hk : T (21 + 4 * q) = 2) : Rd (d + 2) T q 183 [nI 24, nI 21, nI 20] (nI 2 * (nI q + nI (T (22 + 4 * q)))) := by
  intro M m g Q hm ht hl hQ
  have hl : m + 3 ≤ 16 := hl
  refine en_X5_farmerMark _ _ (m_kindIn hm hq (gO_i ?_))
  rw [hk]
  refine ⟨fun z => absurd z (by decide), fun _ => ⟨fun z => absurd rfl z, fun _ => ?_⟩⟩
  refine m_trace ht (by omega) (fun M1 f1 t1 => gN_i ?_)
  refine m_trace t1 (by omega) (fun M2 f2 t2 => gN_i ?_)
  refine m_trace t2 (by omega) (fun M3 f3 t3 => gN_i ?_)
  have fA := ((f1).tr f2).tr f3
  have hmA := hm.fu fA
  rw [pk_mul, nI_add 21, nI_add (21 + 4 * q), show 21 + 4 * q + 1 = 22 + 4 * q by omega, ncl (by omega), hmA _ (by omega)]
  exact ⟨vin_i (by omega) (by omega), fun z => absurd rfl z, fun _ => hQ _ fA t3⟩
theorem rdS4 (hq : q < 6) (hk : T (21 + 4 * q) = 4) : Rd (d + 2) T q 184 [nI 13, nI 10] (nI (T (23 + 4 * q)) - nI 100) := by
  intro M m g Q hm ht hl hQ
  have hl : m + 2 ≤ 16 := hl
  refine en_X5_cartSize _ _ (m_kindIn hm hq (gO_i ?_))
  rw [hk]
  refine ⟨fun _ => ⟨fun _ => ?_, fun z => absurd rfl z⟩, fun z => absurd z (by decide)⟩
  refine m_trace ht (by omega) (fun M1 f1 t1 => gN_i ?_)
  refine m_trace t1 (by omega) (fun M2 f2 t2 => gN_i ?_)
  have fA := (f1).tr f2
  have hmA := hm.fu fA
  rw [pk_mul, nI_add 21, nI_add (21 + 4 * q), show 21 + 4 * q + 2 = 23 + 4 * q by omega, ncl (by omega), hmA _ (by omega)]
  exact ⟨vin_i (by omega) (by omega), fun _ => hQ _ fA t2, fun z => absurd rfl z⟩
theorem rdS5 (hq : q < 6) (hk : T (21 + 4 * q) = 5) : Rd (d + 2) T q 184 [nI 14, nI 13, nI 10] (nI 2 * (nI (T (23 + 4 * q)) - nI 100)) := by
  intro M m g Q hm ht hl hQ
  have hl : m + 3 ≤ 16 := hl
  refine en_X5_cartSize _ _ (m_kindIn hm hq (gO_i ?_))
  rw [hk]
  refine ⟨fun z => absurd rfl z, fun _ => ⟨fun z => absurd z c10, fun _ => ?_⟩⟩
  refine m_trace ht (by omega) (fun M1 f1 t1 => gN_i ?_)
  refine m_trace t1 (by omega) (fun M2 f2 t2 => gN_i ?_)
  refine m_trace t2 (by omega) (fun M3 f3 t3 => gN_i ?_)
  have fA := ((f1).tr f2).tr f3
  have hmA := hm.fu fA
  rw [pk_mul, nI_add 21, nI_add (21 + 4 * q), show 21 + 4 * q + 2 = 23 + 4 * q by omega, ncl (by omega), hmA _ (by omega)]
  exact ⟨vin_i (by omega) (by omega), fun z => absurd z c10, fun _ => hQ _ fA t3⟩
theorem rdZ1 {l : List Int32} {v : Int32} (hq : q < 6) (hk5 : T (21 + 4 * q) ≤ 5) (hk : T (21 + 4 * q) ≠ 2) (h : Rd (d + 2) T q 183 l v) : Rd (d + 3) T q 185 ([nI 11, nI 10] ++ l) (nI (T (23 + 4 * q)) + v) := by
  intro M m g Q hm ht hl hQ
  rw [List.length_append] at hl
  have hl : m + (2 + l.length) ≤ 16 := hl
  refine en_X5_farmerSize _ _ (m_kindIn hm hq (gO_i ?_))
  refine ⟨fun _ => ⟨fun _ => ?_, fun z => absurd rfl z⟩, fun z => absurd ((neq (by omega) (by omega)).mp z) hk⟩
  refine m_trace ht (by omega) (fun M1 f1 t1 => gN_i ?_)
  refine m_trace t1 (by omega) (fun M2 f2 t2 => gN_i ?_)
  have fA := (f1).tr f2
  have hmA := hm.fu fA
  rw [pk_mul, nI_add 21, nI_add (21 + 4 * q), show 21 + 4 * q + 2 = 23 + 4 * q by omega, ncl (by omega), hmA _ (by omega)]
  refine ⟨vin_i (by omega) (by omega), h _ _ _ _ hmA t2 (by omega) (fun MB fB tB => gO_i ?_)⟩
  refine ⟨fun _ => ?_, fun z => absurd rfl z⟩
  refine hQ _ (fA.tr fB) ?_
  rw [aps_app, List.length_append, show m + ([nI 11, nI 10].length + l.length) = m + 1 + 1 + l.length by show m + (2 + l.length) = _; omega]
  exact tB
theorem rdZ2 {l : List Int32} {v : Int32} (hq : q < 6) (hk5 : T (21 + 4 * q) ≤ 5) (hk : T (21 + 4 * q) = 2) (h : Rd (d + 2) T q 183 l v) : Rd (d + 3) T q 185 ([nI 12, nI 11, nI 10] ++ l) (-(nI (T (23 + 4 * q)) + v)) := by
  intro M m g Q hm ht hl hQ
  rw [List.length_append] at hl
  have hl : m + (3 + l.length) ≤ 16 := hl
  refine en_X5_farmerSize _ _ (m_kindIn hm hq (gO_i ?_))
  refine ⟨fun z => absurd (by rw [hk]) z, fun _ => ⟨fun z => absurd z c10, fun _ => ?_⟩⟩
  refine m_trace ht (by omega) (fun M1 f1 t1 => gN_i ?_)
  refine m_trace t1 (by omega) (fun M2 f2 t2 => gN_i ?_)
  refine m_trace t2 (by omega) (fun M3 f3 t3 => gN_i ?_)
  have fA := ((f1).tr f2).tr f3
  have hmA := hm.fu fA
  rw [pk_mul, nI_add 21, nI_add (21 + 4 * q), show 21 + 4 * q + 2 = 23 + 4 * q by omega, ncl (by omega), hmA _ (by omega)]
  refine ⟨vin_i (by omega) (by omega), h _ _ _ _ hmA t3 (by omega) (fun MB fB tB => gO_i ?_)⟩
  refine ⟨fun z => absurd z c10, fun _ => ?_⟩
  refine hQ _ (fA.tr fB) ?_
  rw [aps_app, List.length_append, show m + ([nI 12, nI 11, nI 10].length + l.length) = m + 1 + 1 + 1 + l.length by show m + (3 + l.length) = _; omega]
  exact tB
theorem rdC {l : List Int32} {v : Int32} (h : Rd (d + 2) T q 184 l v) : Rd (d + 3) T q 186 ([nI 23, nI 20] ++ l) (nI q - v) := by
  intro M m g Q hm ht hl hQ
  rw [List.length_append] at hl
  have hl : m + (2 + l.length) ≤ 16 := hl
  refine en_X5_cartMark _ _ ?_
  refine m_trace ht (by omega) (fun M1 f1 t1 => gN_i ?_)
  refine m_trace t1 (by omega) (fun M2 f2 t2 => gN_i ?_)
  have fA := (f1).tr f2
  have hmA := hm.fu fA
  refine h _ _ _ _ hmA t2 (by omega) (fun MB fB tB => gO_i ?_)
  refine hQ _ (fA.tr fB) ?_
  rw [aps_app, List.length_append, show m + ([nI 23, nI 20].length + l.length) = m + 1 + 1 + l.length by show m + (2 + l.length) = _; omega]
  exact tB
end Ro
