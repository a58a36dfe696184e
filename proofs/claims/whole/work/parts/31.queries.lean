/-! FORETOLD: ahead, oil, later, crossing, out -/
def F1 (M M' : Mem) : Prop := ∀ k i, ¬ (6 ≤ k ∧ k ≤ 11 ∧ i = 1) → M' k i = M k i
theorem F1.rf {M : Mem} : F1 M M := fun _ _ _ => rfl
theorem F1.tr {M M1 M2 : Mem} (h : F1 M M1) (g : F1 M1 M2) : F1 M M2 := fun k i z => (g k i z).trans (h k i z)
theorem Fp.rf {w : Nat} {M : Mem} : Fp w M M := fun _ _ _ _ => rfl
theorem Fp.tr {w : Nat} {M M1 M2 : Mem} (h : Fp w M M1) (g : Fp w M1 M2) : Fp w M M2 := fun k i z y => (g k i z y).trans (h k i z y)
theorem fin_q {M M1 M2 : Mem} (I : Inv M) (f1 : F1 M M1) (f2 : Fp 2 M1 M2) : Inv M2 ∧ ∀ k, 30 ≤ k → M2 k = M k := by
  have f30 : ∀ k, 30 ≤ k → M2 k = M k := fun k hk => by
    funext i
    rw [f2 k i (by omega) (by omega), f1 k i (by omega)]
  refine ⟨I.scr (fun k i h => ?_) f30, f30⟩
  unfold Scr at h
  rw [f2 k i (by omega) (by omega), f1 k i (by omega)]
def whr (T : Nat → Nat) (q : Nat) : Int32 := if T (24 + 4 * q) = 1 then -1000000 else nI (T (22 + 4 * q))
section Fo
variable {d : Nat} {Q : Option AV → Mem → Prop} {M : Mem} {T : Nat → Nat} {t w q n : Nat}
theorem MT.f1 {M1 : Mem} (h : MT M w T) (f : F1 M M1) : MT M1 w T := fun j hj => by rw [f 22 w (by omega)]; exact h j hj
theorem MT.fp {M1 : Mem} (h : MT M 0 T) (f : Fp 2 M M1) : MT M1 0 T := fun j hj => by rw [f 22 0 (by omega) (by omega)]; exact h j hj
theorem CT.f1 {M1 : Mem} (h : CT M 0 T) (f : F1 M M1) : CT M1 0 T := h.fr (fun k _ _ => f k 0 (by omega))
theorem c_foretell (h : CT M 0 T) (h8 : T 1 ≤ 8) (h6 : T 2 ≤ 6) (hQ : ∀ M1, F1 M M1 → CT M1 1 T → Q none M1) : wpd (d + 2) 97 [zR 0 0] M Q :=
  en_X4_foretellNow _ (c_becomeT (by omega) h h8 h6 (fun M1 f1 f2 => gN_i (hQ M1 f1 f2)))
theorem c_pE (h : CT M 1 T) (ok : okT T) (h3 : T 3 + n < 1000000) (hQ : ∀ M1, F1 M M1 → CT M1 1 (evn T n) → Q none M1) : wpd (d + 5) 40 [zR 6 1, zI (nI n)] M Q := by
  refine en_X3_passEvenings _ _ _ ?_
  have loop : ∀ (r i : Nat) (M1 : Mem), i + r = n → F1 M M1 → CT M1 1 (evn T i) → WP (wpd (d + 4)) 0 T_X3_passEvenings Q (2, [zR 6 1, zI (nI n), zI (nI i)], []) M1 := by
    intro r
    induction r with
    | zero =>
      intro i M1 e f1 f2
      have e : i = n := by omega
      subst e
      exact cp_X3_passEvenings_2 _ _ _ _ ⟨fun _ => hQ M1 f1 f2, fun z => absurd ((nle (by omega) (by omega)).mpr (Nat.le_refl _)) z⟩
    | succ r ih =>
      intro i M1 e f1 f2
      refine cp_X3_passEvenings_2 _ _ _ _ ⟨fun z => ?_, fun _ => ?_⟩
      · rw [nle (by omega) (by omega)] at z
        omega
      · refine c_passEvening f2 (okT_evn ok i) (by rw [evn_3]; omega) (fun M2 g1 g2 _ => gN_i ?_)
        rw [nI_add]
        exact ih (i + 1) M2 (by omega) (f1.tr g1) g2
  exact loop n 0 M (by omega) F1.rf h
theorem c_whr (h : CT M t T) (hn : T 2 ≤ 6) (hq : q < T 2) (hc : T (24 + 4 * q) ≤ 1) (hQ : Q (some (zI (whr T q))) M) : wpd (d + 2) 35 [zR 6 t, zI (nI q)] M Q := by
  unfold whr at hQ
  refine en_X3_placeOf _ _ _ (c_hasCrossed h.1 hn hq hc (fun c => gTe ?_) (fun c => gFe ?_))
  · rw [if_pos c] at hQ; exact hQ
  · rw [if_neg (by omega)] at hQ
    rw [ncl (by omega), (h.1.2.2.2.2.2.2.2 q hq).2.1]
    exact ⟨vin_i (by omega) (by omega), hQ⟩
theorem m_whr (h : MT M w T) (hq : q < 6) (hc : T (24 + 4 * q) ≤ 1) (hQ : Q (some (zI (whr T q))) M) : wpd (d + 1) 150 [zR 22 w, zI (nI q)] M Q := by
  unfold whr at hQ
  refine en_X5_whereIs _ _ _ ?_
  rw [pk_mul, nI_add, nI_add, nI_add, show 21 + 4 * q + 3 = 24 + 4 * q by omega, show 21 + 4 * q + 1 = 22 + 4 * q by omega, ncl (by omega), ncl (by omega), h _ (by omega), h _ (by omega)]
  refine ⟨vin_i (by omega) (by omega), fun z => ⟨vin_i (by omega) (by omega), ?_⟩, fun z => ?_⟩
  · rw [if_neg (fun y => z (by rw [y]))] at hQ; exact hQ
  · rw [neq (by omega) (by omega)] at z
    rw [if_pos z] at hQ; exact hQ
theorem m_goesOn (h : MT M 2 T) (ok : okT T) (h3 : T 3 + n < 1000000) (hQ : ∀ M1, Fp 2 M M1 → MT M1 2 (evn T n) → Q none M1) : wpd (d + 6) 161 [zR 16 0, zI (nI n)] M Q := by
  refine en_X5_goesOn _ _ ?_
  have loop : ∀ (r i : Nat) (M1 : Mem), i + r = n → Fp 2 M M1 → MT M1 2 (evn T i) → WP (wpd (d + 5)) 0 T_X5_goesOn Q (2, [zR 16 0, zI (nI n), zI (nI i)], []) M1 := by
    intro r
    induction r with
    | zero =>
      intro i M1 e f1 f2
      have e : i = n := by omega
      subst e
      exact cp_X5_goesOn_2 _ _ _ ⟨fun _ => hQ M1 f1 f2, fun z => absurd ((nle (by omega) (by omega)).mpr (Nat.le_refl _)) z⟩
    | succ r ih =>
      intro i M1 e f1 f2
      refine cp_X5_goesOn_2 _ _ _ ⟨fun z => ?_, fun _ => ?_⟩
      · rw [nle (by omega) (by omega)] at z
        omega
      · refine c_passes f2 (okT_evn ok i) (by rw [evn_3]; omega) (fun M2 g1 g2 => gO_i ?_)
        rw [nI_add]
        exact ih (i + 1) M2 (by omega) (f1.tr g1) g2
  exact loop n 0 M (by omega) Fp.rf h
theorem m_try (h : MT M 0 T) (hQ : ∀ M1, Fp 2 M M1 → MT M1 2 T → Q none M1) : wpd (d + 1) 115 [zR 22 0, zI (nI 0), zR 22 2, zI (nI 0)] M Q := by
  refine c_copies0 0 2 (by omega) (by omega) (by omega) (fun M1 g1 g2 => hQ M1 (fun k i z _ => g1 k i z) (fun j hj => ?_))
  rw [g2, if_pos (by omega), show 0 + (j - 0) = j by omega]
  exact h j hj
end Fo
theorem okG.p {T : Nat → Nat} (h : okG T) {q : Nat} (hp : q < T 2) : okN T := by
  rcases h with h | h
  · omega
  · exact h
theorem evn_l {T : Nat → Nat} (ok : okT T) : ∀ n, evn T n 0 = T 0 ∧ evn T n 1 = T 1 ∧ evn T n 2 = T 2
  | 0 => ⟨rfl, rfl, rfl⟩
  | n + 1 => by
    have h := evn_l ok n
    have hs := (okT_evn ok n).s
    obtain ⟨j1, j2, j3, j4⟩ := evG_s hs (evn T n 2) (Nat.le_refl _)
    refine ⟨?_, ?_, ?_⟩
    · show ev (evn T n) 0 = _
      rw [ev_e (by omega) (by omega) (by omega), j2 0 (by omega)]; exact h.1
    · show ev (evn T n) 1 = _
      rw [ev_e (by omega) (by omega) (by omega), j2 1 (by omega)]; exact h.2.1
    · show ev (evn T n) 2 = _
      rw [ev_e (by omega) (by omega) (by omega), j2 2 (by omega)]; exact h.2.2
theorem pr_ahead (p1 p2 : Int32) : PR 69 162 [zR 0 0, zI p1, zI p2] [zR 16 0, zI p1, zI p2] := by
  intro M I
  obtain ⟨T, hg, hc, hm⟩ := I.2.2.2.2.2.1
  have hb := hg.b
  rcases num_or p1 (T 2) with ⟨q, hq, rfl⟩ | hno
  · have hN := hg.p hq
    by_cases w : nI 0 ≤ p2 ∧ p2 ≤ nI 60
    · obtain ⟨n, hn, rfl⟩ := nI_of2 (x := p2) (M := nI 60) (n := 60) (by decide) (Int32.not_lt.mpr w.1) w.2
      have h3 := hN.2.1
      have ok := okT_evn hN.1 n
      have el := evn_l hN.1 n
      refine en_X4_ahead _ _ _ (c_hasPlayer hc.1.2.1 hb.2 (fun _ _ _ => gTe (c_isWithin (fun _ _ => gTn ?_) (fun y => absurd w y))) (fun h => absurd rfl (h q hq)))
      refine c_foretell hc hb.1 hb.2 (fun M1 f1 g1 => gN_i (c_pE g1 hN.1 (by omega) (fun M2 f2 g2 => gN_i (c_whr g2 ok.2.2.2.1 (by omega) (ok.2.2.2.2.2.2.2 q (by omega)).2.2.2.2 (gO_i (gO_i ?_))))))
      have hm2 := hm.f1 (f1.tr f2)
      refine en_X5_ahead _ _ _ (c_isPlayer5 (hm2 2 (by omega)) hb.2 (fun _ _ _ => gTe (c_in (fun _ _ => gTn ?_) (fun y => absurd w y))) (fun h => absurd rfl (h q hq)))
      refine m_try hm2 (fun M3 f3 g3 => gN_i (m_goesOn g3 hN.1 (by omega) (fun M4 f4 g4 => gN_i (m_whr g4 (by omega) (ok.2.2.2.2.2.2.2 q (by omega)).2.2.2.2 (gO_i (gO_i ⟨rfl, ?_⟩))))))
      exact fin_q I (f1.tr f2) (f3.tr f4)
    · refine en_X4_ahead _ _ _ (c_hasPlayer hc.1.2.1 hb.2 (fun _ _ _ => gTe (c_isWithin (fun y1 y2 => absurd ⟨y1, y2⟩ w) (fun _ => gFn (gO_i ?_)))) (fun h => absurd rfl (h q hq)))
      exact en_X5_ahead _ _ _ (c_isPlayer5 (hm 2 (by omega)) hb.2 (fun _ _ _ => gTe (c_in (fun y1 y2 => absurd ⟨y1, y2⟩ w) (fun _ => gFn (gO_i ⟨rfl, I, fun _ _ => rfl⟩)))) (fun h => absurd rfl (h q hq)))
  · refine en_X4_ahead _ _ _ (c_hasPlayer hc.1.2.1 hb.2 (fun k hk e => absurd e (hno k hk)) (fun _ => gFe (gO_i ?_)))
    exact en_X5_ahead _ _ _ (c_isPlayer5 (hm 2 (by omega)) hb.2 (fun k hk e => absurd e (hno k hk)) (fun _ => gFe (gO_i ⟨rfl, I, fun _ _ => rfl⟩)))
theorem pr_oil (p1 p2 : Int32) : PR 70 163 [zR 0 0, zI p1, zI p2] [zR 16 0, zI p1, zI p2] := by
  intro M I
  obtain ⟨T, hg, hc, hm⟩ := I.2.2.2.2.2.1
  have hb := hg.b
  rcases num_or p1 (T 1) with ⟨q, hq, rfl⟩ | hno
  · have hN := hg.n (by omega)
    by_cases w : nI 0 ≤ p2 ∧ p2 ≤ nI 60
    · obtain ⟨n, hn, rfl⟩ := nI_of2 (x := p2) (M := nI 60) (n := 60) (by decide) (Int32.not_lt.mpr w.1) w.2
      have h3 := hN.2.1
      have ok := okT_evn hN.1 n
      have el := evn_l hN.1 n
      refine en_X4_oil _ _ _ (c_hasPlace hc.1.1 hb.1 (fun _ _ _ => gTe (c_isWithin (fun _ _ => gTn ?_) (fun y => absurd w y))) (fun h => absurd rfl (h q hq)))
      refine c_foretell hc hb.1 hb.2 (fun M1 f1 g1 => gN_i (c_pE g1 hN.1 (by omega) (fun M2 f2 g2 => gN_i ⟨vin_i (by omega) (by omega), gO_i ?_⟩)))
      rw [ncl (by omega), g2.1.2.2.2.2.2.1 q (by omega)]
      have hm2 := hm.f1 (f1.tr f2)
      refine en_X5_oil _ _ _ (c_isPlace5 (hm2 1 (by omega)) hb.1 (fun _ _ _ => gTe (c_in (fun _ _ => gTn ?_) (fun y => absurd w y))) (fun h => absurd rfl (h q hq)))
      refine m_try hm2 (fun M3 f3 g3 => gN_i (m_goesOn g3 hN.1 (by omega) (fun M4 f4 g4 => gN_i ?_)))
      rw [nI_add, ncl (by omega), g4 _ (by omega)]
      exact ⟨vin_i (by omega) (by omega), gO_i ⟨rfl, fin_q I (f1.tr f2) (f3.tr f4)⟩⟩
    · refine en_X4_oil _ _ _ (c_hasPlace hc.1.1 hb.1 (fun _ _ _ => gTe (c_isWithin (fun y1 y2 => absurd ⟨y1, y2⟩ w) (fun _ => gFn (gO_i ?_)))) (fun h => absurd rfl (h q hq)))
      exact en_X5_oil _ _ _ (c_isPlace5 (hm 1 (by omega)) hb.1 (fun _ _ _ => gTe (c_in (fun y1 y2 => absurd ⟨y1, y2⟩ w) (fun _ => gFn (gO_i ⟨rfl, I, fun _ _ => rfl⟩)))) (fun h => absurd rfl (h q hq)))
  · refine en_X4_oil _ _ _ (c_hasPlace hc.1.1 hb.1 (fun k hk e => absurd e (hno k hk)) (fun _ => gFe (gO_i ?_)))
    exact en_X5_oil _ _ _ (c_isPlace5 (hm 1 (by omega)) hb.1 (fun k hk e => absurd e (hno k hk)) (fun _ => gFe (gO_i ⟨rfl, I, fun _ _ => rfl⟩)))
theorem c_either5 {d : Nat} {Q : Option AV → Mem → Prop} {M : Mem} {p1 : Int32} (h1 : ∀ k, k < 2 → p1 = nI k → Q (some (zI (nI 1))) M) (h0 : (∀ k, k < 2 → p1 ≠ nI k) → Q (some (zI (nI 0))) M) : wpd (d + 1) 109 [zI p1, zI (nI 0), zI (nI 1)] M Q := by
  have := c_inN (d := d) (Q := Q) (M := M) (v := p1) (N := 2) (by omega) h1 h0
  rw [pk_sub (by omega)] at this
  exact this
theorem pr_later (p1 p2 : Int32) : PR 71 164 [zR 0 0, zI p1, zI p2] [zR 16 0, zI p1, zI p2] := by
  intro M I
  obtain ⟨T, hg, hc, hm⟩ := I.2.2.2.2.2.1
  have hb := hg.b
  by_cases t0 : 0 < T 1
  · have hN := hg.n t0
    by_cases w : nI 0 ≤ p1 ∧ p1 ≤ nI 60
    · rcases num_or p2 2 with ⟨k, hk, rfl⟩ | hno
      · obtain ⟨n, hn, rfl⟩ := nI_of2 (x := p1) (M := nI 60) (n := 60) (by decide) (Int32.not_lt.mpr w.1) w.2
        have h3 := hN.2.1
        have ok := okT_evn hN.1 n
        have el := evn_l hN.1 n
        have olt : ∀ p, p < evn T n 1 → evn T n (5 + p) < 2147483648 := fun p hp => by have := ok.o p (by omega); omega
        refine en_X4_later _ _ _ (c_stands hc.1.1 hb.1 (fun _ => gTn (c_isWithin (fun _ _ => gTe (c_isEither (fun _ _ _ => gTn ?_) (fun h => absurd rfl (h k hk)))) (fun y => absurd w y))) (fun y => by omega))
        refine c_foretell hc hb.1 hb.2 (fun M1 f1 g1 => gN_i (c_pE g1 hN.1 (by omega) (fun M2 f2 g2 => gN_i ?_)))
        have hm2 := hm.f1 (f1.tr f2)
        rcases (by omega : k = 0 ∨ k = 1) with rfl | rfl
        · refine ⟨fun y => absurd rfl y, fun _ => c_litPlaces g2.1.1 ok.2.2.1 g2.1.2.2.2.2.2.1 olt (gO_i (gO_i ?_))⟩
          refine en_X5_later _ _ _ (c_isTown5 (hm2 1 (by omega)) hb.1 (fun _ => gTn (c_in (fun _ _ => gTe (c_either5 (fun _ _ _ => gTn ?_) (fun h => absurd rfl (h 0 hk)))) (fun y => absurd w y))) (fun y => by omega))
          refine m_try hm2 (fun M3 f3 g3 => gN_i (m_goesOn g3 hN.1 (by omega) (fun M4 f4 g4 => gN_i ⟨fun y => absurd rfl y, fun _ => ?_⟩)))
          exact c_litOf g4 ok.2.2.1 olt (gO_i (gO_i ⟨rfl, fin_q I (f1.tr f2) (f3.tr f4)⟩))
        · refine ⟨fun _ => gO_i ?_, fun y => absurd y c10⟩
          rw [g2.2]
          refine en_X5_later _ _ _ (c_isTown5 (hm2 1 (by omega)) hb.1 (fun _ => gTn (c_in (fun _ _ => gTe (c_either5 (fun _ _ _ => gTn ?_) (fun h => absurd rfl (h 1 hk)))) (fun y => absurd w y))) (fun y => by omega))
          refine m_try hm2 (fun M3 f3 g3 => gN_i (m_goesOn g3 hN.1 (by omega) (fun M4 f4 g4 => gN_i ⟨fun _ => ⟨vin_i (by omega) (by omega), ?_⟩, fun y => absurd y c10⟩)))
          rw [g4 4 (by omega)]
          exact gO_i ⟨rfl, fin_q I (f1.tr f2) (f3.tr f4)⟩
      · refine en_X4_later _ _ _ (c_stands hc.1.1 hb.1 (fun _ => gTn (c_isWithin (fun _ _ => gTe (c_isEither (fun k hk e => absurd e (hno k hk)) (fun _ => gFn (gO_i ?_)))) (fun y => absurd w y))) (fun y => by omega))
        exact en_X5_later _ _ _ (c_isTown5 (hm 1 (by omega)) hb.1 (fun _ => gTn (c_in (fun _ _ => gTe (c_either5 (fun k hk e => absurd e (hno k hk)) (fun _ => gFn (gO_i ⟨rfl, I, fun _ _ => rfl⟩)))) (fun y => absurd w y))) (fun y => by omega))
    · refine en_X4_later _ _ _ (c_stands hc.1.1 hb.1 (fun _ => gTn (c_isWithin (fun y1 y2 => absurd ⟨y1, y2⟩ w) (fun _ => gFe (gO_i ?_)))) (fun y => by omega))
      exact en_X5_later _ _ _ (c_isTown5 (hm 1 (by omega)) hb.1 (fun _ => gTn (c_in (fun y1 y2 => absurd ⟨y1, y2⟩ w) (fun _ => gFe (gO_i ⟨rfl, I, fun _ _ => rfl⟩)))) (fun y => by omega))
  · refine en_X4_later _ _ _ (c_stands hc.1.1 hb.1 (fun y => absurd y t0) (fun _ => gFn (gO_i ?_)))
    exact en_X5_later _ _ _ (c_isTown5 (hm 1 (by omega)) hb.1 (fun y => absurd y t0) (fun _ => gFn (gO_i ⟨rfl, I, fun _ _ => rfl⟩)))
/-- the first evening of the next n at which f, from i on -/
def fst (f : Nat → Bool) : Nat → Nat → Int32
  | 0, _ => -1000000
  | n + 1, i => if f i = true then nI i else fst f n (i + 1)
theorem pr_crossing (p1 : Int32) : PR 72 165 [zR 0 0, zI p1] [zR 16 0, zI p1] := by
  intro M I
  obtain ⟨T, hg, hc, hm⟩ := I.2.2.2.2.2.1
  have hb := hg.b
  rcases num_or p1 (T 2) with ⟨q, hq, rfl⟩ | hno
  · have hN := hg.p hq
    have h3 := hN.2.1
    have ok := okT_evn hN.1
    have el := evn_l hN.1
    refine en_X4_crossing _ _ (c_hasPlayer hc.1.2.1 hb.2 (fun _ _ _ => gTn ?_) (fun h => absurd rfl (h q hq)))
    refine c_foretell hc hb.1 hb.2 (fun M1 f1 g1 => gN_i ?_)
    have mid : ∀ M2, F1 M M2 → wpd 40 165 [zR 16 0, zI (nI q)] M2 (fun r' M3 => gO r' fun v' => fst (fun i => decide (evn T i (24 + 4 * q) = 1)) 61 0 = v' ∧ Inv M3 ∧ ∀ k, 30 ≤ k → M3 k = M k) := by
      intro M2 f2
      have hm2 := hm.f1 f2
      refine en_X5_crossing _ _ (c_isPlayer5 (hm2 2 (by omega)) hb.2 (fun _ _ _ => gTn ?_) (fun h => absurd rfl (h q hq)))
      refine m_try hm2 (fun M3 f3 g3 => gN_i ?_)
      have loop : ∀ (r i : Nat) (M4 : Mem), i + r = 61 → Fp 2 M2 M4 → MT M4 2 (evn T i) → WP (wpd 39) 1 T_X5_crossing (fun r' M3 => gO r' fun v' => fst (fun i => decide (evn T i (24 + 4 * q) = 1)) r i = v' ∧ Inv M3 ∧ ∀ k, 30 ≤ k → M3 k = M k) (26, [zR 16 0, zI (nI q), zI (nI i)], []) M4 := by
        intro r
        induction r with
        | zero =>
          intro i M4 e f4 g4
          have e : i = 61 := by omega
          subst e
          exact cp_X5_crossing_26 _ _ _ ⟨fun _ => gO_i ⟨rfl, fin_q I f2 f4⟩, fun z => absurd ((nle (by omega) (by omega)).mpr (Nat.le_refl _)) z⟩
        | succ r ih =>
          intro i M4 e f4 g4
          refine cp_X5_crossing_26 _ _ _ ⟨fun z => ?_, fun _ => ?_⟩
          · rw [nle (by omega) (by omega)] at z
            omega
          · rw [pk_mul, nI_add, nI_add, show 21 + 4 * q + 3 = 24 + 4 * q by omega, ncl (by omega), g4 _ (by omega)]
            refine ⟨vin_i (by omega) (by omega), fun z => ?_, fun z => ?_⟩
            · refine c_passes g4 (ok i) (by rw [evn_3]; omega) (fun M5 f5 g5 => gO_i ?_)
              rw [nI_add]
              have hf : fst (fun i => decide (evn T i (24 + 4 * q) = 1)) (r + 1) i = fst (fun i => decide (evn T i (24 + 4 * q) = 1)) r (i + 1) := if_neg (fun y => z (by rw [of_decide_eq_true y]))
              rw [hf]
              exact ih (i + 1) M5 (by omega) (f4.tr f5) g5
            · have := (ok i).2.2.2.2.2.2.2 q (by have := el i; omega)
              rw [neq (by omega) (by omega)] at z
              exact gO_i ⟨if_pos (decide_eq_true z), fin_q I f2 f4⟩
      exact loop 61 0 M3 (by omega) f3 g3
    have loop : ∀ (r i : Nat) (M4 : Mem), i + r = 61 → F1 M M4 → CT M4 1 (evn T i) → fst (fun i => decide (evn T i (24 + 4 * q) = 1)) r i = fst (fun i => decide (evn T i (24 + 4 * q) = 1)) 61 0 → WP (wpd 39) 1 T_X4_crossing (fun r M1 => gO r fun v => wpd 40 165 [zR 16 0, zI (nI q)] M1 (fun r' M2 => gO r' fun v' => v = v' ∧ Inv M2 ∧ ∀ k, 30 ≤ k → M2 k = M k)) (20, [zR 0 0, zI (nI q), zI (nI i)], []) M4 := by
      intro r
      induction r with
      | zero =>
        intro i M4 e f4 g4 hv
        have e : i = 61 := by omega
        subst e
        refine cp_X4_crossing_20 _ _ _ ⟨fun _ => gO_i ?_, fun z => absurd ((nlt (by omega) (by omega)).mpr (by omega)) z⟩
        have := mid M4 f4
        rw [← hv] at this
        exact this
      | succ r ih =>
        intro i M4 e f4 g4 hv
        refine cp_X4_crossing_20 _ _ _ ⟨fun z => ?_, fun _ => ?_⟩
        · rw [nlt (by omega) (by omega)] at z
          omega
        · have eli := el i
          refine c_hasCrossed g4.1 (by omega) (by omega) ((ok i).2.2.2.2.2.2.2 q (by omega)).2.2.2.2 (fun c => gTe (gO_i ?_)) (fun c => gFe ?_)
          · have := mid M4 f4
            rw [← hv, show fst (fun i => decide (evn T i (24 + 4 * q) = 1)) (r + 1) i = nI i from if_pos (decide_eq_true c)] at this
            exact this
          · refine c_passEvening g4 (ok i) (by rw [evn_3]; omega) (fun M5 f5 g5 _ => gN_i ?_)
            rw [nI_add]
            refine ih (i + 1) M5 (by omega) (f4.tr f5) g5 ?_
            rw [← hv]
            exact (if_neg (fun y => by have := of_decide_eq_true y; omega)).symm
    exact loop 61 0 M1 (by omega) f1 g1 rfl
  · refine en_X4_crossing _ _ (c_hasPlayer hc.1.2.1 hb.2 (fun k hk e => absurd e (hno k hk)) (fun _ => gFn (gO_i ?_)))
    exact en_X5_crossing _ _ (c_isPlayer5 (hm 2 (by omega)) hb.2 (fun k hk e => absurd e (hno k hk)) (fun _ => gFn (gO_i ⟨rfl, I, fun _ _ => rfl⟩)))
theorem pr_out (p1 : Int32) : PR 73 166 [zR 0 0, zI p1] [zR 16 0, zI p1] := by
  intro M I
  obtain ⟨T, hg, hc, hm⟩ := I.2.2.2.2.2.1
  have hb := hg.b
  rcases num_or p1 (T 1) with ⟨q, hq, rfl⟩ | hno
  · have hN := hg.n (by omega)
    have h3 := hN.2.1
    have ok := okT_evn hN.1
    have el := evn_l hN.1
    refine en_X4_out _ _ (c_hasPlace hc.1.1 hb.1 (fun _ _ _ => gTn ?_) (fun h => absurd rfl (h q hq)))
    refine c_foretell hc hb.1 hb.2 (fun M1 f1 g1 => gN_i ?_)
    have mid : ∀ M2, F1 M M2 → wpd 40 166 [zR 16 0, zI (nI q)] M2 (fun r' M3 => gO r' fun v' => fst (fun i => decide (evn T i (5 + q) = 0)) 61 0 = v' ∧ Inv M3 ∧ ∀ k, 30 ≤ k → M3 k = M k) := by
      intro M2 f2
      have hm2 := hm.f1 f2
      refine en_X5_out _ _ (c_isPlace5 (hm2 1 (by omega)) hb.1 (fun _ _ _ => gTn ?_) (fun h => absurd rfl (h q hq)))
      refine m_try hm2 (fun M3 f3 g3 => gN_i ?_)
      have loop : ∀ (r i : Nat) (M4 : Mem), i + r = 61 → Fp 2 M2 M4 → MT M4 2 (evn T i) → WP (wpd 39) 1 T_X5_out (fun r' M3 => gO r' fun v' => fst (fun i => decide (evn T i (5 + q) = 0)) r i = v' ∧ Inv M3 ∧ ∀ k, 30 ≤ k → M3 k = M k) (26, [zR 16 0, zI (nI q), zI (nI i)], []) M4 := by
        intro r
        induction r with
        | zero =>
          intro i M4 e f4 g4
          have e : i = 61 := by omega
          subst e
          exact cp_X5_out_26 _ _ _ ⟨fun _ => gO_i ⟨rfl, fin_q I f2 f4⟩, fun z => absurd ((nle (by omega) (by omega)).mpr (Nat.le_refl _)) z⟩
        | succ r ih =>
          intro i M4 e f4 g4
          refine cp_X5_out_26 _ _ _ ⟨fun z => ?_, fun _ => ?_⟩
          · rw [nle (by omega) (by omega)] at z
            omega
          · rw [nI_add, ncl (by omega), g4 _ (by omega)]
            refine ⟨vin_i (by omega) (by omega), fun z => ?_, fun z => ?_⟩
            · refine c_passes g4 (ok i) (by rw [evn_3]; omega) (fun M5 f5 g5 => gO_i ?_)
              rw [nI_add]
              have hf : fst (fun i => decide (evn T i (5 + q) = 0)) (r + 1) i = fst (fun i => decide (evn T i (5 + q) = 0)) r (i + 1) := if_neg (fun y => z (by rw [of_decide_eq_true y]))
              rw [hf]
              exact ih (i + 1) M5 (by omega) (f4.tr f5) g5
            · have := (ok i).o q (by omega)
              rw [neq (by omega) (by omega)] at z
              exact gO_i ⟨if_pos (decide_eq_true z), fin_q I f2 f4⟩
      exact loop 61 0 M3 (by omega) f3 g3
    have loop : ∀ (r i : Nat) (M4 : Mem), i + r = 61 → F1 M M4 → CT M4 1 (evn T i) → fst (fun i => decide (evn T i (5 + q) = 0)) r i = fst (fun i => decide (evn T i (5 + q) = 0)) 61 0 → WP (wpd 39) 1 T_X4_out (fun r M1 => gO r fun v => wpd 40 166 [zR 16 0, zI (nI q)] M1 (fun r' M2 => gO r' fun v' => v = v' ∧ Inv M2 ∧ ∀ k, 30 ≤ k → M2 k = M k)) (20, [zR 0 0, zI (nI q), zI (nI i)], []) M4 := by
      intro r
      induction r with
      | zero =>
        intro i M4 e f4 g4 hv
        have e : i = 61 := by omega
        subst e
        refine cp_X4_out_20 _ _ _ ⟨fun _ => gO_i ?_, fun z => absurd ((nlt (by omega) (by omega)).mpr (by omega)) z⟩
        have := mid M4 f4
        rw [← hv] at this
        exact this
      | succ r ih =>
        intro i M4 e f4 g4 hv
        refine cp_X4_out_20 _ _ _ ⟨fun z => ?_, fun _ => ?_⟩
        · rw [nlt (by omega) (by omega)] at z
          omega
        · have eli := el i
          have oi := (ok i).o q (by omega)
          have e7 : M4 7 1 q = nI (evn T i (5 + q)) := g4.1.2.2.2.2.2.1 q (by omega)
          rw [ncl (by omega), e7]
          refine ⟨vin_i (by omega) (by omega), fun c => ?_, fun c => gO_i ?_⟩
          rotate_left
          · rw [neq (by omega) (by omega)] at c
            have := mid M4 f4
            rw [← hv, show fst (fun i => decide (evn T i (5 + q) = 0)) (r + 1) i = nI i from if_pos (decide_eq_true c)] at this
            exact this
          · refine c_passEvening g4 (ok i) (by rw [evn_3]; omega) (fun M5 f5 g5 _ => gN_i ?_)
            rw [nI_add]
            refine ih (i + 1) M5 (by omega) (f4.tr f5) g5 ?_
            rw [← hv]
            exact (if_neg (fun y => c (by rw [of_decide_eq_true y]))).symm
    exact loop 61 0 M1 (by omega) f1 g1 rfl
  · refine en_X4_out _ _ (c_hasPlace hc.1.1 hb.1 (fun k hk e => absurd e (hno k hk)) (fun _ => gFn (gO_i ?_)))
    exact en_X5_out _ _ (c_isPlace5 (hm 1 (by omega)) hb.1 (fun k hk e => absurd e (hno k hk)) (fun _ => gFn (gO_i ⟨rfl, I, fun _ _ => rfl⟩)))
