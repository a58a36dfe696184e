/-! hold, lure -/
theorem up_ind2 {P : Nat → Prop} {a n : Nat} (h : a ≤ n) (h0 : P n) (hs : ∀ i, a ≤ i → i < n → P (i + 1) → P i) : P a := by
  have := up_ind (P := fun i => P (a + i)) (n := n - a) (by rw [show a + (n - a) = n by omega]; exact h0) (fun i hi h => hs (a + i) (by omega) (by omega) h)
  exact this
theorem ev_cr {T : Nat → Nat} (ok : okT T) (r : Nat) : T (24 + 4 * r) ≤ ev T (24 + 4 * r) := by
  rw [ev_e (by omega) (by omega) (by omega)]
  exact evG_c ok.s (T 2) (Nat.le_refl _)
theorem evn_cr {T : Nat → Nat} (ok : okT T) (r : Nat) : ∀ n i, i ≤ n → evn T i (24 + 4 * r) ≤ evn T n (24 + 4 * r)
  | 0, i, h => by
    have : i = 0 := by omega
    rw [this]; exact Nat.le_refl _
  | n + 1, i, h => by
    by_cases e : i = n + 1
    · rw [e]; exact Nat.le_refl _
    · exact Nat.le_trans (evn_cr ok r n i (by omega)) (ev_cr (okT_evn ok n) r)
section Ho
variable {d : Nat} {Q : Option AV → Mem → Prop} {M : Mem} {T : Nat → Nat} {q n : Nat} {x : Int32}
theorem c_letsCross (h : CT M 1 T) (ok : okT T) (h3 : T 3 + n < 1000000) (hq : q < T 2) (hQ : ∀ M1, F1 M M1 → Q (some (zI (nI (evn T n (24 + 4 * q))))) M1) : wpd (d + 5) 41 [zR 6 1, zI (nI q), zI (nI n)] M Q := by
  refine en_X3_letsCross _ _ _ _ ?_
  have key : ∀ i M1, i ≤ n → F1 M M1 → CT M1 1 (evn T i) → (evn T i (24 + 4 * q) = 1 ∨ i = n) → wpd (d + 4) 27 [zR 6 1, zI (nI q)] M1 (fun r1 M1 => gO r1 fun v1 => (((v1) = 0 ∨ (v1) = 1) ∧ Q (some (zI v1)) M1)) := by
    intro i M1 hi f1 f2 hh
    have ok1 := okT_evn ok i
    have el := evn_l ok i
    have eln := evn_l ok n
    have c5 := (ok1.2.2.2.2.2.2.2 q (by omega)).2.2.2.2
    have d5 := ((okT_evn ok n).2.2.2.2.2.2.2 q (by omega)).2.2.2.2
    have hmo := evn_cr ok q n i hi
    have hq1 := hQ M1 f1
    refine c_hasCrossed f2.1 ok1.2.2.2.1 (by omega) c5 (fun c => gO_i ⟨z1, ?_⟩) (fun c => gO_i ⟨z0, ?_⟩)
    · rw [show evn T n (24 + 4 * q) = 1 by omega] at hq1
      exact hq1
    · have e : i = n := by omega
      rw [← e, c] at hq1
      exact hq1
  refine up_ind (P := fun i => ∀ M1, F1 M M1 → CT M1 1 (evn T i) → WP (wpd (d + 4)) 2 T_X3_letsCross Q (2, [zR 6 1, zI (nI q), zI (nI n), zI (nI i)], []) M1) (n := n) ?_ ?_ M F1.rf h
  · intro M1 f1 f2
    exact cp_X3_letsCross_2 _ _ _ _ _ ⟨fun _ => key n M1 (Nat.le_refl _) f1 f2 (Or.inr rfl), fun z => absurd ((nle (by omega) (by omega)).mpr (Nat.le_refl _)) z⟩
  · intro i hi ih M1 f1 f2
    have ok1 := okT_evn ok i
    have el := evn_l ok i
    have c5 := (ok1.2.2.2.2.2.2.2 q (by omega)).2.2.2.2
    refine cp_X3_letsCross_2 _ _ _ _ _ ⟨fun z => ?_, fun _ => ?_⟩
    · rw [nle (by omega) (by omega)] at z
      omega
    · refine c_hasCrossed f2.1 ok1.2.2.2.1 (by omega) c5 (fun c => gTn (key i M1 (by omega) f1 f2 (Or.inl c))) (fun c => gFn ?_)
      refine c_passEvening f2 ok1 (by rw [evn_3]; omega) (fun M2 g1 g2 _ => gN_i ?_)
      rw [nI_add]
      exact ih M2 (f1.tr g1) g2
theorem m_isNear {p : Int32} (h1 : nI 1 ≤ p → p ≤ nI 30 → Q (some (zI (nI 1))) M) (h0 : ¬ (nI 1 ≤ p ∧ p ≤ nI 30) → Q (some (zI (nI 0))) M) : wpd (d + 2) 168 [zI p] M Q :=
  en_X5_isNear _ _ (c_in (fun y1 y2 => gO_i ⟨z1, h1 y1 y2⟩) (fun y => gO_i ⟨z0, h0 y⟩))
/-- some flames put out -/
def pO (T : Nat → Nat) (b : Nat → Bool) : Nat → Nat → Nat
  | 0 => T
  | n + 1 => if b n = true then ups (pO T b n) (5 + n) 0 else pO T b n
theorem pO_o {b : Nat → Bool} {j : Nat} (h : ¬ (5 ≤ j ∧ j < 13)) : ∀ n, n ≤ 8 → pO T b n j = T j
  | 0, _ => rfl
  | n + 1, hn => by
    unfold pO
    split
    · rw [ups_n (by omega)]; exact pO_o h n (by omega)
    · exact pO_o h n (by omega)
theorem pO_ok {b : Nat → Bool} (ok : okT T) : ∀ n, n ≤ 8 → okT (pO T b n)
  | 0, _ => ok
  | n + 1, hn => by
    unfold pO
    split
    · exact okT_oil (pO_ok ok n (by omega)) (by omega) (by omega)
    · exact pO_ok ok n (by omega)
theorem pO_v {b : Nat → Bool} {p : Nat} : ∀ n, pO T b n (5 + p) = if p < n ∧ b p = true then 0 else T (5 + p)
  | 0 => by
    rw [if_neg (by omega)]; rfl
  | n + 1 => by
    unfold pO
    by_cases e : p = n
    · subst e
      by_cases hb : b p = true
      · rw [if_pos hb, ups_s, if_pos ⟨by omega, hb⟩]
      · rw [if_neg hb, pO_v p, if_neg (by omega), if_neg (fun z => hb z.2)]
    · have hv := pO_v (p := p) (b := b) n
      by_cases hb : b n = true
      · rw [if_pos hb, ups_n (by omega), hv]
        by_cases u : p < n
        · by_cases v : b p = true
          · rw [if_pos ⟨u, v⟩, if_pos ⟨by omega, v⟩]
          · rw [if_neg (fun z => v z.2), if_neg (fun z => v z.2)]
        · rw [if_neg (by omega), if_neg (by omega)]
      · rw [if_neg hb, hv]
        by_cases u : p < n
        · by_cases v : b p = true
          · rw [if_pos ⟨u, v⟩, if_pos ⟨by omega, v⟩]
          · rw [if_neg (fun z => v z.2), if_neg (fun z => v z.2)]
        · rw [if_neg (by omega), if_neg (by omega)]
theorem c_putOut {b : Nat → Bool} (h : CT M 1 T) (h8 : T 1 ≤ 8) (hx : ∀ k, k < T 1 → hasB x k (b k)) (hQ : ∀ M1, F1 M M1 → CT M1 1 (pO T b (T 1)) → Q none M1) : wpd (d + 2) 33 [zR 6 1, zI x] M Q := by
  refine en_X3_putOut _ _ _ ?_
  refine up_ind (P := fun i => ∀ M1, i ≤ T 1 → F1 M M1 → CT M1 1 (pO T b i) → WP (wpd (d + 1)) 0 T_X3_putOut Q (2, [zR 6 1, zI x, zI (nI i)], []) M1) (n := T 1) ?_ ?_ M (by omega) F1.rf h
  · intro M1 _ f1 f2
    refine cp_X3_putOut_2 _ _ _ _ ⟨fun _ => hQ M1 f1 f2, fun z => ?_⟩
    rw [f2.1.1, pO_o (by omega) _ h8] at z
    exact absurd ((nle (by omega) (by omega)).mpr (Nat.le_refl _)) z
  · intro i hi ih M1 _ f1 f2
    refine cp_X3_putOut_2 _ _ _ _ ⟨fun z => ?_, fun _ => ?_⟩
    · rw [f2.1.1, pO_o (by omega) _ (by omega), nle (by omega) (by omega)] at z
      omega
    · refine c_hasBit (hx i hi) (fun y => gTe ?_) (fun y => gFe ?_)
      · rw [ncl (by omega), nI_add]
        refine ⟨vin_i (by omega) (by omega), ih _ (by omega) (fun k j z => by rw [mup_r (by omega)]; exact f1 k j z) ?_⟩
        have e : pO T b (i + 1) = ups (pO T b i) (5 + i) 0 := by
          conv => lhs; unfold pO
          rw [if_pos y]
        rw [e]
        exact f2.oilU (by rw [pO_o (by omega) _ (by omega)]; exact h8) (by omega)
      · rw [nI_add]
        refine ih M1 (by omega) f1 ?_
        have e : pO T b (i + 1) = pO T b i := by
          conv => lhs; unfold pO
          rw [if_neg (by rw [y]; decide)]
        rw [e]; exact f2
end Ho
theorem pr_hold (p1 p2 p3 : Int32) : PR 75 169 [zR 0 0, zI p1, zI p2, zI p3] [zR 16 0, zI p1, zI p2, zI p3] := by
  intro M I
  obtain ⟨T, hg, hc, hm⟩ := I.2.2.2.2.2.1
  have hb := hg.b
  have bad : ((∀ k, k < T 2 → p1 ≠ nI k) ∨ (∀ k, k < T 1 → p2 ≠ nI k)) ∨ ¬ (nI 1 ≤ p3 ∧ p3 ≤ nI 30) → wpd 40 169 [zR 16 0, zI p1, zI p2, zI p3] M (fun r' M2 => gO r' fun v' => (-1000001 : Int32) = v' ∧ Inv M2 ∧ ∀ k, 30 ≤ k → M2 k = M k) := by
    intro h
    have B : gO (some (zI (-1000001))) fun v' => (-1000001 : Int32) = v' ∧ Inv M ∧ ∀ k, 30 ≤ k → M k = M k := gO_i ⟨rfl, I, fun _ _ => rfl⟩
    refine en_X5_hold _ _ _ _ (c_isPlayer5 (hm 2 (by omega)) hb.2 (fun k hk e => gTe ?_) (fun _ => gFe B))
    refine c_isPlace5 (hm 1 (by omega)) hb.1 (fun k' hk' e' => gTe ?_) (fun _ => gFe B)
    refine m_isNear (fun y1 y2 => ?_) (fun _ => gFn B)
    rcases h with (h | h) | h
    · exact absurd e (h k hk)
    · exact absurd e' (h k' hk')
    · exact absurd ⟨y1, y2⟩ h
  refine en_X4_hold _ _ _ _ (c_hasPlayer hc.1.2.1 hb.2 (fun q hq e => gTe ?_) (fun h => gFe (gO_i (bad (Or.inl (Or.inl h))))))
  refine c_hasPlace hc.1.1 hb.1 (fun p hp e' => gTe ?_) (fun h => gFe (gO_i (bad (Or.inl (Or.inr h)))))
  refine c_isWithin (fun w1 w2 => gTn ?_) (fun h => gFn (gO_i (bad (Or.inr h))))
  obtain ⟨n, hn, rfl⟩ := nI_of2 (x := p3) (M := nI 30) (n := 30) (by decide) (fun y => Int32.not_le.mpr (Int32.lt_of_lt_of_le y (by decide)) w1) w2
  subst e
  subst e'
  have hN := hg.p hq
  have h3 := hN.2.1
  have ho := hN.1.o p (by omega)
  have okv : ∀ v, okT (ups T (5 + p) (min (T (5 + p) + v) 20)) := fun v => okT_oil hN.1 (by omega) (by omega)
  have v3 : ∀ v, ups T (5 + p) (min (T (5 + p) + v) 20) 3 = T 3 := fun v => ups_n (by omega)
  have v2 : ∀ v, ups T (5 + p) (min (T (5 + p) + v) 20) 2 = T 2 := fun v => ups_n (by omega)
  generalize hf : (fun v => decide (evn (ups T (5 + p) (min (T (5 + p) + v) 20)) n (24 + 4 * q) = 0)) = f
  have hfv : ∀ v, f v = decide (evn (ups T (5 + p) (min (T (5 + p) + v) 20)) n (24 + 4 * q) = 0) := fun v => by rw [← hf]
  have cle : ∀ v, evn (ups T (5 + p) (min (T (5 + p) + v) 20)) n (24 + 4 * q) ≤ 1 := fun v => ((okT_evn (okv v) n).2.2.2.2.2.2.2 q (by rw [(evn_l (okv v) n).2.2, v2]; exact hq)).2.2.2.2
  have ref : ∀ M1, F1 M M1 → wpd 40 169 [zR 16 0, zI (nI q), zI (nI p), zI (nI n)] M1 (fun r' M2 => gO r' fun v' => fst f 21 0 = v' ∧ Inv M2 ∧ ∀ k, 30 ≤ k → M2 k = M k) := by
    intro M1 f1
    have hm1 := hm.f1 f1
    refine en_X5_hold _ _ _ _ (c_isPlayer5 (hm1 2 (by omega)) hb.2 (fun _ _ _ => gTe ?_) (fun h => absurd rfl (h q hq)))
    refine c_isPlace5 (hm1 1 (by omega)) hb.1 (fun _ _ _ => gTe ?_) (fun h => absurd rfl (h p hp))
    refine m_isNear (fun _ _ => gTn ?_) (fun h => absurd ⟨w1, w2⟩ h)
    refine up_ind (P := fun i => ∀ M2, i ≤ 21 → Fp 2 M1 M2 → fst f (21 - i) i = fst f 21 0 → WP (wpd 39) 1 T_X5_hold (fun r' M2 => gO r' fun v' => fst f 21 0 = v' ∧ Inv M2 ∧ ∀ k, 30 ≤ k → M2 k = M k) (29, [zR 16 0, zI (nI q), zI (nI p), zI (nI n), zI (nI i)], []) M2) (n := 21) ?_ ?_ M1 (by omega) Fp.rf rfl
    · intro M2 _ f2 hv
      exact cp_X5_hold_29 _ _ _ _ _ ⟨fun _ => gO_i ⟨hv.symm, fin_q I f1 f2⟩, fun z => absurd ((nle (by omega) (by omega)).mpr (Nat.le_refl _)) z⟩
    · intro i hi ih M2 _ f2 hv
      have hm2 := hm1.fp f2
      refine cp_X5_hold_29 _ _ _ _ _ ⟨fun z => ?_, fun _ => ?_⟩
      · rw [nle (by omega) (by omega)] at z
        omega
      · refine m_try hm2 (fun M3 f3 g3 => gN_i ?_)
        have hm3 := hm2.fp f3
        rw [nI_add 5, ncl (by omega), hm3 (5 + p) (by omega), nI_add]
        refine ⟨vin_i (by omega) (by omega), c_lesser (gO_i ⟨vin_i (by omega) (by omega), ?_⟩)⟩
        rw [min_if (by omega) (by omega), Nat.min_comm 20]
        refine m_goesOn g3.up (okv i) (by rw [v3]; omega) (fun M4 f4 g4 => gN_i ?_)
        have f34 : Fp 2 M1 M4 := (f2.tr f3).tr (fun k j y1 y2 => by rw [f4 k j y1 y2, mup_r y1])
        rw [pk_mul, nI_add 21, nI_add (21 + 4 * q), show 21 + 4 * q + 3 = 24 + 4 * q by omega, ncl (by omega), g4 _ (by omega)]
        have cl := cle i
        have un : fst f (21 - i) i = if f i = true then nI i else fst f (21 - (i + 1)) (i + 1) := by
          rw [show 21 - i = (21 - (i + 1)) + 1 by omega]; rfl
        refine ⟨vin_i (by omega) (by omega), fun z => ?_, fun z => ?_⟩
        · rw [nI_add]
          rw [un, if_neg (fun y => z (by rw [hfv] at y; rw [of_decide_eq_true y]))] at hv
          exact ih M4 (by omega) f34 hv
        · rw [neq (by omega) (by omega)] at z
          rw [un, if_pos (by rw [hfv]; exact decide_eq_true z)] at hv
          exact gO_i ⟨hv.symm, fin_q I f1 f34⟩
  refine up_ind (P := fun i => ∀ M2, i ≤ 21 → F1 M M2 → fst f (21 - i) i = fst f 21 0 → WP (wpd 39) 1 T_X4_hold (fun r M1 => gO r fun v => wpd 40 169 [zR 16 0, zI (nI q), zI (nI p), zI (nI n)] M1 (fun r' M2 => gO r' fun v' => v = v' ∧ Inv M2 ∧ ∀ k, 30 ≤ k → M2 k = M k)) (38, [zR 0 0, zI (nI q), zI (nI p), zI (nI n), zI (nI i)], []) M2) (n := 21) ?_ ?_ M (by omega) F1.rf rfl
  · intro M2 _ f2 hv
    have := ref M2 f2
    rw [← hv] at this
    exact cp_X4_hold_38 _ _ _ _ _ ⟨fun _ => gO_i this, fun z => absurd ((nlt (by omega) (by omega)).mpr (by omega)) z⟩
  · intro i hi ih M2 _ f2 hv
    refine cp_X4_hold_38 _ _ _ _ _ ⟨fun z => ?_, fun _ => ?_⟩
    · rw [nlt (by omega) (by omega)] at z
      omega
    · refine c_foretell (hc.f1 f2) hb.1 hb.2 (fun M3 f3 g3 => gN_i ?_)
      have e1 : M3 7 1 p = nI (T (5 + p)) := g3.1.2.2.2.2.2.1 p hp
      refine en_X3_addOil _ _ _ _ ⟨vin_i (by omega) (by omega), vin_i (by omega) (by omega), gN_i ?_⟩
      rw [ncl (by omega), e1, nI_add, min_if (by omega) (by omega)]
      have cl := cle i
      have un : fst f (21 - i) i = if f i = true then nI i else fst f (21 - (i + 1)) (i + 1) := by
        rw [show 21 - i = (21 - (i + 1)) + 1 by omega]; rfl
      refine c_letsCross (g3.oilU hb.1 (by omega)) (okv i) (by rw [v3]; omega) (by rw [v2]; exact hq) (fun M4 f4 => gO_i ?_)
      have f34 : F1 M M4 := (f2.tr f3).tr (fun k j y => by rw [f4 k j y, mup_r (by omega)])
      refine ⟨fun z => ?_, fun z => ?_⟩
      · rw [nI_add]
        rw [un, if_neg (fun y => z (by rw [hfv] at y; rw [of_decide_eq_true y]))] at hv
        exact ih M4 (by omega) f34 hv
      · rw [neq (by omega) (by omega)] at z
        rw [un, if_pos (by rw [hfv]; exact decide_eq_true z)] at hv
        have := ref M4 f34
        rw [← hv] at this
        exact gO_i this
def lS (f : Nat → Nat) : Nat → Int32 × Int32
  | 0 => (nI 0, -1)
  | i + 1 => if nI (f i) ≤ (lS f i).2 then lS f i else (nI i, nI (f i))
theorem bit_1 : ∀ i, i < 8 → ∀ k, k < 8 → (((nI 1 <<< (nI i &&& 31)) >>> (nI k &&& 31)) &&& nI 1 : Int32) = nI (cond (decide (k = i)) 1 0) := by decide
theorem pr_lure (p1 p2 : Int32) : PR 77 171 [zR 0 0, zI p1, zI p2] [zR 16 0, zI p1, zI p2] := by
  intro M I
  obtain ⟨T, hg, hc, hm⟩ := I.2.2.2.2.2.1
  have hb := hg.b
  by_cases t0 : 0 < T 1
  · have hN := hg.n t0
    by_cases w : nI 1 ≤ p1 ∧ p1 ≤ nI 30
    · rcases num_or p2 2 with ⟨k, hk, rfl⟩ | hno
      · obtain ⟨n, hn, rfl⟩ := nI_of2 (x := p1) (M := nI 30) (n := 30) (by decide) (fun y => Int32.not_le.mpr (Int32.lt_of_lt_of_le y (by decide)) w.1) w.2
        have h3 := hN.2.1
        have okv : ∀ p, p < 8 → okT (ups T (5 + p) 0) := fun p hp => okT_oil hN.1 hp (by omega)
        have v3 : ∀ p, ups T (5 + p) 0 3 = T 3 := fun v => ups_n (by omega)
        have eq : ∀ p, p < T 1 → pO T (fun j => decide (j = p)) (T 1) = ups T (5 + p) 0 := by
          intro p hp
          funext j
          by_cases u : 5 ≤ j ∧ j < 13
          · obtain ⟨r, rfl⟩ : ∃ r, j = 5 + r := ⟨j - 5, by omega⟩
            rw [pO_v]
            by_cases e : r = p
            · subst e
              rw [ups_s, if_pos ⟨hp, decide_eq_true rfl⟩]
            · rw [ups_n (by omega), if_neg (fun z => e (of_decide_eq_true z.2))]
          · rw [pO_o u _ hb.1, ups_n (by omega)]
        generalize hf : (fun p => crN (evn (ups T (5 + p) 0) n)) = f
        have hfv : ∀ p, crN (evn (ups T (5 + p) 0) n) = f p := fun p => by rw [← hf]
        have ref : ∀ M1, F1 M M1 → ∀ v : Int32, (v = if k = 0 then (lS f (T 1)).1 else (lS f (T 1)).2) → wpd 40 171 [zR 16 0, zI (nI n), zI (nI k)] M1 (fun r' M2 => gO r' fun v' => v = v' ∧ Inv M2 ∧ ∀ k, 30 ≤ k → M2 k = M k) := by
          intro M1 f1 v hv
          have hm1 := hm.f1 f1
          refine en_X5_lure _ _ _ (c_isTown5 (hm1 1 (by omega)) hb.1 (fun _ => gTn (m_isNear (fun _ _ => gTe (c_either5 (fun _ _ _ => gTn ?_) (fun h => absurd rfl (h k hk)))) (fun y => absurd w y))) (fun y => by omega))
          refine up_ind (P := fun i => ∀ M2, Fp 2 M1 M2 → WP (wpd 39) 1 T_X5_lure (fun r' M2 => gO r' fun v' => v = v' ∧ Inv M2 ∧ ∀ k, 30 ≤ k → M2 k = M k) (37, [zR 16 0, zI (nI n), zI (nI k), zI (lS f i).1, zI (lS f i).2, zI (nI i), zU], []) M2) (n := T 1) ?_ ?_ M1 Fp.rf
          · intro M2 f2
            have hm2 := hm1.fp f2
            refine cp_X5_lure_37 _ _ _ _ _ _ ⟨vin_i (by omega) (by omega), fun _ => ⟨fun z => ?_, fun z => ?_⟩, fun z => ?_⟩
            · rw [if_neg (fun e => z (by rw [e]))] at hv
              exact gO_i ⟨hv, fin_q I f1 f2⟩
            · rw [neq (by omega) (by omega)] at z
              rw [if_pos z] at hv
              exact gO_i ⟨hv, fin_q I f1 f2⟩
            · rw [hm2 1 (by omega)] at z
              exact absurd ((nle (by omega) (by omega)).mpr (Nat.le_refl _)) z
          · intro i hi ih M2 f2
            have hm2 := hm1.fp f2
            refine cp_X5_lure_37 _ _ _ _ _ _ ⟨vin_i (by omega) (by omega), fun z => ?_, fun _ => ?_⟩
            · rw [hm2 1 (by omega), nle (by omega) (by omega)] at z
              omega
            · refine m_try hm2 (fun M3 f3 g3 => gN_i ?_)
              rw [nI_add 5, ncl (by omega)]
              refine ⟨vin_i (by omega) (by omega), m_goesOn g3.up (okv i (by omega)) (by rw [v3]; omega) (fun M4 f4 g4 => gN_i ?_)⟩
              have f34 : Fp 2 M1 M4 := (f2.tr f3).tr (fun k j y1 y2 => by rw [f4 k j y1 y2, mup_r y1])
              refine m_crossed g4 (okT_evn (okv i (by omega)) n).2.2.2.1 (gO_i ?_)
              rw [hfv, nI_add]
              have e : lS f (i + 1) = if nI (f i) ≤ (lS f i).2 then lS f i else (nI i, nI (f i)) := rfl
              refine ⟨fun y => ⟨fun _ => ?_, fun y2 => absurd y y2⟩, fun y => ⟨fun y2 => absurd y2 y, fun _ => ?_⟩⟩
              · rw [if_pos y] at e
                rw [e] at ih
                exact ih M4 f34
              · rw [if_neg y] at e
                rw [e] at ih
                exact ih M4 f34
        refine en_X4_lure _ _ _ (c_stands hc.1.1 hb.1 (fun _ => gTn (c_isWithin (fun _ _ => gTe (c_isEither (fun _ _ _ => gTn ?_) (fun h => absurd rfl (h k hk)))) (fun y => absurd w y))) (fun y => by omega))
        refine up_ind (P := fun i => ∀ M2, F1 M M2 → WP (wpd 39) 1 T_X4_lure (fun r M1 => gO r fun v => wpd 40 171 [zR 16 0, zI (nI n), zI (nI k)] M1 (fun r' M2 => gO r' fun v' => v = v' ∧ Inv M2 ∧ ∀ k, 30 ≤ k → M2 k = M k)) (41, [zR 0 0, zI (nI n), zI (nI k), zI (lS f i).1, zI (lS f i).2, zI (nI i), zU], []) M2) (n := T 1) ?_ ?_ M F1.rf
        · intro M2 f2
          have hc2 := hc.f1 f2
          refine cp_X4_lure_41 _ _ _ _ _ _ ⟨fun _ => ⟨fun z => gO_i (ref M2 f2 _ ?_), fun z => gO_i (ref M2 f2 _ ?_)⟩, fun z => ?_⟩
          · rw [if_neg (fun e => z (by rw [e]))]
          · rw [neq (by omega) (by omega)] at z
            rw [if_pos z]
          · rw [hc2.1.1] at z
            exact absurd ((nle (by omega) (by omega)).mpr (Nat.le_refl _)) z
        · intro i hi ih M2 f2
          have hc2 := hc.f1 f2
          refine cp_X4_lure_41 _ _ _ _ _ _ ⟨fun z => ?_, fun _ => ?_⟩
          · rw [hc2.1.1, nle (by omega) (by omega)] at z
            omega
          · refine c_foretell hc2 hb.1 hb.2 (fun M3 f3 g3 => gN_i ?_)
            refine c_putOut (b := fun j => decide (j = i)) g3 hb.1 (fun k hk => bit_1 i (by omega) k (by omega)) (fun M4 f4 g4 => gN_i ?_)
            rw [eq i hi] at g4
            refine c_pE g4 (okv i (by omega)) (by rw [v3]; omega) (fun M5 f5 g5 => gN_i ?_)
            refine c_crossers g5 (okT_evn (okv i (by omega)) n) (gO_i ?_)
            rw [hfv, nI_add]
            have f35 := ((f2.tr f3).tr f4).tr f5
            have e : lS f (i + 1) = if nI (f i) ≤ (lS f i).2 then lS f i else (nI i, nI (f i)) := rfl
            refine ⟨fun y => ?_, fun y => ?_⟩
            · rw [if_pos y] at e
              rw [e] at ih
              exact ih M5 f35
            · rw [if_neg y] at e
              rw [e] at ih
              exact ih M5 f35
      · refine en_X4_lure _ _ _ (c_stands hc.1.1 hb.1 (fun _ => gTn (c_isWithin (fun _ _ => gTe (c_isEither (fun k hk e => absurd e (hno k hk)) (fun _ => gFn (gO_i ?_)))) (fun y => absurd w y))) (fun y => by omega))
        exact en_X5_lure _ _ _ (c_isTown5 (hm 1 (by omega)) hb.1 (fun _ => gTn (m_isNear (fun _ _ => gTe (c_either5 (fun k hk e => absurd e (hno k hk)) (fun _ => gFn (gO_i ⟨rfl, I, fun _ _ => rfl⟩)))) (fun y => absurd w y))) (fun y => by omega))
    · refine en_X4_lure _ _ _ (c_stands hc.1.1 hb.1 (fun _ => gTn (c_isWithin (fun y1 y2 => absurd ⟨y1, y2⟩ w) (fun _ => gFe (gO_i ?_)))) (fun y => by omega))
      exact en_X5_lure _ _ _ (c_isTown5 (hm 1 (by omega)) hb.1 (fun _ => gTn (m_isNear (fun y1 y2 => absurd ⟨y1, y2⟩ w) (fun _ => gFe (gO_i ⟨rfl, I, fun _ _ => rfl⟩)))) (fun y => by omega))
  · refine en_X4_lure _ _ _ (c_stands hc.1.1 hb.1 (fun y => absurd y t0) (fun _ => gFn (gO_i ?_)))
    exact en_X5_lure _ _ _ (c_isTown5 (hm 1 (by omega)) hb.1 (fun y => absurd y t0) (fun _ => gFn (gO_i ⟨rfl, I, fun _ _ => rfl⟩)))
