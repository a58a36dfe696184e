/-! fill: as long as all are lit, nobody goes by how much oil there is (pure) -/
def Ao (U V : Nat → Nat) : Prop := ∀ j, ¬ (4 ≤ j ∧ j < 13) → U j = V j
def aL (U : Nat → Nat) : Prop := ∀ p, p < U 1 → 0 < U (5 + p)
theorem ups_ao {U V : Nat → Nat} {a v j : Nat} (h : U j = V j) : ups U a v j = ups V a v j := by
  unfold ups
  split
  · rfl
  · exact h
theorem goT_ao {U V : Nat → Nat} (h : Ao U V) (L : Nat → Bool) (q : Nat) : Ao (goT U L q) (goT V L q) := by
  have e1 := h 1 (by omega)
  have e3 := h 3 (by omega)
  have k0 := h (21 + 4 * q) (by omega)
  have k1 := h (22 + 4 * q) (by omega)
  have k2 := h (23 + 4 * q) (by omega)
  have hi : inW U q = inW V q := by unfold inW; rw [e1, k1, k2]
  have hb : byW U q = byW V q := by unfold byW; rw [k1, k2]
  intro j hj
  have hc : crs U q j = crs V q j := by
    unfold crs
    rw [k1, h (13 + V (22 + 4 * q)) (by omega)]
    exact ups_ao (ups_ao (h j hj))
  have ca : cartT U q j = cartT V q j := by
    unfold cartT
    rw [hi, hb]
    by_cases c : inW V q = true
    · rw [if_pos c, if_pos c]; exact ups_ao (h j hj)
    · rw [if_neg c, if_neg c]; exact hc
  unfold goT
  rw [e1, e3, k0, k1, k2, hi, hb]
  by_cases c1 : V (21 + 4 * q) = 1
  · rw [if_pos c1, if_pos c1]; exact ups_ao (h j hj)
  · rw [if_neg c1, if_neg c1]
    by_cases c2 : V (21 + 4 * q) = 2
    · rw [if_pos c2, if_pos c2]
      by_cases c : L (V (22 + 4 * q)) = true
      · rw [if_pos c, if_pos c]; exact ups_ao (h j hj)
      · rw [if_neg c, if_neg c]; exact hc
    · rw [if_neg c2, if_neg c2]
      by_cases c3 : V (21 + 4 * q) = 3
      · rw [if_pos c3, if_pos c3]
        by_cases c : inW V q = true ∧ L (byW V q) = true
        · rw [if_pos c, if_pos c]; exact ups_ao (h j hj)
        · rw [if_neg c, if_neg c]; exact ups_ao (h j hj)
      · rw [if_neg c3, if_neg c3]
        by_cases c4 : V (21 + 4 * q) = 4
        · rw [if_pos c4, if_pos c4]; exact ca
        · rw [if_neg c4, if_neg c4]
          by_cases c : V 3 % 2 = 0
          · rw [if_pos c, if_pos c]; exact ca
          · rw [if_neg c, if_neg c]; exact h j hj
theorem evG_ao {U V : Nat → Nat} (h : Ao U V) (hl : lB U = lB V) : ∀ n, Ao (evG U n) (evG V n)
  | 0 => h
  | n + 1 => by
    have ih := evG_ao h hl n
    have c := ih (24 + 4 * n) (by omega)
    intro j hj
    unfold evG
    rw [c, hl]
    by_cases z : evG V n (24 + 4 * n) = 0
    · rw [if_pos z, if_pos z]; exact goT_ao ih _ _ j hj
    · rw [if_neg z, if_neg z]; exact ih j hj
theorem ev_ao {U V : Nat → Nat} (h : Ao U V) (hl : lB U = lB V) : Ao (ev U) (ev V) := by
  intro j hj
  by_cases e : j = 3
  · subst e
    rw [ev_3, ev_3, h 3 (by omega)]
  · rw [ev_e e (by omega) (by omega), ev_e e (by omega) (by omega), h 2 (by omega)]
    exact evG_ao h hl _ j hj
theorem atN_ao {U V : Nat → Nat} (h : Ao U V) (hl : lB U = lB V) (p : Nat) : atN (evG U (U 2)) p (U 2) = atN (evG V (V 2)) p (V 2) := by
  rw [h 2 (by omega)]
  unfold atN
  refine sumN_c _ (fun k hk => ?_)
  rw [evG_ao h hl _ (24 + 4 * k) (by omega), evG_ao h hl _ (22 + 4 * k) (by omega)]
theorem lB_aL {U : Nat → Nat} (h : aL U) : lB U = fun k => decide (k < U 1) := by
  funext k
  unfold lB
  by_cases z : k < U 1
  · rw [decide_eq_true z, decide_eq_true (h k z)]; rfl
  · rw [decide_eq_false z]; rfl
theorem lB_ao {U V : Nat → Nat} (h : Ao U V) (hu : aL U) (hv : aL V) : lB U = lB V := by
  rw [lB_aL hu, lB_aL hv, h 1 (by omega)]
theorem atN_le (E : Nat → Nat) (p : Nat) : ∀ n, atN E p n ≤ n
  | 0 => Nat.le_refl _
  | n + 1 => by
    have := atN_le E p n
    show atN E p n + (if E (24 + 4 * n) = 0 ∧ E (22 + 4 * n) = p then 1 else 0) ≤ n + 1
    split <;> omega
def uO (T : Nat → Nat) (v : Nat) : Nat → Nat → Nat
  | 0 => T
  | n + 1 => ups (uO T v n) (5 + n) v
theorem uO_o {T : Nat → Nat} {v j : Nat} (h : ¬ (5 ≤ j ∧ j < 13)) : ∀ n, n ≤ 8 → uO T v n j = T j
  | 0, _ => rfl
  | n + 1, hn => by
    unfold uO
    rw [ups_n (by omega)]; exact uO_o h n (by omega)
theorem uO_v {T : Nat → Nat} {v p : Nat} : ∀ n, p < n → uO T v n (5 + p) = v
  | 0, h => absurd h (by omega)
  | n + 1, h => by
    unfold uO
    by_cases e : p = n
    · rw [e, ups_s]
    · rw [ups_n (by omega)]; exact uO_v n (by omega)
theorem uO_ok {T : Nat → Nat} {v : Nat} (ok : okT T) (hv : v ≤ 1000) : ∀ n, n ≤ 8 → okT (uO T v n)
  | 0, _ => ok
  | n + 1, hn => okT_oil (uO_ok ok hv n (by omega)) (by omega) hv
def fO (T : Nat → Nat) (b : Nat → Bool) : Nat → Nat → Nat
  | 0 => T
  | n + 1 => if b n = true then ups (fO T b n) (5 + n) 20 else fO T b n
theorem fO_o {T : Nat → Nat} {b : Nat → Bool} {j : Nat} (h : ¬ (5 ≤ j ∧ j < 13)) : ∀ n, n ≤ 8 → fO T b n j = T j
  | 0, _ => rfl
  | n + 1, hn => by
    unfold fO
    split
    · rw [ups_n (by omega)]; exact fO_o h n (by omega)
    · exact fO_o h n (by omega)
theorem fO_ok {T : Nat → Nat} {b : Nat → Bool} (ok : okT T) : ∀ n, n ≤ 8 → okT (fO T b n)
  | 0, _ => ok
  | n + 1, hn => by
    unfold fO
    split
    · exact okT_oil (fO_ok ok n (by omega)) (by omega) (by omega)
    · exact fO_ok ok n (by omega)
theorem fO_s {T : Nat → Nat} {b : Nat → Bool} {p : Nat} : ∀ n, n ≤ p → fO T b n (5 + p) = T (5 + p)
  | 0, _ => rfl
  | n + 1, h => by
    unfold fO
    split
    · rw [ups_n (by omega)]; exact fO_s n (by omega)
    · exact fO_s n (by omega)
theorem fO_v {T : Nat → Nat} {b : Nat → Bool} {p : Nat} : ∀ n, p < n → fO T b n (5 + p) = if b p = true then 20 else T (5 + p)
  | 0, h => absurd h (by omega)
  | n + 1, h => by
    unfold fO
    by_cases e : p = n
    · subst e
      by_cases hb : b p = true
      · rw [if_pos hb, if_pos hb, ups_s]
      · rw [if_neg hb, if_neg hb]; exact fO_s p (Nat.le_refl _)
    · split
      · rw [ups_n (by omega)]; exact fO_v n (by omega)
      · exact fO_v n (by omega)
/-- with plenty, all stay lit -/
theorem pl_lit {V : Nat → Nat} (ok : okT V) (h : ∀ p, p < V 1 → V (5 + p) = 1000) : ∀ i, i ≤ 30 → ∀ p, p < V 1 → 1000 ≤ evn V i (5 + p) + 9 * i
  | 0, _, p, hp => by
    show 1000 ≤ V (5 + p) + _
    rw [h p hp]; omega
  | i + 1, hi, p, hp => by
    have ih := pl_lit ok h i (by omega) p hp
    have oki := okT_evn ok i
    have el := evn_l ok i
    have h8 := ok.2.2.1
    have a := atN_le (evG (evn V i) (evn V i 2)) p (evn V i 2)
    have h6 := oki.2.2.2.1
    have h0 := oki.1
    show 1000 ≤ ev (evn V i) (5 + p) + _
    rw [ev_o (by omega)]
    split <;> omega
/-- lit to the end just if there is more than is burnt with plenty -/
theorem fill_iff {U V : Nat → Nat} (ou : okT U) (ov : okT V) (h : Ao U V) (hV : ∀ p, p < V 1 → V (5 + p) = 1000) : ∀ i, i ≤ 30 → (aL (evn U i) ↔ ∀ p, p < V 1 → 1000 - evn V i (5 + p) < U (5 + p)) ∧ ((∀ p, p < V 1 → 1000 - evn V i (5 + p) < U (5 + p)) → Ao (evn U i) (evn V i) ∧ ∀ p, p < V 1 → evn U i (5 + p) + (1000 - evn V i (5 + p)) = U (5 + p))
  | 0, _ => by
    refine ⟨⟨fun a p hp => ?_, fun a p hp => ?_⟩, fun _ => ⟨h, fun p hp => ?_⟩⟩
    · show 1000 - V (5 + p) < _
      rw [hV p hp]
      have := a p (by show p < U 1; rw [h 1 (by omega)]; exact hp)
      have : 0 < U (5 + p) := this
      omega
    · have hp : p < U 1 := hp
      have := a p (by rw [← h 1 (by omega)]; exact hp)
      show 0 < U (5 + p)
      omega
    · show U (5 + p) + (1000 - V (5 + p)) = _
      rw [hV p hp]; omega
  | i + 1, hi => by
    obtain ⟨i1, i2⟩ := fill_iff ou ov h hV i (by omega)
    have oui := okT_evn ou i
    have ovi := okT_evn ov i
    have eu := evn_l ou i
    have e1 := evn_l ov i
    have h1 := h 1 (by omega)
    have h8 := ov.2.2.1
    have lv : aL (evn V i) := fun p hp => by
      have := pl_lit ov hV i (by omega) p (by omega)
      omega
    have vs : ∀ p, p < V 1 → evn V (i + 1) (5 + p) = evn V i (5 + p) - atN (evG (evn V i) (evn V i 2)) p (evn V i 2) - evn V i 0 := by
      intro p hp
      show ev (evn V i) (5 + p) = _
      rw [ev_o (by omega), lB_aL lv, if_pos (decide_eq_true (by omega))]
    have vb : ∀ p, p < V 1 → evn V i (5 + p) ≤ 1000 ∧ atN (evG (evn V i) (evn V i 2)) p (evn V i 2) + evn V i 0 ≤ 9 ∧ 700 ≤ evn V i (5 + p) := by
      intro p hp
      have a := atN_le (evG (evn V i) (evn V i 2)) p (evn V i 2)
      have h6 := ovi.2.2.2.1
      have h0 := ovi.1
      have hh := pl_lit ov hV i (by omega) p hp
      exact ⟨ovi.o p (by omega), by omega, by omega⟩
    by_cases g : ∀ p, p < V 1 → 1000 - evn V i (5 + p) < U (5 + p)
    · obtain ⟨a1, a2⟩ := i2 g
      have lu := i1.mpr g
      have hl := lB_ao a1 lu lv
      have us : ∀ p, p < V 1 → evn U (i + 1) (5 + p) = evn U i (5 + p) - atN (evG (evn V i) (evn V i 2)) p (evn V i 2) - evn V i 0 := by
        intro p hp
        show ev (evn U i) (5 + p) = _
        rw [ev_o (by omega), lB_aL lu, if_pos (decide_eq_true (by omega)), atN_ao a1 hl, a1 0 (by omega)]
      have eu1 := evn_l ou (i + 1)
      refine ⟨⟨fun a p hp => ?_, fun a p hp => ?_⟩, fun a => ⟨ev_ao a1 hl, fun p hp => ?_⟩⟩
      · have b := a p (by omega)
        rw [us p hp] at b
        rw [vs p hp]
        have := a2 p hp
        have := vb p hp
        omega
      · have hp : p < V 1 := by omega
        have b := a p hp
        rw [vs p hp] at b
        rw [us p hp]
        have := a2 p hp
        have := vb p hp
        omega
      · have b := a p hp
        rw [vs p hp] at b
        rw [us p hp, vs p hp]
        have := a2 p hp
        have := vb p hp
        omega
    · have g1 : ¬ ∀ p, p < V 1 → 1000 - evn V (i + 1) (5 + p) < U (5 + p) := by
        intro z
        refine g (fun p hp => ?_)
        have := z p hp
        rw [vs p hp] at this
        omega
      refine ⟨⟨fun a => ?_, fun a => absurd a g1⟩, fun a => absurd a g1⟩
      exfalso
      refine g (i1.mp (fun p hp => ?_))
      have b := a p (by rw [(evn_l ou (i + 1)).2.1]; omega)
      have b : 0 < ev (evn U i) (5 + p) := b
      rw [ev_o (by omega)] at b
      split at b <;> omega
theorem bso_tb {f : Nat → Bool} {n k : Nat} : (bso f n).testBit k = (decide (k < n) && f k) := by
  have h := bso_bit f n k
  rw [← Nat.toNat_testBit] at h
  cases hb : (bso f n).testBit k <;> cases hc : (decide (k < n) && f k) <;> rw [hb, hc] at h <;> first | rfl | exact absurd h (by decide)
theorem sum_1 {g : Nat → Nat} (h : ∀ k, g k ≤ 1) : ∀ n, sumN g n ≤ n ∧ (sumN g n = n ↔ ∀ k, k < n → g k = 1)
  | 0 => ⟨Nat.le_refl _, ⟨fun _ k hk => absurd hk (by omega), fun _ => rfl⟩⟩
  | n + 1 => by
    obtain ⟨i1, i2⟩ := sum_1 h n
    have hn := h n
    have e : sumN g (n + 1) = sumN g n + g n := rfl
    refine ⟨by omega, ⟨fun z k hk => ?_, fun z => ?_⟩⟩
    · by_cases c : k = n
      · subst c; omega
      · exact i2.mp (by omega) k (by omega)
    · have := i2.mpr (fun k hk => z k (by omega))
      have := z n (by omega)
      omega
theorem cnt_lit {U : Nat → Nat} (h8 : U 1 ≤ 8) : cnt (litM U) 8 = U 1 ↔ aL U := by
  have e : cnt (litM U) 8 = sumN (fun k => ((litM U).testBit k).toNat) (U 1) := by
    have := sumN_split (f := fun k => ((litM U).testBit k).toNat) (U 1) (8 - U 1)
    rw [show U 1 + (8 - U 1) = 8 by omega, sumN_0 (8 - U 1) (fun k hk => ?_)] at this
    · exact this
    · unfold litM
      rw [bso_tb, decide_eq_false (by omega)]; rfl
  rw [e, (sum_1 (fun k => Bool.toNat_le _) (U 1)).2]
  constructor
  · intro z p hp
    have := z p hp
    unfold litM at this
    rw [bso_tb, decide_eq_true hp, Bool.true_and] at this
    by_cases c : 0 < U (5 + p)
    · exact c
    · rw [decide_eq_false c] at this
      exact absurd this (by decide)
  · intro z p hp
    unfold litM
    rw [bso_tb, decide_eq_true hp, decide_eq_true (z p hp)]; rfl
