/-! wind: whose crossing hangs on the flames (pure) -/
theorem wgt_le {c m l : Nat} (hc : c ≤ 10) : ∀ n, wgt c m l n ≤ 10 ^ n
  | 0 => Nat.le_refl _
  | n + 1 => by
    rw [wgt_s, Nat.pow_succ]
    refine Nat.mul_le_mul (wgt_le hc n) ?_
    split
    · split <;> omega
    · omega
theorem sumN_mono {f : Nat → Nat} {i : Nat} : ∀ n, i ≤ n → sumN f i ≤ sumN f n
  | 0, h => by
    have : i = 0 := by omega
    rw [this]; exact Nat.le_refl _
  | n + 1, h => by
    by_cases e : i = n + 1
    · rw [e]; exact Nat.le_refl _
    · have := sumN_mono (f := f) n (show i ≤ n by omega)
      show sumN f i ≤ sumN f n + f n
      omega
theorem pl_ev {T : Nat → Nat} (ok : okT T) {q : Nat} (hq : q < T 2) : ∃ E : Nat → Nat, E 1 = T 1 ∧ E 3 = T 3 ∧ (∀ c, c < 4 → E (21 + 4 * q + c) = T (21 + 4 * q + c)) ∧ ev T (21 + 4 * q) = T (21 + 4 * q) ∧ ∀ c, 1 ≤ c → c ≤ 3 → ev T (21 + 4 * q + c) = (if T (24 + 4 * q) = 0 then goT E (lB T) q else E) (21 + 4 * q + c) := by
  have hs := ok.s
  obtain ⟨j1, j2, j3, j4⟩ := evG_s hs q (by omega)
  obtain ⟨k1, k2, k3, k4⟩ := evG_s hs (T 2) (Nat.le_refl _)
  have h4 : ∀ c, c < 4 → evG T q (21 + 4 * q + c) = T (21 + 4 * q + c) := by
    intro c hc
    by_cases e : c = 0
    · subst e; exact j3 q
    · exact j4 q (Nat.le_refl _) c (by omega) (by omega)
  refine ⟨evG T q, j2 1 (by omega), j2 3 (by omega), h4, ?_, ?_⟩
  · rw [ev_e (by omega) (by omega) (by omega)]; exact k3 q
  · intro c h1 h2
    rw [ev_e (by omega) (by omega) (by omega), evG_k hs (T 2) hq (Nat.le_refl _) c h1 h2]
    have e : evG T (q + 1) = if evG T q (24 + 4 * q) = 0 then goT (evG T q) (lB T) q else evG T q := rfl
    have e24 := h4 3 (by omega)
    rw [show 21 + 4 * q + 3 = 24 + 4 * q by omega] at e24
    rw [e, e24]
theorem nv_cr {T : Nat → Nat} (ok : okT T) {q : Nat} (hq : q < T 2) (hk : T (21 + 4 * q) = 1 ∨ T (21 + 4 * q) = 3) : ev T (24 + 4 * q) = T (24 + 4 * q) := by
  obtain ⟨E, e1, e3, e4, -, e5⟩ := pl_ev ok hq
  have h := e5 3 (by omega) (by omega)
  have a0 := e4 0 (by omega)
  have a3 := e4 3 (by omega)
  rw [show 21 + 4 * q + 3 = 24 + 4 * q by omega] at h a3
  rw [Nat.add_zero] at a0
  rw [h]
  by_cases c0 : T (24 + 4 * q) = 0
  · rw [if_pos c0]
    unfold goT
    rcases hk with hk | hk
    · rw [if_pos (by rw [a0]; exact hk), ups_n (by omega)]; exact a3
    · rw [if_neg (by rw [a0]; omega), if_neg (by rw [a0]; omega), if_pos (by rw [a0]; exact hk)]
      split
      · rw [ups_n (by omega)]; exact a3
      · rw [ups_n (by omega)]; exact a3
  · rw [if_neg c0]; exact a3
theorem nv_crn {T : Nat → Nat} (ok : okT T) {q : Nat} (hq : q < T 2) (hk : T (21 + 4 * q) = 1 ∨ T (21 + 4 * q) = 3) : ∀ n, evn T n (24 + 4 * q) = T (24 + 4 * q) ∧ evn T n (21 + 4 * q) = T (21 + 4 * q)
  | 0 => ⟨rfl, rfl⟩
  | n + 1 => by
    obtain ⟨h1, h2⟩ := nv_crn ok hq hk n
    have okn := okT_evn ok n
    have el := evn_l ok n
    have hq2 : q < evn T n 2 := by omega
    obtain ⟨E, -, -, -, e0, -⟩ := pl_ev okn hq2
    exact ⟨(nv_cr okn hq2 (by rw [h2]; exact hk)).trans h1, e0.trans h2⟩
def Ag (q : Nat) (T T' : Nat → Nat) : Prop := T 1 = T' 1 ∧ T 2 = T' 2 ∧ T 3 = T' 3 ∧ ∀ c, c < 4 → T (21 + 4 * q + c) = T' (21 + 4 * q + c)
theorem cart_ag {E E' : Nat → Nat} {q : Nat} (h1 : E 1 = E' 1) (h : ∀ c, c < 4 → E (21 + 4 * q + c) = E' (21 + 4 * q + c)) (ha : E (22 + 4 * q) < 8) : ∀ c, c < 4 → cartT E q (21 + 4 * q + c) = cartT E' q (21 + 4 * q + c) := by
  have a1 := h 1 (by omega)
  have a2 := h 2 (by omega)
  rw [show 21 + 4 * q + 1 = 22 + 4 * q by omega] at a1
  rw [show 21 + 4 * q + 2 = 23 + 4 * q by omega] at a2
  have hi : inW E q = inW E' q := by unfold inW; rw [a1, a2, h1]
  have hb : byW E q = byW E' q := by unfold byW; rw [a1, a2]
  intro c hc
  unfold cartT
  rw [hi, hb]
  split
  · by_cases e : c = 1
    · subst e
      rw [show 21 + 4 * q + 1 = 22 + 4 * q by omega, ups_s, ups_s]
    · rw [ups_n (by omega), ups_n (by omega)]; exact h c hc
  · by_cases e : c = 3
    · subst e
      rw [show 21 + 4 * q + 3 = 24 + 4 * q by omega, crs_c ha, crs_c (by omega)]
    · rw [crs_n ha (by omega) (by omega), crs_n (by omega) (by omega) (by omega)]; exact h c hc
theorem ag_ev {T T' : Nat → Nat} (ok : okT T) (ok' : okT T') {q : Nat} (hq : q < T 2) (hk : T (21 + 4 * q) = 4 ∨ T (21 + 4 * q) = 5) (h : Ag q T T') : Ag q (ev T) (ev T') := by
  obtain ⟨h1, h2, h3, h4⟩ := h
  obtain ⟨E, e1, e3, e4, e0, e5⟩ := pl_ev ok hq
  obtain ⟨E', f1, f3, f4, f0, f5⟩ := pl_ev ok' (q := q) (by omega)
  have l := evn_l ok 1
  have l' := evn_l ok' 1
  have x0 := h4 0 (by omega)
  have x3 := h4 3 (by omega)
  rw [Nat.add_zero] at x0
  rw [show 21 + 4 * q + 3 = 24 + 4 * q by omega] at x3
  have a0 := e4 0 (by omega)
  have a0' := f4 0 (by omega)
  rw [Nat.add_zero] at a0 a0'
  have a1 := e4 1 (by omega)
  rw [show 21 + 4 * q + 1 = 22 + 4 * q by omega] at a1
  have p1 := (ok.2.2.2.2.2.2.2 q hq).2.2.1
  have p8 := ok.2.2.1
  have ee : ∀ c, c < 4 → E (21 + 4 * q + c) = E' (21 + 4 * q + c) := fun c hc => by rw [e4 c hc, f4 c hc]; exact h4 c hc
  have ca := cart_ag (E := E) (E' := E') (q := q) (by rw [e1, f1]; exact h1) ee (by omega)
  refine ⟨l.2.1.trans (h1.trans l'.2.1.symm), l.2.2.trans (h2.trans l'.2.2.symm), by rw [ev_3, ev_3, h3], fun c hc => ?_⟩
  by_cases c0 : c = 0
  · subst c0
    rw [Nat.add_zero, e0, f0]; exact x0
  · rw [e5 c (by omega) (by omega), f5 c (by omega) (by omega), ← x3]
    split
    · rcases hk with hk | hk
      · have g1 : goT E (lB T) q = cartT E q := by
          unfold goT
          rw [if_neg (by omega), if_neg (by omega), if_neg (by omega), if_pos (by omega)]
        have g2 : goT E' (lB T') q = cartT E' q := by
          unfold goT
          rw [if_neg (by omega), if_neg (by omega), if_neg (by omega), if_pos (by omega)]
        rw [g1, g2]; exact ca c hc
      · have g1 : goT E (lB T) q = if T 3 % 2 = 0 then cartT E q else E := by
          unfold goT
          rw [if_neg (by omega), if_neg (by omega), if_neg (by omega), if_neg (by omega), e3]
        have g2 : goT E' (lB T') q = if T 3 % 2 = 0 then cartT E' q else E' := by
          unfold goT
          rw [if_neg (by omega), if_neg (by omega), if_neg (by omega), if_neg (by omega), f3, h3]
        rw [g1, g2]
        split
        · exact ca c hc
        · exact ee c hc
    · exact ee c hc
theorem ag_evn {T T' : Nat → Nat} (ok : okT T) (ok' : okT T') {q : Nat} (hq : q < T 2) (hk : T (21 + 4 * q) = 4 ∨ T (21 + 4 * q) = 5) (h : Ag q T T') : ∀ n, Ag q (evn T n) (evn T' n) ∧ evn T n (21 + 4 * q) = T (21 + 4 * q)
  | 0 => ⟨h, rfl⟩
  | n + 1 => by
    obtain ⟨i1, i2⟩ := ag_evn ok ok' hq hk h n
    have okn := okT_evn ok n
    have el := evn_l ok n
    have hq2 : q < evn T n 2 := by omega
    obtain ⟨E, -, -, -, e0, -⟩ := pl_ev okn hq2
    exact ⟨ag_ev okn (okT_evn ok' n) hq2 (by rw [i2]; exact hk) i1, e0.trans i2⟩
/-- some flames blown out -/
def blw (T : Nat → Nat) (m : Nat) : Nat → Nat := pO T (fun p => m.testBit p) (T 1)
def chi (T : Nat → Nat) (n q m : Nat) : Nat := evn (blw T m) n (24 + 4 * q)
theorem blw_o {T : Nat → Nat} (ok : okT T) {m j : Nat} (h : ¬ (5 ≤ j ∧ j < 13)) : blw T m j = T j := pO_o h _ ok.2.2.1
theorem blw_ok {T : Nat → Nat} (ok : okT T) (m : Nat) : okT (blw T m) := pO_ok ok _ ok.2.2.1
theorem chi_le {T : Nat → Nat} (ok : okT T) {n q m : Nat} (hq : q < T 2) : chi T n q m ≤ 1 := by
  have ok2 := okT_evn (blw_ok ok m) n
  have el := evn_l (blw_ok ok m) n
  have e2 : blw T m 2 = T 2 := blw_o ok (by omega)
  exact (ok2.2.2.2.2.2.2.2 q (by omega)).2.2.2.2
theorem chi_nl {T : Nat → Nat} (ok : okT T) {n q m : Nat} (hq : q < T 2) (hk : T (21 + 4 * q) ≠ 2) : chi T n q m = evn T n (24 + 4 * q) := by
  have okb := blw_ok ok m
  have e2 : blw T m 2 = T 2 := blw_o ok (by omega)
  have e1 : blw T m (21 + 4 * q) = T (21 + 4 * q) := blw_o ok (by omega)
  have hr := ok.2.2.2.2.2.2.2 q hq
  unfold chi
  by_cases h : T (21 + 4 * q) = 1 ∨ T (21 + 4 * q) = 3
  · rw [(nv_crn okb (q := q) (by omega) (by rw [e1]; exact h) n).1, (nv_crn ok hq h n).1]
    exact blw_o ok (by omega)
  · have h2 : T (21 + 4 * q) = 4 ∨ T (21 + 4 * q) = 5 := by omega
    have := (ag_evn ok okb hq h2 ⟨(blw_o ok (by omega)).symm, e2.symm, (blw_o ok (by omega)).symm, fun c hc => (blw_o ok (by omega)).symm⟩ n).1.2.2.2 3 (by omega)
    rw [show 21 + 4 * q + 3 = 24 + 4 * q by omega] at this
    exact this.symm
def wF (T : Nat → Nat) (n q c l m : Nat) : Nat := if sbB m l 8 = true then wgt c m l 8 * chi T n q m else 0
theorem wF_le {T : Nat → Nat} (ok : okT T) {n q c l : Nat} (hq : q < T 2) (hc : c ≤ 10) : sumN (wF T n q c l) 256 ≤ 10 ^ cnt l 8 := by
  rw [← wgt_sum (l := l) hc 8]
  refine sumN_le 256 (fun m hm => ?_)
  unfold wF
  split
  · have := chi_le ok (n := n) (m := m) hq
    rcases (by omega : chi T n q m = 0 ∨ chi T n q m = 1) with e | e <;> rw [e] <;> omega
  · exact Nat.le_refl _
theorem wF_nl {T : Nat → Nat} (ok : okT T) {n q c l : Nat} (hq : q < T 2) (hc : c ≤ 10) (hk : T (21 + 4 * q) ≠ 2) : sumN (wF T n q c l) 256 = 10 ^ cnt l 8 * evn T n (24 + 4 * q) := by
  rw [← wgt_sum (l := l) hc 8, ← sumN_mul]
  refine sumN_c 256 (fun m hm => ?_)
  unfold wF
  rw [chi_nl ok hq hk]
  split
  · rfl
  · rw [Nat.zero_mul]
theorem wF_end {T : Nat → Nat} {n q c l : Nat} (hl : l < 256) : sumN (wF T n q c l) (l + 1) = sumN (wF T n q c l) 256 := by
  have := sumN_split (f := wF T n q c l) (l + 1) (255 - l)
  rw [show l + 1 + (255 - l) = 256 by omega, sumN_0 (255 - l) (fun k hk => ?_)] at this
  · omega
  · unfold wF
    rw [if_neg (fun z => ?_)]
    have := sb_le (by omega) z
    omega
theorem t8 {l : Nat} : 10 ^ cnt l 8 ≤ 100000000 := Nat.le_trans (Nat.pow_le_pow_right (by omega) (cnt_n l 8)) (by decide)
