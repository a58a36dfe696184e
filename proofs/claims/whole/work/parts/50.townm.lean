/-! READING A TOWN: the reference's tokens -/
def tkN (b : Nat → Nat) (p : Nat) : Nat := if b p = 256 then 0 else if dgB (b p) = true then (if fgN b p = 3 then 5 else 2) else if 97 ≤ b p ∧ b p ≤ 122 then 1 else if b p = 44 then 3 else if b p = 59 then 4 else 5
def vlN (b : Nat → Nat) (p : Nat) : Int32 := if b p = 256 then -1 else if dgB (b p) = true then nI (nvN b p) else nI (b p)
def lnN (b : Nat → Nat) (p : Nat) : Nat := if dgB (b p) = true then fgN b p else if b p = 256 then 0 else 1
def TPm (M0 : Mem) (b : Nat → Nat) (n : Nat) : Prop := n ≤ 90 ∧ M0 16 0 6 = nI n ∧ (∀ j, j < n → M0 21 0 j = nI (b j) ∧ b j < 256) ∧ ∀ j, n ≤ j → b j = 256
def MF (M0 M : Mem) : Prop := (∀ k i, ¬ (k = 16 ∧ i = 0) → ¬ (k = 22 ∧ i = 1) → M k i = M0 k i) ∧ ∀ j, j < 7 ∨ 14 ≤ j → M 16 0 j = M0 16 0 j
def AD (M M' : Mem) : Prop := (∀ k i, ¬ (k = 16 ∧ i = 0) → M' k i = M k i) ∧ ∀ j, j ≠ 9 → j ≠ 10 → j ≠ 11 → j ≠ 12 → M' 16 0 j = M 16 0 j
def TOK (b : Nat → Nat) (M : Mem) (p : Nat) : Prop := M 16 0 10 = nI p ∧ M 16 0 11 = nI (tkN b p) ∧ M 16 0 12 = vlN b p ∧ (fgN b p ≠ 3 → M 16 0 9 = nI (p + lnN b p))
def RS (M0 : Mem) (b : Nat → Nat) (n : Nat) (M : Mem) (p : Nat) (T : Nat → Nat) (s : Nat) : Prop := p ≤ n ∧ MF M0 M ∧ M 16 0 7 = M0 16 0 7 ∧ M 16 0 8 = -1 ∧ M 16 0 13 = nI s ∧ TOK b M p ∧ MT M 1 T
def RF (M0 : Mem) (R : RR) (M : Mem) : Prop := ∃ k p, R = (k, p, z0T) ∧ 1 ≤ k ∧ k ≤ 3 ∧ p ≤ 90 ∧ MF M0 M ∧ M 16 0 7 = nI k ∧ M 16 0 8 = nI p
theorem MF.ad {M0 M M' : Mem} (h : MF M0 M) (a : AD M M') : MF M0 M' := ⟨fun k i y1 y2 => (a.1 k i y1).trans (h.1 k i y1 y2), fun j hj => (a.2 j (by omega) (by omega) (by omega) (by omega)).trans (h.2 j hj)⟩
theorem fg_0 {b : Nat → Nat} {p : Nat} : fgN b p = 0 ↔ dgB (b p) = false := by
  unfold fgN
  by_cases e : dgB (b p) = true
  · rw [if_pos e, e]
    constructor
    · intro h
      revert h
      repeat' split
      all_goals omega
    · intro h
      exact absurd h (by decide)
  · rw [if_neg e]
    exact ⟨fun _ => by revert e; cases dgB (b p) <;> simp, fun _ => rfl⟩
theorem fg_3 {b : Nat → Nat} {p : Nat} : fgN b p ≤ 3 := by
  unfold fgN
  repeat' split
  all_goals omega
theorem dg_256 {b : Nat → Nat} {p : Nat} (h : b p = 256) : dgB (b p) = false := by rw [h]; rfl
section Mt
variable {d n p : Nat} {Q : Option AV → Mem → Prop} {M0 M M' : Mem} {b T T' : Nat → Nat} {R : RR}
theorem fg_n (t : ∀ j, n ≤ j → b j = 256) (hp : p ≤ n) : p + fgN b p ≤ n := by
  have B : ∀ q, dgB (b q) = true → q < n := fun q h => by
    rcases Nat.lt_or_ge q n with y | y
    · exact y
    · rw [t q y] at h
      exact absurd h (by decide)
  unfold fgN
  by_cases e0 : dgB (b p) = true
  · have := B p e0
    rw [if_pos e0]
    by_cases e1 : dgB (b (p + 1)) = true
    · have := B (p + 1) e1
      rw [if_pos e1]
      by_cases e2 : dgB (b (p + 2)) = true
      · have := B (p + 2) e2
        rw [if_pos e2]; omega
      · rw [if_neg e2]; omega
    · rw [if_neg e1]; omega
  · rw [if_neg e0]; omega
theorem m_byteAt (t : TPm M0 b n) (hp : p ≤ n) (f1 : M 16 0 6 = M0 16 0 6) (f2 : M 21 0 = M0 21 0) (h1 : b p = 256 → Q (some (zI (-1))) M) (h0 : b p < 256 → p < n → Q (some (zI (nI (b p)))) M) : wpd (d + 1) 125 [zR 16 0, zI (nI p)] M Q := by
  obtain ⟨t1, t2, t3, t4⟩ := t
  refine en_X5_byteAt _ _ ?_
  rw [f1, t2, nle (by omega) (by omega), f2, ncl (by omega)]
  refine ⟨fun z => h1 (t4 p z), fun z => ⟨vin_i (by omega) (by omega), ?_⟩⟩
  obtain ⟨y1, y2⟩ := t3 p (by omega)
  rw [y1]
  exact h0 y2 (by omega)
def vfN (b : Nat → Nat) (p f : Nat) : Nat := if f = 0 then 0 else if f = 1 then b p - 48 else (b p - 48) * 10 + b (p + 1) - 48
theorem adv_loop (t : TPm M0 b n) (f : MF M0 M) (hd : dgB (b p) = true) (hQ : ∀ M', AD M M' → TOK b M' p → Q none M') : ∀ (m k : Nat) (M1 : Mem), p + k + m = n → (∀ j, j < k → dgB (b (p + j)) = true) → AD M M1 → M1 16 0 10 = nI p → M1 16 0 9 = nI (p + k) → M1 16 0 12 = nI (vfN b p k) → WP (wpd (d + 1)) 0 T_X5_advances Q (38, [zR 16 0, zU], []) M1 := by
  have hpn : p < n := by
    rcases Nat.lt_or_ge p n with y | y
    · exact y
    · rw [t.2.2.2 p y] at hd
      exact absurd hd (by decide)
  have n9 := t.1
  have stop : ∀ (k : Nat) (M1 : Mem), p + k ≤ n → (∀ j, j < k → dgB (b (p + j)) = true) → dgB (b (p + k)) = false → AD M M1 → M1 16 0 10 = nI p → M1 16 0 9 = nI (p + k) → M1 16 0 12 = nI (vfN b p k) → (nI 3 ≤ M1 16 0 9 - M1 16 0 10 → Q none (mup M1 16 0 11 (nI 5))) ∧ (¬ nI 3 ≤ M1 16 0 9 - M1 16 0 10 → Q none (mup M1 16 0 11 (nI 2))) := by
    intro k M1 hk hj hs a h10 h9 h12
    have k1 : 1 ≤ k := by
      rcases Nat.eq_zero_or_pos k with y | y
      · rw [y, Nat.add_zero, hd] at hs
        exact absurd hs (by decide)
      · exact y
    have nb : ¬ b p = 256 := fun z => by rw [dg_256 z] at hd; exact absurd hd (by decide)
    rw [h9, h10, pk_sub (by omega), nle (by omega) (by omega), show p + k - p = k by omega]
    have A : ∀ tk, AD M (mup M1 16 0 11 (nI tk)) := fun tk => ⟨fun k i y => (mup_r y).trans (a.1 k i y), fun j y1 y2 y3 y4 => by rw [mup_ap, if_neg (by omega)]; exact a.2 j y1 y2 y3 y4⟩
    have W : vfN b p k = nvN b p := by
      unfold vfN nvN
      rw [if_neg (by omega)]
      by_cases e : k = 1
      · subst e
        rw [if_pos rfl, if_neg (by rw [hs]; decide)]
      · rw [if_neg e, if_pos (hj 1 (by omega))]
    have V : vlN b p = nI (nvN b p) := by
      unfold vlN
      rw [if_neg nb, if_pos hd]
    refine ⟨fun z => ?_, fun z => ?_⟩
    · have e : fgN b p = 3 := by
        unfold fgN
        rw [if_pos hd, if_pos (hj 1 (by omega)), if_pos (hj 2 (by omega))]
      have ek : tkN b p = 5 := by
        unfold tkN
        rw [if_neg nb, if_pos hd, if_pos e]
      refine hQ _ (A 5) ⟨?_, ?_, ?_, fun y => absurd e y⟩
      · rw [mup_ap, if_neg (by omega)]; exact h10
      · rw [mup_ap, if_pos ⟨rfl, rfl, rfl⟩, ek]
      · rw [mup_ap, if_neg (by omega), h12, W, V]
    · have e : fgN b p = k := by
        unfold fgN
        rw [if_pos hd]
        rcases (by omega : k = 1 ∨ k = 2) with rfl | rfl
        · rw [if_neg (by rw [hs]; decide)]
        · rw [if_pos (hj 1 (by omega)), if_neg (by rw [hs]; decide)]
      have ek : tkN b p = 2 := by
        unfold tkN
        rw [if_neg nb, if_pos hd, if_neg (by omega)]
      have el : lnN b p = k := by
        unfold lnN
        rw [if_pos hd, e]
      refine hQ _ (A 2) ⟨?_, ?_, ?_, fun y => ?_⟩
      · rw [mup_ap, if_neg (by omega)]; exact h10
      · rw [mup_ap, if_pos ⟨rfl, rfl, rfl⟩, ek]
      · rw [mup_ap, if_neg (by omega), h12, W, V]
      · rw [mup_ap, if_neg (by omega), h9, el]
  intro m
  induction m with
  | zero =>
    intro k M1 e hj a h10 h9 h12
    have g := f.ad a
    refine cp_X5_advances_38 _ ?_
    rw [h9]
    refine m_byteAt t (by omega) (g.2 6 (by omega)) (g.1 21 0 (by omega) (by omega)) (fun y => gO_i ?_) (fun _ y => by omega)
    refine c_in (fun y1 y2 => absurd y1 (by decide)) (fun _ => gFe ?_)
    have := stop k M1 (by omega) hj (dg_256 y) a h10 h9 h12
    exact this
  | succ m ih =>
    intro k M1 e hj a h10 h9 h12
    have g := f.ad a
    refine cp_X5_advances_38 _ ?_
    rw [h9]
    refine m_byteAt t (by omega) (g.2 6 (by omega)) (g.1 21 0 (by omega) (by omega)) (fun y => ?_) (fun bl y => gO_i ?_)
    · have := (t.2.2.1 (p + k) (by omega)).2
      omega
    · refine c_in (fun y1 y2 => gTe ?_) (fun y1 => gFe ?_)
      · rw [nle (by omega) (by omega)] at y1 y2
        have dg : dgB (b (p + k)) = true := dgB_t.mpr ⟨y1, y2⟩
        have hj' : ∀ j, j < k + 1 → dgB (b (p + j)) = true := fun j z => by
          by_cases u : j = k
          · rw [u]; exact dg
          · exact hj j (by omega)
        have U : ∀ x y : Int32, AD M (mup (mup M1 16 0 12 x) 16 0 9 y) := fun x y => ⟨fun k i z => by rw [mup_r z, mup_r z]; exact a.1 k i z, fun j z1 z2 z3 z4 => by rw [mup_ap, if_neg (by omega), mup_ap, if_neg (by omega)]; exact a.2 j z1 z2 z3 z4⟩
        rw [h9, h10, pk_sub (by omega), nle (by omega) (by omega), show p + k - p = k by omega, nI_add]
        refine ⟨fun z => ih (k + 1) _ (by omega) hj' (U _ _) ?_ ?_ ?_, fun z => ?_⟩
        · rw [mup_ap, if_neg (by omega), mup_ap, if_neg (by omega)]; exact h10
        · rw [mup_ap, if_pos ⟨rfl, rfl, rfl⟩]; rfl
        · rw [mup_ap, if_neg (by omega), mup_ap, if_pos ⟨rfl, rfl, rfl⟩, h12]
          unfold vfN
          rw [if_neg (by omega), if_neg (by omega), if_neg (by omega), if_neg (by omega)]
        · refine m_byteAt t (by omega) (g.2 6 (by omega)) (g.1 21 0 (by omega) (by omega)) (fun y => by omega) (fun bl y => gO_i ?_)
          rw [h9, nI_add]
          refine ih (k + 1) _ (by omega) hj' (U _ _) ?_ ?_ ?_
          · rw [mup_ap, if_neg (by omega), mup_ap, if_neg (by omega)]; exact h10
          · rw [mup_ap, if_pos ⟨rfl, rfl, rfl⟩]; rfl
          · rw [mup_ap, if_neg (by omega), mup_ap, if_pos ⟨rfl, rfl, rfl⟩, h12, pk_mul, nI_add, pk_sub (by omega)]
            congr 1
            unfold vfN
            rcases (by omega : k = 0 ∨ k = 1) with rfl | rfl
            · simp
            · simp
              omega
      · have := stop k M1 (by omega) hj (dgB_f.mpr (fun z => y1 ⟨(nle (by omega) (by omega)).mpr z.1, (nle (by omega) (by omega)).mpr z.2⟩)) a h10 h9 h12
        exact this
theorem m_advances (t : TPm M0 b n) (hp : p ≤ n) (f : MF M0 M) (h9 : M 16 0 9 = nI p) (hQ : ∀ M', AD M M' → TOK b M' p → Q none M') : wpd (d + 2) 126 [zR 16 0] M Q := by
  have n9 := t.1
  have h9' : ∀ v1 : Int32, mup (mup M 16 0 10 (nI p)) 16 0 12 v1 16 0 9 = nI p := fun v1 => by
    rw [mup_ap, if_neg (by omega), mup_ap, if_neg (by omega)]; exact h9
  have fin : ∀ (v1 : Int32) (tk l : Nat), tkN b p = tk → vlN b p = v1 → lnN b p = l → Q none (mup (mup (mup (mup M 16 0 10 (nI p)) 16 0 12 v1) 16 0 11 (nI tk)) 16 0 9 (mup (mup M 16 0 10 (nI p)) 16 0 12 v1 16 0 9 + nI l)) := by
    intro v1 tk l e1 e2 e3
    rw [h9']
    refine hQ _ ⟨fun k i y => by rw [mup_r y, mup_r y, mup_r y, mup_r y], fun j y1 y2 y3 y4 => by rw [mup_ap, if_neg (by omega), mup_ap, if_neg (by omega), mup_ap, if_neg (by omega), mup_ap, if_neg (by omega)]⟩ ⟨?_, ?_, ?_, fun _ => ?_⟩
    · rw [mup_ap, if_neg (by omega), mup_ap, if_neg (by omega), mup_ap, if_neg (by omega), mup_ap, if_pos ⟨rfl, rfl, rfl⟩]
    · rw [mup_ap, if_neg (by omega), mup_ap, if_pos ⟨rfl, rfl, rfl⟩, e1]
    · rw [mup_ap, if_neg (by omega), mup_ap, if_neg (by omega), mup_ap, if_pos ⟨rfl, rfl, rfl⟩, e2]
    · rw [mup_ap, if_pos ⟨rfl, rfl, rfl⟩, e3, nI_add]
  refine en_X5_advances _ ?_
  rw [h9]
  refine m_byteAt t hp (by rw [mup_ap, if_neg (by omega)]; exact f.2 6 (by omega)) (by rw [mup_r (by omega)]; exact f.1 21 0 (by omega) (by omega)) (fun y => gO_i ?_) (fun bl pn => gO_i ?_)
  · refine c_in (fun y1 y2 => absurd y1 (by decide)) (fun _ => gFe ⟨fun z => absurd z (by decide), fun _ => ⟨fun z => absurd rfl z, fun _ => ?_⟩⟩)
    refine fin (-1) 0 0 ?_ ?_ ?_
    · unfold tkN; rw [if_pos y]
    · unfold vlN; rw [if_pos y]
    · unfold lnN; rw [if_neg (by rw [dg_256 y]; decide), if_pos y]
  · have nb : ¬ b p = 256 := by omega
    refine c_in (fun y1 y2 => gTe ?_) (fun y1 => gFe ⟨fun _ => ?_, fun z => absurd ((nle (by omega) (by omega)).mpr (by omega)) z⟩)
    · rw [nle (by omega) (by omega)] at y1 y2
      refine adv_loop t f (dgB_t.mpr ⟨y1, y2⟩) hQ (n - p) 0 _ (by omega) (fun j hj => absurd hj (by omega)) ⟨fun k i y => by rw [mup_r y, mup_r y, mup_r y], fun j y1 y2 y3 y4 => by rw [mup_ap, if_neg (by omega), mup_ap, if_neg (by omega), mup_ap, if_neg (by omega)]⟩ ?_ ?_ ?_
      · rw [mup_ap, if_neg (by omega), mup_ap, if_neg (by omega), mup_ap, if_pos ⟨rfl, rfl, rfl⟩]
      · rw [mup_ap, if_neg (by omega), h9']; rfl
      · rw [mup_ap, if_pos ⟨rfl, rfl, rfl⟩]; rfl
    · have nd : dgB (b p) = false := dgB_f.mpr (fun z => y1 ⟨(nle (by omega) (by omega)).mpr z.1, (nle (by omega) (by omega)).mpr z.2⟩)
      have nd' : ¬ dgB (b p) = true := by rw [nd]; decide
      have fv : vlN b p = nI (b p) := by unfold vlN; rw [if_neg nb, if_neg nd']
      have fl : lnN b p = 1 := by unfold lnN; rw [if_neg nd', if_neg nb]
      have tk : tkN b p = if 97 ≤ b p ∧ b p ≤ 122 then 1 else if b p = 44 then 3 else if b p = 59 then 4 else 5 := by unfold tkN; rw [if_neg nb, if_neg nd']
      refine c_in (fun y1 y2 => gTe ⟨fun _ => ?_, fun z => absurd z c10⟩) (fun y1 => gFe ⟨fun z => ⟨fun w => ⟨fun _ => ?_, fun u => absurd u (by decide)⟩, fun w => ⟨fun _ => ?_, fun u => absurd u (by decide)⟩⟩, fun z => ⟨fun _ => ?_, fun u => absurd u (by decide)⟩⟩)
      · rw [nle (by omega) (by omega)] at y1 y2
        exact fin _ 1 1 (by rw [tk, if_pos ⟨y1, y2⟩]) fv fl
      all_goals rw [nle (by omega) (by omega), nle (by omega) (by omega)] at y1
      all_goals rw [neq (by omega) (by omega)] at z
      · rw [neq (by omega) (by omega)] at w
        exact fin _ 5 1 (by rw [tk, if_neg y1, if_neg z, if_neg w]) fv fl
      · rw [neq (by omega) (by omega)] at w
        exact fin _ 4 1 (by rw [tk, if_neg y1, if_neg z, if_pos w]) fv fl
      · exact fin _ 3 1 (by rw [tk, if_neg y1, if_pos z]) fv fl
end Mt
