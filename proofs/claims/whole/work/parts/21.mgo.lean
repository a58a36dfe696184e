/-! THE REFERENCE's TOWN: lights, the nearest, a player goes -/
theorem MT.up {M : Mem} {w : Nat} {T : Nat → Nat} {j v : Nat} (h : MT M w T) : MT (mup M 22 w j (nI v)) w (ups T j v) := by
  intro i hi
  rw [mup_ap]
  by_cases e : i = j
  · subst e
    rw [if_pos ⟨rfl, rfl, rfl⟩, ups_s]
  · rw [if_neg (by omega), ups_n e]
    exact h i hi
def Fw (w : Nat) (M M' : Mem) : Prop := ∀ k i, ¬ (k = 22 ∧ i = w) → M' k i = M k i
theorem Fw.rf {w : Nat} {M : Mem} : Fw w M M := fun _ _ _ => rfl
theorem Fw.up {w j : Nat} {M M1 : Mem} {v : Int32} (h : Fw w M M1) : Fw w M (mup M1 22 w j v) := fun k i z => (mup_r z).trans (h k i z)
theorem Fw.tr {w : Nat} {M M1 M2 : Mem} (h : Fw w M M1) (g : Fw w M1 M2) : Fw w M M2 := fun k i z => (g k i z).trans (h k i z)
section MGo
variable {d : Nat} {Q : Option AV → Mem → Prop} {M : Mem} {w : Nat} {T E : Nat → Nat} {q : Nat} {g : Nat → Bool} {x : Int32}
theorem litO_loop (hM : MT M w T) (h8 : T 1 ≤ 8) (hf : ∀ p, p < T 1 → T (5 + p) < 2147483648) (h : Q (some (zI (nI (litM T)))) M) :
    ∀ (r i : Nat), i + r = T 1 → WP (wpd d) 1 T_X5_litOf Q (4, [zR 22 w, zI (nI (bso (fun p => decide (0 < T (5 + p))) i)), zI (nI i)], []) M
  | 0, i, e => by
    refine cp_X5_litOf_4 _ _ _ _ ⟨vin_i (by omega) (by omega), ?_⟩
    rw [hM 1 (by omega)]
    have : i = T 1 := by omega
    subst this
    exact ⟨fun _ => h, fun z => absurd ((nle (by omega) (by omega)).mpr (Nat.le_refl _)) z⟩
  | r + 1, i, e => by
    have ih := litO_loop hM h8 hf h r (i + 1) (by omega)
    have hb := bso_lt (fun p => decide (0 < T (5 + p))) i
    refine cp_X5_litOf_4 _ _ _ _ ⟨vin_i (by omega) (by omega), ?_⟩
    rw [hM 1 (by omega)]
    refine ⟨fun z => ?_, fun z => ?_⟩
    · rw [nle (by omega) (by omega)] at z
      omega
    · rw [nI_add, ncl (by omega), hM (5 + i) (by omega), nI_add, or_0]
      refine ⟨vin_i (by omega) (by omega), fun z => ?_, fun z => ?_⟩
      · rw [nle (hf i (by omega)) (by omega)] at z
        rw [show bso (fun p => decide (0 < T (5 + p))) (i + 1) = bso (fun p => decide (0 < T (5 + p))) i by
          show bso (fun p => decide (0 < T (5 + p))) i + cond (decide (0 < T (5 + i))) (2 ^ i) 0 = _
          rw [decide_eq_false (by omega)]; rfl] at ih
        exact ih
      · rw [nle (hf i (by omega)) (by omega)] at z
        rw [or_b i (by omega) _ hb]
        rw [show bso (fun p => decide (0 < T (5 + p))) (i + 1) = bso (fun p => decide (0 < T (5 + p))) i + 2 ^ i by
          show bso (fun p => decide (0 < T (5 + p))) i + cond (decide (0 < T (5 + i))) (2 ^ i) 0 = _
          rw [decide_eq_true (by omega)]; rfl] at ih
        exact ih
theorem c_litOf (hM : MT M w T) (h8 : T 1 ≤ 8) (hf : ∀ p, p < T 1 → T (5 + p) < 2147483648) (h : Q (some (zI (nI (litM T)))) M) : wpd (d + 1) 142 [zR 22 w] M Q :=
  en_X5_litOf _ _ (litO_loop hM h8 hf h (T 1) 0 (by omega))
/-- what nearest answers, by what nearer makes of it -/
def Nz (S : Nat → Bool) (P a n f : Nat) (v : Int32) : Prop := (v = -1000000 ∧ nr S P a n f = a) ∨ ∃ b, b < 8 ∧ v = nI b ∧ nr S P a n f = (if b = a then a else if b < a then a - 1 else a + 1)
theorem near_loop {S : Nat → Bool} {P a : Nat} (hP : M 22 w 1 = nI P) (h8 : P ≤ 8) (ha : a < P) (hS : ∀ k, k < 16 → hasB x k (S k)) :
    ∀ (n f : Nat), f + n = P → (∀ v : Int32, Nz S P a n f v → Q (some (zI v)) M) → WP (wpd (d + 1)) 1 T_X5_nearest Q (2, [zR 22 w, zI x, zI (nI a), zI (nI f)], []) M
  | 0, f, e, h => by
    refine cp_X5_nearest_2 _ _ _ _ _ ⟨vin_i (by omega) (by omega), ?_⟩
    rw [hP]
    refine ⟨fun _ => h _ (Or.inl ⟨rfl, rfl⟩), fun z => ?_⟩
    have : f = P := by omega
    subst this
    exact absurd ((nle (by omega) (by omega)).mpr (Nat.le_refl _)) z
  | n + 1, f, e, h => by
    have ih : (¬ (f ≤ a ∧ S (a - f) = true)) → (¬ (a + f < P ∧ S (a + f) = true)) → WP (wpd (d + 1)) 1 T_X5_nearest Q (2, [zR 22 w, zI x, zI (nI a), zI (nI f + nI 1)], []) M := by
      intro y1 y2
      rw [nI_add]
      refine near_loop hP h8 ha hS n (f + 1) (by omega) (fun v hv => h v ?_)
      unfold Nz at hv ⊢
      rw [show nr S P a (n + 1) f = nr S P a n (f + 1) by conv => lhs; unfold nr
                                                          rw [if_neg y1, if_neg y2]]
      exact hv
    have up : ¬ (f ≤ a ∧ S (a - f) = true) → (((M 22 w 1 : Int32) ≤ nI a + nI f → WP (wpd (d + 1)) 1 T_X5_nearest Q (2, [zR 22 w, zI x, zI (nI a), zI (nI f + nI 1)], []) M) ∧ (¬ (M 22 w 1 : Int32) ≤ nI a + nI f → wpd (d + 1) 110 [zI x, zI (nI a + nI f)] M (fun r1 M1 => gO r1 fun v1 => ((v1 = nI 0 → WP (wpd (d + 1)) 1 T_X5_nearest Q (2, [zR 22 w, zI x, zI (nI a), zI (nI f + nI 1)], []) M1) ∧ (¬ v1 = nI 0 → Q (some (zI (nI a + nI f))) M1))))) := by
      intro y1
      rw [hP, nI_add a f]
      refine ⟨fun z => ?_, fun z => ?_⟩
      · rw [nle (by omega) (by omega)] at z
        exact ih y1 (by omega)
      · rw [nle (by omega) (by omega)] at z
        refine c_has (hS (a + f) (by omega)) (fun b => gTe ?_) (fun b => gFe ?_)
        · refine h _ (Or.inr ⟨a + f, by omega, rfl, ?_⟩)
          unfold nr
          rw [if_neg y1, if_pos ⟨by omega, b⟩]
          by_cases f0 : f = 0
          · rw [if_pos f0, if_pos (by omega)]
          · rw [if_neg f0, if_neg (by omega), if_neg (by omega)]
        · exact ih y1 (by rw [b]; simp)
    refine cp_X5_nearest_2 _ _ _ _ _ ⟨vin_i (by omega) (by omega), fun z => ?_, fun z => ⟨fun z2 => ?_, fun z2 => ?_⟩⟩
    · rw [hP, nle (by omega) (by omega)] at z
      omega
    · refine ⟨vin_i (by omega) (by omega), up (fun y => ?_)⟩
      rw [pk_sub y.1, nlt (by omega) (by omega)] at z2
      omega
    · have hfa : f ≤ a := by
        by_cases y : f ≤ a
        · exact y
        · have := pk_sneg (a := a) (b := f) (by omega) (by omega)
          exact absurd this z2
      rw [pk_sub hfa]
      refine c_has (hS (a - f) (by omega)) (fun b => gTe ?_) (fun b => gFe ⟨vin_i (by omega) (by omega), up (by rw [b]; simp)⟩)
      refine h _ (Or.inr ⟨a - f, by omega, rfl, ?_⟩)
      unfold nr
      rw [if_pos ⟨hfa, b⟩]
      by_cases f0 : f = 0
      · rw [if_pos f0, if_pos (by omega)]
      · rw [if_neg f0, if_neg (by omega), if_pos (by omega)]
theorem c_nearer {S : Nat → Bool} {P a : Nat} (hP : M 22 w 1 = nI P) (h8 : P ≤ 8) (ha : a < P) (hS : ∀ k, k < 16 → hasB x k (S k)) (h : Q (some (zI (nI (nr S P a P 0)))) M) : wpd (d + 3) 144 [zR 22 w, zI x, zI (nI a)] M Q := by
  refine en_X5_nearer _ _ _ _ ?_
  refine en_X5_nearest _ _ _ _ (near_loop hP h8 ha hS P 0 (by omega) (fun v hv => gO_i ?_))
  rcases hv with ⟨rfl, e⟩ | ⟨b, hb, rfl, e⟩
  · rw [e] at h
    exact ⟨fun _ => h, fun z => absurd rfl z⟩
  · rw [e] at h
    refine ⟨fun z => ?_, fun _ => ⟨fun z => ⟨fun z2 => ?_, fun z2 => ?_⟩, fun z => ?_⟩⟩
    · have : (-1000000 : Int32) < 0 := by decide
      rw [← z] at this
      exact absurd this (nI_pos (by omega))
    · have z : ¬ b = a := fun y => z (by rw [y])
      rw [nle (by omega) (by omega)] at z2
      rw [if_neg z, if_neg (by omega)] at h
      rw [nI_add]
      exact h
    · rw [nle (by omega) (by omega)] at z2
      rw [if_neg (by omega), if_pos (by omega)] at h
      rw [pk_sub (by omega)]
      exact h
    · have z := (neq (by omega) (by omega)).mp z
      rw [if_pos z] at h
      exact h
theorem c_crosses (h : MT M w E) (hq : q < 6) (ha : E (22 + 4 * q) < 8) (hQ : ∀ M', Fw w M M' → MT M' w (crs E q) → Q none M') : wpd (d + 1) 145 [zR 22 w, zI (nI q)] M Q := by
  have e1 : M 22 w (22 + 4 * q) = nI (E (22 + 4 * q)) := h _ (by omega)
  have h1 : MT (mup M 22 w (24 + 4 * q) (nI 1)) w (ups E (24 + 4 * q) 1) := h.up
  have e2 : mup M 22 w (24 + 4 * q) (nI 1) 22 w (22 + 4 * q) = nI (E (22 + 4 * q)) := by rw [h1 _ (by omega), ups_n (by omega)]
  have e3 : mup M 22 w (24 + 4 * q) (nI 1) 22 w (13 + E (22 + 4 * q)) = nI (E (13 + E (22 + 4 * q))) := by rw [h1 _ (by omega), ups_n (by omega)]
  refine en_X5_crosses _ _ _ ?_
  simp only [pk_mul, nI_add]
  rw [show 21 + 4 * q + 3 = 24 + 4 * q by omega, show 21 + 4 * q + 1 = 22 + 4 * q by omega, ncl (by omega), ncl (by omega), e2, nI_add, ncl (by omega), e3, nI_add]
  exact ⟨vin_i (by omega) (by omega), vin_i (by omega) (by omega), vin_i (by omega) (by omega), vin_i (by omega) (by omega), hQ _ Fw.rf.up.up h1.up⟩
theorem c_goes (h : MT M w E) (hs : shp1 E) (hq : q < E 2) (hk : 1 ≤ E (21 + 4 * q) ∧ E (21 + 4 * q) ≤ 5) (he : E 3 < 2147483648) (hx : x = nI (bso g (E 1))) (hQ : ∀ M', Fw w M M' → MT M' w (goT E (fun k => decide (k < E 1) && g k) q) → Q none M') : wpd (d + 4) 146 [zR 22 w, zI (nI q), zI x] M Q := by
  obtain ⟨s1, s2, s3, s4⟩ := hs
  obtain ⟨a1, a2, a3⟩ := s4 q hq
  have m1 : M 22 w 1 = nI (E 1) := h 1 (by omega)
  have m3 : M 22 w 3 = nI (E 3) := h 3 (by omega)
  have mk : M 22 w (21 + 4 * q) = nI (E (21 + 4 * q)) := h _ (by omega)
  have ma : M 22 w (22 + 4 * q) = nI (E (22 + 4 * q)) := h _ (by omega)
  have mw : M 22 w (23 + 4 * q) = nI (E (23 + 4 * q)) := h _ (by omega)
  have i1 : (nI (21 + 4 * q) + nI 1 : Int32) = nI (22 + 4 * q) := by rw [nI_add]; congr 1; omega
  have i2 : (nI (21 + 4 * q) + nI 2 : Int32) = nI (23 + 4 * q) := by rw [nI_add]; congr 1; omega
  unfold goT at hQ
  -- the cart's way
  have cart : ∀ (by5 : Int32), (inW E q = true → by5 = nI (byW E q)) → (∀ M', Fw w M M' → MT M' w (cartT E q) → Q none M') → WP (wpd (d + 3)) 0 T_X5_goes Q (183, [zR 22 w, zI (nI q), zU, zI (nI (21 + 4 * q)), zI (nI (E (22 + 4 * q))), zI by5, zI (nI (cond (inW E q) 1 0))], []) M := by
    intro by5 hby hc
    unfold cartT at hc
    refine cp2_X5_goes_183 _ _ _ _ _ _ _ ?_
    rw [i1]
    cases hi : inW E q with
    | true =>
      rw [if_pos hi] at hc
      refine ⟨fun z => absurd z c10, fun _ => cp2_X5_goes_199 _ _ _ _ _ _ ⟨vin_i (by omega) (by omega), fun _ => ?_, fun z => absurd z c10⟩⟩
      rw [hby hi, ncl (by omega)]
      exact hc _ Fw.rf.up h.up
    | false =>
      rw [if_neg (by rw [hi]; simp)] at hc
      refine ⟨fun _ => cp2_X5_goes_199 _ _ _ _ _ _ ⟨vin_i (by omega) (by omega), fun z => absurd rfl z, fun _ => ?_⟩, fun z => absurd rfl z⟩
      rw [ncl (by omega)]
      have h2 : MT (mup M 22 w (22 + 4 * q) (nI (E (22 + 4 * q)))) w E := by
        have := h.up (j := 22 + 4 * q) (v := E (22 + 4 * q))
        rw [ups_id rfl] at this
        exact this
      exact c_crosses h2 (by omega) (by omega) (fun M' f1 f2 => gN_i (hc M' (Fw.rf.up.tr f1) f2))
  have main : ∀ (by5 : Int32), (inW E q = true → by5 = nI (byW E q)) → WP (wpd (d + 3)) 0 T_X5_goes Q (49, [zR 22 w, zI (nI q), zI x, zI (nI (21 + 4 * q)), zI (nI (E (22 + 4 * q))), zI by5, zI (nI (cond (inW E q) 1 0))], []) M := by
    intro by5 hby
    refine cp2_X5_goes_49 _ _ _ _ _ _ _ _ ⟨vin_i (by omega) (by omega), ?_⟩
    rw [ncl (by omega), mk, i1, i2, ncl (by omega), ncl (by omega)]
    have turn : (vp_in (nI (23 + 4 * q)) 45 ∧ (vp_in (nI (23 + 4 * q)) 45 ∧ ((∀ M', Fw w M M' → MT M' w (ups E (23 + 4 * q) (1 - E (23 + 4 * q))) → Q none M') → Q none (mup M 22 w (23 + 4 * q) (nI 1 - M 22 w (23 + 4 * q)))))) := by
      refine ⟨vin_i (by omega) (by omega), vin_i (by omega) (by omega), fun hc => ?_⟩
      rw [mw, pk_sub (by omega)]
      exact hc _ Fw.rf.up h.up
    refine ⟨fun z => ?_, fun z => ⟨fun z2 => ?_, fun z2 => ⟨fun z3 => ?_, fun z3 => ⟨vin_i (by omega) (by omega), fun z4 => ?_, fun z4 => ⟨vin_i (by omega) (by omega), by decide, ?_⟩⟩⟩⟩⟩
    · have z := (neq (by omega) (by omega)).mp z
      rw [if_pos z] at hQ
      rw [hx]
      refine c_nearer m1 s2 a1 (fun k hk => hasB_bso s2 (by omega)) (gO_i ⟨vin_i (by omega) (by omega), ?_⟩)
      exact hQ _ Fw.rf.up h.up
    · have z2 := (neq (by omega) (by omega)).mp z2
      rw [if_neg (by omega), if_pos z2] at hQ
      rw [hx]
      refine c_has (hasB_bso s2 (by omega)) (fun b => gTe ?_) (fun b => gFe ?_)
      · rw [if_pos b] at hQ
        refine c_nearer m1 s2 a1 (fun k hk => hasB_not s2 hk) (gO_i ⟨vin_i (by omega) (by omega), ?_⟩)
        exact hQ _ Fw.rf.up h.up
      · rw [if_neg (fun y => Bool.false_ne_true (b.symm.trans y))] at hQ
        exact c_crosses h (by omega) (by omega) (fun M' f1 f2 => gN_i (hQ M' f1 f2))
    · have z3 := (neq (by omega) (by omega)).mp z3
      rw [if_neg (by omega), if_neg (by omega), if_pos z3] at hQ
      cases hi : inW E q with
      | true =>
        refine ⟨fun y => absurd y c10, fun _ => ?_⟩
        rw [hby hi, hx]
        have hbl : byW E q < 32 := by unfold byW; split <;> omega
        refine c_has (hasB_bso s2 hbl) (fun b => gTe ?_) (fun b => gFe ?_)
        · rw [if_pos ⟨hi, b⟩] at hQ
          exact ⟨vin_i (by omega) (by omega), hQ _ Fw.rf.up h.up⟩
        · rw [if_neg (fun y => Bool.false_ne_true (b.symm.trans y.2))] at hQ
          exact ⟨turn.1, turn.2.1, turn.2.2 hQ⟩
      | false =>
        rw [if_neg (fun y => Bool.false_ne_true (hi.symm.trans y.1))] at hQ
        exact ⟨fun _ => ⟨turn.1, turn.2.1, turn.2.2 hQ⟩, fun y => absurd rfl y⟩
    · have z4 := (neq (by omega) (by omega)).mp z4
      rw [if_neg (by omega), if_neg (by omega), if_neg (by omega), if_pos z4] at hQ
      exact cart by5 hby hQ
    · have z : ¬ E (21 + 4 * q) = 1 := fun y => z (by rw [y])
      have z2 : ¬ E (21 + 4 * q) = 2 := fun y => z2 (by rw [y])
      have z3 : ¬ E (21 + 4 * q) = 3 := fun y => z3 (by rw [y])
      have z4 : ¬ E (21 + 4 * q) = 4 := fun y => z4 (by rw [y])
      rw [if_neg z, if_neg z2, if_neg z3, if_neg z4] at hQ
      rw [m3, rem_2 he]
      refine ⟨fun y => ?_, fun y => ?_⟩
      · rw [if_neg (fun v => y (by rw [v]))] at hQ
        exact hQ M Fw.rf h
      · have y := (neq (by omega) (by omega)).mp y
        rw [if_pos y] at hQ
        exact cart by5 hby hQ
  have mid : ∀ (by5 : Int32), (inW E q = true → by5 = nI (byW E q) ∧ byW E q < E 1) → (inW E q = false → ¬ (nI 0 ≤ by5 ∧ by5 ≤ nI (E 1 - 1))) → WP (wpd (d + 3)) 0 T_X5_goes Q (34, [zR 22 w, zI (nI q), zI x, zI (nI (21 + 4 * q)), zI (nI (E (22 + 4 * q))), zU, zU], [zI by5]) M := by
    intro by5 hby hnb
    have mn := main by5 (fun y => (hby y).1)
    refine cp2_X5_goes_34 _ _ _ _ _ _ _ ⟨vin_i (by omega) (by omega), ?_⟩
    rw [m1, pk_sub (by omega)]
    refine c_in (fun y1 y2 => gO_i ?_) (fun y => gO_i ?_)
    · cases hi : inW E q with
      | true => rw [hi] at mn; exact mn
      | false => exact absurd ⟨y1, y2⟩ (hnb hi)
    · cases hi : inW E q with
      | false => rw [hi] at mn; exact mn
      | true =>
        obtain ⟨e1, e2⟩ := hby hi
        exfalso
        refine y ⟨?_, ?_⟩
        · rw [e1]; exact (nle (by omega) (by omega)).mpr (Nat.zero_le _)
        · rw [e1]; exact (nle (by omega) (by omega)).mpr (by omega)
  refine en2_X5_goes _ _ _ _ ?_
  simp only [pk_mul, nI_add]
  rw [show 21 + 4 * q + 1 = 22 + 4 * q by omega, show 21 + 4 * q + 2 = 23 + 4 * q by omega, ncl (by omega), ncl (by omega), ma, mw, nI_add]
  refine ⟨vin_i (by omega) (by omega), vin_i (by omega) (by omega), fun z => ?_, fun z => ?_⟩
  · have hw : E (23 + 4 * q) = 0 := by
      rcases (by omega : E (23 + 4 * q) = 0 ∨ E (23 + 4 * q) = 1) with y | y
      · exact y
      · exact absurd (by rw [y]) z
    have ei : inW E q = decide (0 < E (22 + 4 * q)) := by unfold inW; rw [if_neg (by omega)]
    have eb : byW E q = E (22 + 4 * q) - 1 := by unfold byW; rw [if_neg (by omega)]
    refine mid _ (fun y => ?_) (fun y => ?_)
    · rw [ei] at y
      have y := of_decide_eq_true y
      rw [eb, pk_sub (by omega)]
      exact ⟨rfl, by omega⟩
    · rw [ei] at y
      have y : ¬ 0 < E (22 + 4 * q) := of_decide_eq_false y
      rw [show E (22 + 4 * q) = 0 by omega]
      intro v
      exact absurd v.1 (by decide)
  · have hw := (neq (by omega) (by omega)).mp z
    have ei : inW E q = decide (E (22 + 4 * q) + 1 < E 1) := by unfold inW; rw [if_pos hw]
    have eb : byW E q = E (22 + 4 * q) + 1 := by unfold byW; rw [if_pos hw]
    refine mid _ (fun y => ?_) (fun y => ?_)
    · rw [ei] at y
      rw [eb]
      exact ⟨rfl, of_decide_eq_true y⟩
    · rw [ei] at y
      have y : ¬ E (22 + 4 * q) + 1 < E 1 := of_decide_eq_false y
      intro v
      rw [nle (by omega) (by omega), nle (by omega) (by omega)] at v
      omega
end MGo
