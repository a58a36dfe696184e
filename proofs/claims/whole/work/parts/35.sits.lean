/-! sits, fits -/
def allB (f : Nat → Bool) : Nat → Bool
  | 0 => true
  | n + 1 => allB f n && f n
theorem allB_f {f : Nat → Bool} {k : Nat} (hf : f k = false) : ∀ n, k < n → allB f n = false
  | 0, h => by omega
  | n + 1, h => by
    show (allB f n && f n) = false
    by_cases e : k = n
    · rw [← e, hf, Bool.and_false]
    · rw [allB_f hf n (by omega), Bool.false_and]
theorem allB_t {f : Nat → Bool} {k : Nat} (h : allB f k = true) (hf : f k = true) : allB f (k + 1) = true := by
  show (allB f k && f k) = true
  rw [h, hf]; rfl
theorem allB_c {f g : Nat → Bool} : ∀ n, (∀ k, k < n → f k = g k) → allB f n = allB g n
  | 0, _ => rfl
  | n + 1, h => by
    show (allB f n && f n) = (allB g n && g n)
    rw [allB_c n (fun k hk => h k (by omega)), h n (by omega)]
theorem fin_qs {M M1 M2 : Mem} {s : Int32} (I : Inv M) (f1 : F1 M M1) (f2 : Fp 2 (mup M1 0 0 8 s) M2) : Inv (mup M2 16 0 4 s) ∧ ∀ k, 30 ≤ k → mup M2 16 0 4 s k = M k := by
  have fr : ∀ k i, ¬ Scr k i → mup M2 16 0 4 s k i = mup (mup M 0 0 8 s) 16 0 4 s k i := by
    intro k i h
    unfold Scr at h
    funext j
    rw [mup_ap, mup_ap, f2 k i (by omega) (by omega), mup_ap, mup_ap, f1 k i (by omega)]
  have f30 : ∀ k, 30 ≤ k → mup M2 16 0 4 s k = mup (mup M 0 0 8 s) 16 0 4 s k := fun k hk => by
    funext i
    exact fr k i (by unfold Scr; omega)
  exact ⟨I.find.scr fr f30, fun k hk => by rw [f30 k hk]; exact find_30 k hk⟩
def tld (T : Nat → Nat) (q : Nat) : Int32 := if T (24 + 4 * q) = 1 then nI 99 else nI (T (22 + 4 * q))
section Si
variable {d : Nat} {Q : Option AV → Mem → Prop} {M : Mem} {T : Nat → Nat} {q n a u : Nat} {x : Int32} {it : Nat → Int32}
theorem c_isPart {r n : Nat} {p1 p2 : Int32} (hr : r < 8) (hl : M 18 0 r = nI n) (hn : n ≤ 40) (h1 : ∀ a b : Nat, p1 = nI a → p2 = nI b → a + b ≤ n → Q (some (zI (nI 1))) M) (h0 : (∀ a b : Nat, p1 = nI a → p2 = nI b → ¬ a + b ≤ n) → Q (some (zI (nI 0))) M) : wpd (d + 1) 121 [zR 16 0, zI (nI r), zI p1, zI p2] M Q := by
  by_cases h : ∃ a b : Nat, p1 = nI a ∧ p2 = nI b ∧ a + b ≤ n
  · obtain ⟨a, b, rfl, rfl, hab⟩ := h
    refine en_X5_isPart _ _ _ _ ?_
    rw [ncl (by omega), hl]
    refine ⟨fun z => absurd z (nI_pos (by omega)), fun _ => ⟨fun z => absurd z (nI_pos (by omega)), fun _ => ⟨vin_i (by omega) (by omega), fun z => ?_, fun _ => ⟨vin_i (by omega) (by omega), ?_⟩⟩⟩⟩
    · rw [nlt (by omega) (by omega)] at z
      omega
    · rw [pk_sub (by omega)]
      refine ⟨fun z => ?_, fun _ => ⟨z1, h1 a b rfl rfl hab⟩⟩
      rw [nlt (by omega) (by omega)] at z
      omega
  · have hno : ∀ a b : Nat, p1 = nI a → p2 = nI b → ¬ a + b ≤ n := fun a b e1 e2 e3 => h ⟨a, b, e1, e2, e3⟩
    refine en_X5_isPart _ _ _ _ ⟨fun _ => ⟨z0, h0 hno⟩, fun z => ⟨fun _ => ⟨z0, h0 hno⟩, fun z2 => ⟨vin_i (by omega) (by omega), fun _ => ⟨z0, h0 hno⟩, fun z3 => ⟨vin_i (by omega) (by omega), fun _ => ⟨z0, h0 hno⟩, fun z4 => ?_⟩⟩⟩⟩
    exfalso
    obtain ⟨a, ha, rfl⟩ := nI_of (x := p1) z
    obtain ⟨b, hb, rfl⟩ := nI_of (x := p2) z2
    rw [ncl (by omega), hl, nlt (by omega) ha] at z3
    rw [ncl (by omega), hl, pk_sub (by omega), nlt (by omega) hb] at z4
    exact hno a b rfl rfl (by omega)
theorem c_clapsTold (h : CT M 1 T) (ok : okT T) (h3 : T 3 + n < 1000000) (hn : a + n ≤ 40) (hit : ∀ k, k < n → M 3 u (a + k) = it k) (hQ : ∀ M1, F1 M M1 → Q (some (zI (nI (cond (allB (fun k => decide (it k = nI (clS (evn T k)))) n) 1 0)))) M1) : wpd (d + 5) 101 [zR 0 0, zR 2 u, zI (nI a), zI (nI n)] M Q := by
  refine en_X4_clapsAsTold _ _ _ _ ?_
  refine up_ind (P := fun i => ∀ M1, F1 M M1 → CT M1 1 (evn T i) → allB (fun k => decide (it k = nI (clS (evn T k)))) i = true → WP (wpd (d + 4)) 2 T_X4_clapsAsTold Q (3, [zR 0 0, zR 2 u, zI (nI a), zI (nI n), zI (nI i)], []) M1) (n := n) ?_ ?_ M F1.rf h rfl
  · intro M1 f1 f2 hb
    have := hQ M1 f1
    rw [hb] at this
    exact cp_X4_clapsAsTold_3 _ _ _ _ _ ⟨fun _ => ⟨z1, this⟩, fun z => absurd ((nle (by omega) (by omega)).mpr (Nat.le_refl _)) z⟩
  · intro i hi ih M1 f1 f2 hb
    refine cp_X4_clapsAsTold_3 _ _ _ _ _ ⟨fun z => ?_, fun _ => ?_⟩
    · rw [nle (by omega) (by omega)] at z
      omega
    · refine c_passEvening f2 (okT_evn ok i) (by rw [evn_3]; omega) (fun M2 g1 g2 g3 => gN_i ?_)
      have f12 : F1 M M2 := f1.tr g1
      rw [nI_add, ncl (by omega), f12 3 u (by omega), hit i hi, g3, nI_add]
      refine ⟨vin_i (by omega) (by omega), fun z => ih M2 f12 g2 (allB_t hb (decide_eq_true z)), fun z => ⟨z0, ?_⟩⟩
      have := hQ M2 f12
      rw [allB_f (k := i) (decide_eq_false z) n hi] at this
      exact this
theorem c_goesTold (h : CT M 1 T) (ok : okT T) (h3 : T 3 + n < 1000000) (hq : q < T 2) (hn : a + n ≤ 40) (hit : ∀ k, k < n → M 3 u (a + k) = it k) (hQ : ∀ M1, F1 M M1 → Q (some (zI (nI (cond (allB (fun k => decide (it k = tld (evn T (k + 1)) q)) n) 1 0)))) M1) : wpd (d + 5) 100 [zR 0 0, zI (nI q), zR 2 u, zI (nI a), zI (nI n)] M Q := by
  refine en_X4_goesAsTold _ _ _ _ _ ?_
  refine up_ind (P := fun i => ∀ M1, F1 M M1 → CT M1 1 (evn T i) → allB (fun k => decide (it k = tld (evn T (k + 1)) q)) i = true → WP (wpd (d + 4)) 2 T_X4_goesAsTold Q (3, [zR 0 0, zI (nI q), zR 2 u, zI (nI a), zI (nI n), zI (nI i), zU], []) M1) (n := n) ?_ ?_ M F1.rf h rfl
  · intro M1 f1 f2 hb
    have := hQ M1 f1
    rw [hb] at this
    exact cp_X4_goesAsTold_3 _ _ _ _ _ _ ⟨fun _ => ⟨z1, this⟩, fun z => absurd ((nle (by omega) (by omega)).mpr (Nat.le_refl _)) z⟩
  · intro i hi ih M1 f1 f2 hb
    refine cp_X4_goesAsTold_3 _ _ _ _ _ _ ⟨fun z => ?_, fun _ => ?_⟩
    · rw [nle (by omega) (by omega)] at z
      omega
    · refine c_passEvening f2 (okT_evn ok i) (by rw [evn_3]; omega) (fun M2 g1 g2 g3 => gN_i ?_)
      have g2 : CT M2 1 (evn T (i + 1)) := g2
      have f12 : F1 M M2 := f1.tr g1
      have ok1 := okT_evn ok (i + 1)
      have el := evn_l ok (i + 1)
      have c5 := (ok1.2.2.2.2.2.2.2 q (by omega)).2.2.2.2
      have hQ2 := hQ M2 f12
      have h6 := ok1.2.2.2.1
      refine c_hasCrossed g2.1 ok1.2.2.2.1 (by omega) c5 (fun c => gTe ?_) (fun c => gFe ?_)
      · have et : tld (evn T (i + 1)) q = nI 99 := if_pos c
        rw [nI_add, ncl (by omega), f12 3 u (by omega), hit i hi, nI_add]
        refine ⟨vin_i (by omega) (by omega), fun z => ih M2 f12 g2 (allB_t hb (decide_eq_true (by rw [et]; exact z))), fun z => ⟨z0, ?_⟩⟩
        rw [allB_f (k := i) (decide_eq_false (by rw [et]; exact z)) n hi] at hQ2
        exact hQ2
      · have et : tld (evn T (i + 1)) q = nI (evn T (i + 1) (22 + 4 * q)) := if_neg (by omega)
        rw [nI_add, ncl (by omega), ncl (by omega), f12 3 u (by omega), hit i hi, nI_add, (g2.1.2.2.2.2.2.2.2 q (by omega)).2.1]
        refine ⟨vin_i (by omega) (by omega), vin_i (by omega) (by omega), fun z => ih M2 f12 g2 (allB_t hb (decide_eq_true (by rw [et]; exact z))), fun z => ⟨z0, ?_⟩⟩
        rw [allB_f (k := i) (decide_eq_false (by rw [et]; exact z)) n hi] at hQ2
        exact hQ2
theorem m_isSeen (h : MT M 2 T) (ok : okT T) (h3 : T 3 + n < 1000000) (hq : q < T 2) (hn : a + n ≤ 320) (hit : ∀ k, k < n → M 19 0 (a + k) = it k) (hQ : ∀ M1, Fp 2 M M1 → Q (some (zI (nI (cond (allB (fun k => decide (it k = tld (evn T (k + 1)) q)) n) 1 0)))) M1) : wpd (d + 6) 172 [zR 16 0, zI (nI q), zI (nI a), zI (nI n)] M Q := by
  refine en_X5_isSeen _ _ _ _ ?_
  have zb : ∀ b : Bool, (nI (cond b 1 0) : Int32) = 0 ∨ (nI (cond b 1 0) : Int32) = 1 := fun b => by cases b <;> decide
  refine up_ind (P := fun i => ∀ M1, Fp 2 M M1 → MT M1 2 (evn T i) → WP (wpd (d + 5)) 2 T_X5_isSeen Q (6, [zR 16 0, zI (nI q), zI (nI a), zI (nI n), zI (nI (cond (allB (fun k => decide (it k = tld (evn T (k + 1)) q)) i) 1 0)), zI (nI i), zU], []) M1) (n := n) ?_ ?_ M Fp.rf h
  · intro M1 f1 f2
    exact cp_X5_isSeen_6 _ _ _ _ _ _ ⟨fun _ => ⟨zb _, hQ M1 f1⟩, fun z => absurd ((nle (by omega) (by omega)).mpr (Nat.le_refl _)) z⟩
  · intro i hi ih M1 f1 f2
    refine cp_X5_isSeen_6 _ _ _ _ _ _ ⟨fun z => ?_, fun _ => ?_⟩
    · rw [nle (by omega) (by omega)] at z
      omega
    · refine c_passes f2 (okT_evn ok i) (by rw [evn_3]; omega) (fun M2 g1 g2 => gO_i ?_)
      have g2 : MT M2 2 (evn T (i + 1)) := g2
      have f12 : Fp 2 M M2 := f1.tr g1
      have ok1 := okT_evn ok (i + 1)
      have el := evn_l ok (i + 1)
      have h6 := ok1.2.2.2.1
      have h8 := ok1.2.2.1
      obtain ⟨c1, c2, c3, c4, c5⟩ := ok1.2.2.2.2.2.2.2 q (by omega)
      have ih2 := ih M2 f12 g2
      refine m_whr g2 (by omega) c5 (gO_i ?_)
      rw [nI_add a, nI_add i, ncl (by omega), f12 19 0 (by omega) (by omega), hit i hi]
      have key : ∀ v : Int32, tld (evn T (i + 1)) q = v → ((¬ v = it i → WP (wpd (d + 5)) 2 T_X5_isSeen Q (6, [zR 16 0, zI (nI q), zI (nI a), zI (nI n), zI (nI 0), zI (nI (i + 1)), zU], []) M2) ∧ (v = it i → allB (fun k => decide (it k = tld (evn T (k + 1)) q)) i = true → WP (wpd (d + 5)) 2 T_X5_isSeen Q (6, [zR 16 0, zI (nI q), zI (nI a), zI (nI n), zI (nI 1), zI (nI (i + 1)), zU], []) M2)) := by
        intro v hv
        refine ⟨fun z => ?_, fun z hb => ?_⟩
        · rw [allB_f (k := i) (decide_eq_false (fun e => z (by rw [e, hv]))) (i + 1) (by omega)] at ih2
          exact ih2
        · rw [allB_t hb (decide_eq_true (by rw [hv, z]))] at ih2
          exact ih2
      refine ⟨fun z => ?_, fun z => ?_⟩
      · have hb : allB (fun k => decide (it k = tld (evn T (k + 1)) q)) i = false := by
          cases hh : allB (fun k => decide (it k = tld (evn T (k + 1)) q)) i
          · rfl
          · rw [hh] at z; exact absurd z c10
        have : allB (fun k => decide (it k = tld (evn T (k + 1)) q)) (i + 1) = false := by
          show (allB _ i && _) = false
          rw [hb, Bool.false_and]
        rw [this] at ih2
        exact ih2
      · have hb : allB (fun k => decide (it k = tld (evn T (k + 1)) q)) i = true := by
          cases hh : allB (fun k => decide (it k = tld (evn T (k + 1)) q)) i
          · rw [hh] at z; exact absurd rfl z
          · rfl
        refine ⟨fun y => ?_, fun y => ?_⟩
        · have et : tld (evn T (i + 1)) q = whr (evn T (i + 1)) q := by
            unfold whr at y ⊢
            unfold tld
            by_cases e : evn T (i + 1) (24 + 4 * q) = 1
            · rw [if_pos e] at y; exact absurd rfl y
            · rw [if_neg e, if_neg e]
          have k2 := key _ et
          exact ⟨vin_i (by omega) (by omega), k2.1, fun y2 => k2.2 y2 hb⟩
        · have et : tld (evn T (i + 1)) q = nI 99 := by
            unfold whr at y
            unfold tld
            by_cases e : evn T (i + 1) (24 + 4 * q) = 1
            · rw [if_pos e]
            · rw [if_neg e] at y
              exact absurd y (ne_no (by omega))
          have k2 := key _ et
          exact ⟨vin_i (by omega) (by omega), k2.1, fun y2 => k2.2 y2 hb⟩
end Si
