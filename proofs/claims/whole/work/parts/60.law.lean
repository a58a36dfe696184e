/-! THE LAW'S LOOP -/
/-- calls, where the arrays that nobody writes are S -/
def callK (S : Mem) (d : Nat) : Call := fun y av M P => (∀ k, 30 ≤ k → M k = S k) → wpd d y av M (fun r M1 => (∀ k, 30 ≤ k → M1 k = S k) → P r M1)
theorem callK_m {S : Mem} {d : Nat} : Mono (callK S d) := fun _ _ _ _ _ h q hS => wpd_m d _ _ _ _ _ (fun r M1 z g => h r M1 (z g)) (q hS)
theorem op_ok {S M : Mem} {y y' : Nat} {as bs : List AV} {A : Mem → Prop} {K : Int32 → Mem → Prop} (pr : PR y y' as bs) (I : Inv M) (hA : ∀ M2, Inv M2 → (∀ k, 30 ≤ k → M2 k = S k) → A M2)
    (hK : ∀ v M1, (∀ k, 30 ≤ k → M1 k = S k) → (∀ B : Mem → Prop, callK S 40 y' bs M1 (fun r2 M2 => gO r2 fun v2 => (v = v2 → A M2) ∧ (¬ v = v2 → B M2))) → K v M1) : callK S 40 y as M (fun r M1 => gO r fun v => K v M1) := by
  intro hS
  refine wpd_m 40 _ _ _ _ _ ?_ (pr M I)
  intro r M1 h hS1
  refine gO_m (fun v h => hK v M1 hS1 (fun B _ => wpd_m 40 _ _ _ _ _ ?_ h)) h
  intro r2 M2 h2 hS2
  exact gO_m (fun v2 h3 => ⟨fun _ => hA M2 h3.2.1 hS2, fun z => absurd h3.1 z⟩) h2
theorem lt6 {L i : Nat} (hL : L ≤ 384) (hi : i ≤ 390) : (nI L - nI 6 < nI i) ↔ L < i + 6 := by
  by_cases h : 6 ≤ L
  · rw [pk_sub h, nlt (by omega) (by omega)]
    omega
  · refine ⟨fun _ => by omega, fun _ => ?_⟩
    have h1 : nI L - nI 6 < 0 := pk_sneg (by omega) (by omega)
    have h2 : (0 : Int32) ≤ nI i := nI_pos' (by omega)
    exact Int32.lt_of_lt_of_le h1 h2
set_option maxHeartbeats 4000000 in
set_option maxRecDepth 10000 in
theorem law18 {S : Mem} {L : Nat} (hL : L ≤ 384) (e33 : S 33 1 0 = nI L) {Q : Option AV → Mem → Prop} (hQ : ∀ M, Q (some (zI (nI 1))) M) : ∀ (n i : Nat) (M : Mem), L ≤ i + 6 * n → i ≤ 390 → Inv M → (∀ k, 30 ≤ k → M k = S k) → WP (callK S 40) 2 T_L_law Q (18, [zR 33 0, zR 0 0, zR 16 0, zI (nI i)], []) M := by
  intro n
  induction n with
  | zero =>
    intro i M h1 h2 I hS
    refine cq_L_law_18 callK_m _ _ ?_
    rw [hS 33 (by omega), e33, lt6 hL h2]
    exact ⟨fun _ => ⟨z1, hQ M⟩, fun z => absurd (by omega) z⟩
  | succ n ih =>
    intro i M h1 h2 I hS
    refine cq_L_law_18 callK_m _ _ ?_
    rw [hS 33 (by omega), e33, lt6 hL h2]
    refine ⟨fun _ => ⟨z1, hQ M⟩, fun z => ?_⟩
    have vk : ∀ k, k < 6 → vp_in (nI i + nI k) (nI L).toNatClampNeg := fun k hk => by rw [nI_add, ncl (by omega)]; exact vin_i (by omega) (by omega)
    have v0 : vp_in (nI i) (nI L).toNatClampNeg := by rw [ncl (by omega)]; exact vin_i (by omega) (by omega)
    have nx : ∀ M2, Inv M2 → (∀ k, 30 ≤ k → M2 k = S k) → WP (callK S 40) 2 T_L_law Q (18, [zR 33 0, zR 0 0, zR 16 0, zI (nI i + nI 6)], []) M2 := fun M2 I2 hS2 => by
      rw [nI_add]
      exact ih (i + 6) M2 (by omega) (by omega) I2 hS2
    have v1 := vk 1 (by omega)
    have v2 := vk 2 (by omega)
    have v3 := vk 3 (by omega)
    have v4 := vk 4 (by omega)
    have v5 := vk 5 (by omega)
    refine ⟨v0, ?_⟩
    refine ⟨fun _ => ⟨v1, v2, v3, op_ok (pr_row _ _ _) I nx (fun v M1 h1 h => by rw [h1 33 (by omega), e33]; exact ⟨v1, v2, v3, h _⟩)⟩, fun _ => ?_⟩
    refine ⟨fun _ => ⟨v1, v2, v3, op_ok (pr_set _ _ _) I nx (fun v M1 h1 h => by rw [h1 33 (by omega), e33]; exact ⟨v1, v2, v3, h _⟩)⟩, fun _ => ?_⟩
    refine ⟨fun _ => ⟨v1, v2, v3, v4, v5, op_ok (pr_copy _ _ _ _ _) I nx (fun v M1 h1 h => by rw [h1 33 (by omega), e33]; exact ⟨v1, v2, v3, v4, v5, h _⟩)⟩, fun _ => ?_⟩
    refine ⟨fun _ => ⟨v1, op_ok (pr_drop _) I nx (fun v M1 h1 h => by rw [h1 33 (by omega), e33]; exact ⟨v1, h _⟩)⟩, fun _ => ?_⟩
    refine ⟨fun _ => ⟨v1, op_ok (pr_feed _) I nx (fun v M1 h1 h => by rw [h1 33 (by omega), e33]; exact ⟨v1, h _⟩)⟩, fun _ => ?_⟩
    refine ⟨fun _ => op_ok pr_town I nx (fun v M1 h1 h => h _), fun _ => ?_⟩
    refine ⟨fun _ => op_ok pr_fault I nx (fun v M1 h1 h => h _), fun _ => ?_⟩
    refine ⟨fun _ => ⟨v1, op_ok (pr_evenings _) I nx (fun v M1 h1 h => by rw [h1 33 (by omega), e33]; exact ⟨v1, h _⟩)⟩, fun _ => ?_⟩
    refine ⟨fun _ => ⟨v1, v2, op_ok (pr_pour _ _) I nx (fun v M1 h1 h => by rw [h1 33 (by omega), e33]; exact ⟨v1, v2, h _⟩)⟩, fun _ => ?_⟩
    refine ⟨fun _ => ⟨v1, op_ok (pr_quench _) I nx (fun v M1 h1 h => by rw [h1 33 (by omega), e33]; exact ⟨v1, h _⟩)⟩, fun _ => ?_⟩
    refine ⟨fun _ => ⟨v1, v2, op_ok (pr_move _ _) I nx (fun v M1 h1 h => by rw [h1 33 (by omega), e33]; exact ⟨v1, v2, h _⟩)⟩, fun _ => ?_⟩
    refine ⟨fun _ => ⟨v1, op_ok (pr_turn _) I nx (fun v M1 h1 h => by rw [h1 33 (by omega), e33]; exact ⟨v1, h _⟩)⟩, fun _ => ?_⟩
    refine ⟨fun _ => op_ok pr_undo I nx (fun v M1 h1 h => h _), fun _ => ?_⟩
    refine ⟨fun _ => ⟨v1, v2, op_ok (pr_player _ _) I nx (fun v M1 h1 h => by rw [h1 33 (by omega), e33]; exact ⟨v1, v2, h _⟩)⟩, fun _ => ?_⟩
    refine ⟨fun _ => ⟨v1, v2, op_ok (pr_place _ _) I nx (fun v M1 h1 h => by rw [h1 33 (by omega), e33]; exact ⟨v1, v2, h _⟩)⟩, fun _ => ?_⟩
    refine ⟨fun _ => ⟨v1, v2, op_ok (pr_ahead _ _) I nx (fun v M1 h1 h => by rw [h1 33 (by omega), e33]; exact ⟨v1, v2, h _⟩)⟩, fun _ => ?_⟩
    refine ⟨fun _ => ⟨v1, v2, op_ok (pr_oil _ _) I nx (fun v M1 h1 h => by rw [h1 33 (by omega), e33]; exact ⟨v1, v2, h _⟩)⟩, fun _ => ?_⟩
    refine ⟨fun _ => ⟨v1, v2, op_ok (pr_later _ _) I nx (fun v M1 h1 h => by rw [h1 33 (by omega), e33]; exact ⟨v1, v2, h _⟩)⟩, fun _ => ?_⟩
    refine ⟨fun _ => ⟨v1, op_ok (pr_crossing _) I nx (fun v M1 h1 h => by rw [h1 33 (by omega), e33]; exact ⟨v1, h _⟩)⟩, fun _ => ?_⟩
    refine ⟨fun _ => ⟨v1, op_ok (pr_out _) I nx (fun v M1 h1 h => by rw [h1 33 (by omega), e33]; exact ⟨v1, h _⟩)⟩, fun _ => ?_⟩
    refine ⟨fun _ => ⟨v1, op_ok (pr_gap _) I nx (fun v M1 h1 h => by rw [h1 33 (by omega), e33]; exact ⟨v1, h _⟩)⟩, fun _ => ?_⟩
    refine ⟨fun _ => ⟨v1, v2, v3, op_ok (pr_hold _ _ _) I nx (fun v M1 h1 h => by rw [h1 33 (by omega), e33]; exact ⟨v1, v2, v3, h _⟩)⟩, fun _ => ?_⟩
    refine ⟨fun _ => ⟨v1, v2, op_ok (pr_fill _ _) I nx (fun v M1 h1 h => by rw [h1 33 (by omega), e33]; exact ⟨v1, v2, h _⟩)⟩, fun _ => ?_⟩
    refine ⟨fun _ => ⟨v1, v2, op_ok (pr_lure _ _) I nx (fun v M1 h1 h => by rw [h1 33 (by omega), e33]; exact ⟨v1, v2, h _⟩)⟩, fun _ => ?_⟩
    refine ⟨fun _ => ⟨v1, v2, v3, v4, v5, op_ok (pr_fits _ _ _ _ _) I nx (fun v M1 h1 h => by rw [h1 33 (by omega), e33]; exact ⟨v1, v2, v3, v4, v5, h _⟩)⟩, fun _ => ?_⟩
    refine ⟨fun _ => ⟨v1, v2, v3, op_ok (pr_sits _ _ _) I nx (fun v M1 h1 h => by rw [h1 33 (by omega), e33]; exact ⟨v1, v2, v3, h _⟩)⟩, fun _ => ?_⟩
    refine ⟨fun _ => ⟨v1, v2, v3, v4, op_ok (pr_wind _ _ _ _) I nx (fun v M1 h1 h => by rw [h1 33 (by omega), e33]; exact ⟨v1, v2, v3, v4, h _⟩)⟩, fun _ => ?_⟩
    refine ⟨fun _ => ⟨v1, v2, v3, op_ok (pr_drawn _ _ _) I nx (fun v M1 h1 h => by rw [h1 33 (by omega), e33]; exact ⟨v1, v2, v3, h _⟩)⟩, fun _ => ?_⟩
    refine ⟨fun _ => ⟨v1, op_ok (pr_image _) I nx (fun v M1 h1 h => by rw [h1 33 (by omega), e33]; exact ⟨v1, h _⟩)⟩, fun _ => ?_⟩
    refine ⟨fun _ => ⟨v1, op_ok (pr_restore _) I nx (fun v M1 h1 h => by rw [h1 33 (by omega), e33]; exact ⟨v1, h _⟩)⟩, fun _ => ?_⟩
    refine ⟨fun _ => ⟨v1, op_ok (pr_kind _) I nx (fun v M1 h1 h => by rw [h1 33 (by omega), e33]; exact ⟨v1, h _⟩)⟩, fun _ => ?_⟩
    refine ⟨fun _ => ⟨v1, v2, op_ok (pr_as _ _) I nx (fun v M1 h1 h => by rw [h1 33 (by omega), e33]; exact ⟨v1, v2, h _⟩)⟩, fun _ => ?_⟩
    refine ⟨fun _ => ⟨v1, v2, op_ok (pr_ask _ _) I nx (fun v M1 h1 h => by rw [h1 33 (by omega), e33]; exact ⟨v1, v2, h _⟩)⟩, fun _ => ?_⟩
    refine ⟨fun _ => ⟨v1, op_ok (pr_trace _) I nx (fun v M1 h1 h => by rw [h1 33 (by omega), e33]; exact ⟨v1, h _⟩)⟩, fun _ => ?_⟩
    refine ⟨fun _ => ⟨v1, op_ok (pr_count _) I nx (fun v M1 h1 h => by rw [h1 33 (by omega), e33]; exact ⟨v1, h _⟩)⟩, fun _ => ?_⟩
    refine ⟨fun _ => op_ok pr_status I nx (fun v M1 h1 h => h _), fun _ => ?_⟩
    exact nx M I hS
/-! THE START -/
def M0S (S : Mem) : Mem := fun k => bif Nat.ble 30 k then S k else M00 k
theorem inv_0 {S : Mem} (h : ISt S) : Inv (M0S S) := by
  refine ⟨fun r hr => Or.inl ⟨rfl, ?_⟩, ⟨0, by omega, rfl, rfl, fun j hj => absurd hj (by omega)⟩, rfl, rfl, ⟨0, by omega, rfl, rfl, fun j hj => absurd hj (by omega)⟩, ⟨fun _ => 0, Or.inl ⟨rfl, rfl⟩, ⟨⟨rfl, rfl, rfl, rfl, rfl, fun p hp => rfl, fun p hp => rfl, fun q hq => ⟨rfl, rfl, rfl⟩⟩, rfl⟩, fun j hj => rfl⟩, ⟨0, 0, fun _ _ => 0, by omega, by omega, rfl, rfl, rfl, fun i hi => absurd hi (by omega)⟩, fun k hk => Or.inl ⟨rfl, rfl⟩, h⟩
  show (if r < 8 then (-1000000 : Int32) else 0) = -1000000
  rw [if_pos hr]
theorem metS {l : Launch} {D : va_G} {ad : Nat → Nat → Nat} {C : CI4} {A : Nat → Prop} {S : Mem} {d y : Nat} {av : List AV} {M : Mem} {P : Option AV → Mem → Prop} (h : callK S d y av M P) (hy : y < 194) (hok : ∀ v ∈ av, okv v) (hc1 : av.all cat1 = true) (hlen : av.length = naO y) : MetA l D ad C A S (rmD d) y av M P := by
  intro p e ha hc hk s m args below hf happ hP hK
  obtain ⟨n, o, h1, h2, h3, ⟨⟨r, M', q1, q2, q3, q4⟩, qF⟩, qL⟩ := snd l D ad C A S d y av M _ (h hP.2.1.2.2) hy hok hc1 hlen p e ha hc hk s m args below hf happ hP hK
  exact ⟨n, o, h1, h2, h3, ⟨⟨r, M', q1, q2, q3 q4.2.2, q4⟩, qF⟩, qL⟩
