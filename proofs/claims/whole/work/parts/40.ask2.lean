/-! ask: the call -/
theorem Inv.tra {M M' : Mem} (I : Inv M) (fr : ∀ k i, ¬ (k = 0 ∧ i = 0) → ¬ (k = 15 ∧ i = 0) → ¬ (k = 16 ∧ i = 0) → ¬ (k = 29 ∧ i = 0) → M' k i = M k i) (f0 : ∀ j, j ≠ 7 → M' 0 0 j = M 0 0 j) (f16 : ∀ j, j ≠ 23 → M' 16 0 j = M 16 0 j) (ht : ITr M') : Inv M' ∧ ∀ k, 30 ≤ k → M' k = M k := by
  obtain ⟨h1, h2, h3, h4, h5, h6, h7, h8, h9⟩ := I
  have f30 : ∀ k, 30 ≤ k → M' k = M k := fun k hk => funext (fun i => fr k i (by omega) (by omega) (by omega) (by omega))
  have G : ∀ k i, k ≠ 0 → k ≠ 15 → k ≠ 16 → k ≠ 29 → M' k i = M k i := fun k i a1 a2 a3 a4 => fr k i (by omega) (by omega) (by omega) (by omega)
  refine ⟨⟨h1.fr (fun r hr => ⟨G _ _ (by omega) (by omega) (by omega) (by omega), G _ _ (by omega) (by omega) (by omega) (by omega)⟩) (G _ _ (by omega) (by omega) (by omega) (by omega)) (G _ _ (by omega) (by omega) (by omega) (by omega)) (G _ _ (by omega) (by omega) (by omega) (by omega)), h2.fr (by rw [G 4 0 (by omega) (by omega) (by omega) (by omega)]) (f16 6 (by omega)) (G _ _ (by omega) (by omega) (by omega) (by omega)) (G _ _ (by omega) (by omega) (by omega) (by omega)), h3.fr (by rw [G 4 0 (by omega) (by omega) (by omega) (by omega)]) (f16 7 (by omega)), h4.fr (f0 8 (by omega)) (f16 4 (by omega)), ht, h6.fr (fun k _ _ => G _ _ (by omega) (by omega) (by omega) (by omega)) (G _ _ (by omega) (by omega) (by omega) (by omega)), h7.fr (fun k i _ _ _ => G _ _ (by omega) (by omega) (by omega) (by omega)) (G _ _ (by omega) (by omega) (by omega) (by omega)) (f16 18 (by omega)) (G _ _ (by omega) (by omega) (by omega) (by omega)), h8.fr (fun k i _ _ _ _ => G _ _ (by omega) (by omega) (by omega) (by omega)) (G _ _ (by omega) (by omega) (by omega) (by omega)) (G _ _ (by omega) (by omega) (by omega) (by omega)), h9.fr f30⟩, f30⟩
theorem pr_ask (p1 p2 : Int32) : PR 86 187 [zR 0 0, zI p1, zI p2] [zR 16 0, zI p1, zI p2] := by
  intro M I
  obtain ⟨T, hg, hc, hm⟩ := I.2.2.2.2.2.1
  have hst := I.2.2.2.2.2.2.2.2
  have hb := hg.b
  rcases num_or p1 (T 2) with ⟨q, hq, rfl⟩ | hno
  · rcases num_or p2 2 with ⟨w, hw, rfl⟩ | hno
    · have hN := hg.p hq
      obtain ⟨x1, x2, x3, x4, x5⟩ := hN.1.2.2.2.2.2.2.2 q hq
      have e9 : M 9 0 q = nI (T (21 + 4 * q)) := (hc.1.2.2.2.2.2.2.2 q hq).1
      have main : ∀ (l : List Int32) (v b : Int32), l.length ≤ 16 → (if w = 0 then szA (T (21 + 4 * q)) else mkA (T (21 + 4 * q))) = b → Bd 39 T q 1 b l v → (∀ (N : Mem) (Q : Option AV → Mem → Prop), MT N 0 T → TM N 0 (fun _ => 0) → (∀ M', FU N M' → TM M' l.length (aps (fun _ => 0) 0 l) → Q (some (zI v)) M') → ((nI (T (21 + 4 * q)) < (nI 4) → ((¬ (nI w) = (nI 0) → ((((nI 0 : Int32)) = (nI 0) → wpd 39 183 [zR 16 0, zI (nI q)] N (fun r4 M4 => gO r4 fun v4 => Q (some (zI v4)) M4)) ∧ (¬ ((nI 0 : Int32)) = (nI 0) → wpd 39 186 [zR 16 0, zI (nI q)] N (fun r5 M5 => gO r5 fun v5 => Q (some (zI v5)) M5)))) ∧ ((nI w) = (nI 0) → ((((nI 0 : Int32)) = (nI 0) → wpd 39 185 [zR 16 0, zI (nI q)] N (fun r6 M6 => gO r6 fun v6 => Q (some (zI v6)) M6)) ∧ (¬ ((nI 0 : Int32)) = (nI 0) → wpd 39 184 [zR 16 0, zI (nI q)] N (fun r7 M7 => gO r7 fun v7 => Q (some (zI v7)) M7)))))) ∧ (¬ nI (T (21 + 4 * q)) < (nI 4) → ((¬ (nI w) = (nI 0) → ((((nI 1 : Int32)) = (nI 0) → wpd 39 183 [zR 16 0, zI (nI q)] N (fun r8 M8 => gO r8 fun v8 => Q (some (zI v8)) M8)) ∧ (¬ ((nI 1 : Int32)) = (nI 0) → wpd 39 186 [zR 16 0, zI (nI q)] N (fun r9 M9 => gO r9 fun v9 => Q (some (zI v9)) M9)))) ∧ ((nI w) = (nI 0) → ((((nI 1 : Int32)) = (nI 0) → wpd 39 185 [zR 16 0, zI (nI q)] N (fun r10 M10 => gO r10 fun v10 => Q (some (zI v10)) M10)) ∧ (¬ ((nI 1 : Int32)) = (nI 0) → wpd 39 184 [zR 16 0, zI (nI q)] N (fun r11 M11 => gO r11 fun v11 => Q (some (zI v11)) M11)))))))) → wpd 40 86 [zR 0 0, zI (nI q), zI (nI w)] M (fun r M1 => gO r fun v => wpd 40 187 [zR 16 0, zI (nI q), zI (nI w)] M1 (fun r' M2 => gO r' fun v' => v = v' ∧ Inv M2 ∧ ∀ k, 30 ≤ k → M2 k = M k)) := by
        intro l v b hl hbb hB hR
        refine en_X4_ask _ _ _ (c_hasPlayer hc.1.2.1 hb.2 (fun _ _ _ => gTe (c_isEither (fun _ _ _ => gTn ?_) (fun h => absurd rfl (h w hw)))) (fun h => absurd rfl (h q hq)))
        refine en_X4_firstBody _ _ _ ?_
        rw [ncl (by omega), mup_r (by omega), e9, ncl (by omega), mup_r (by omega), mup_r (by omega), (hst _ (by omega)).2.1, (hst _ (by omega)).2.2]
        have go : wpd 39 107 [zR 0 0, zI b, zI (nI q), zI (nI 1)] (mup M 0 0 7 (nI 0)) (fun r4 M4 => gO r4 fun v4 => gO (some (zI v4)) fun v => wpd 40 187 [zR 16 0, zI (nI q), zI (nI w)] M4 (fun r' M2 => gO r' fun v' => v = v' ∧ Inv M2 ∧ ∀ k, 30 ≤ k → M2 k = M k)) := by
          have f0 : FT M (mup M 0 0 7 (nI 0)) := ⟨fun k i a _ => mup_r a, fun j hj => by rw [mup_ap, if_neg (by omega)]⟩
          refine hB _ 0 (fun _ => 0) _ (hc.ft f0) (hst.ft f0) ⟨by rw [mup_ap, if_pos ⟨rfl, rfl, rfl⟩], fun j hj => by omega⟩ (by omega) (fun M1 f1 t1 => gO_i (gO_i ?_))
          have f01 := f0.tr f1
          rw [Nat.zero_add] at t1
          have hm1 : MT M1 0 T := fun j hj => by rw [f01.1 22 0 (by omega) (by omega)]; exact hm j hj
          refine en_X5_ask _ _ _ (c_isPlayer5 (hm1 2 (by omega)) hb.2 (fun _ _ _ => gTe (c_either5 (fun _ _ _ => gTn ?_) (fun h => absurd rfl (h w hw)))) (fun h => absurd rfl (h q hq)))
          have hm2 : MT (mup M1 16 0 23 (nI 0)) 0 T := fun j hj => by rw [mup_r (by omega)]; exact hm1 j hj
          refine m_kindIn hm2 (by omega) (gO_i ?_)
          refine hR _ (fun r' M2 => gO r' fun v' => v = v' ∧ Inv M2 ∧ ∀ k, 30 ≤ k → M2 k = M k) hm2 ⟨by rw [mup_ap, if_pos ⟨rfl, rfl, rfl⟩], fun j hj => by omega⟩ (fun M2 f2 t2 => gO_i ⟨rfl, ?_⟩)
          refine I.tra (fun k i a1 a2 a3 a4 => by rw [f2.1 k i a3 a4, mup_r a3]; exact f01.1 k i a1 a2) (fun j hj => by rw [f2.1 0 0 (by omega) (by omega), mup_r (by omega)]; exact f01.2 j hj) (fun j hj => by rw [f2.2 j hj, mup_ap, if_neg (by omega), f01.1 16 0 (by omega) (by omega)]) ⟨l.length, hl, ?_, t2.1, fun j hj => ?_⟩
          · rw [f2.1 0 0 (by omega) (by omega), mup_r (by omega)]; exact t1.1
          · rw [f2.1 15 0 (by omega) (by omega), mup_r (by omega), t2.2 j hj]; exact t1.2 j hj
        refine ⟨vin_i (by omega) (by omega), fun z => ⟨vin_i (by omega) (by omega), gO_i ?_⟩, fun z => ⟨vin_i (by omega) (by omega), gO_i ?_⟩⟩
        · rw [if_neg (fun e => z (by rw [e]))] at hbb
          rw [hbb]; exact go
        · rw [neq (by omega) (by omega)] at z
          rw [if_pos z] at hbb
          rw [hbb]; exact go
      have h6 := hb.2
      have B10 : ∀ {d dep : Nat}, dep ≤ 10 → Bd (d + 2) T q dep (nI 10) [nI 10] (nI (T (23 + 4 * q))) := fun h => bd10 hq h6 h
      have B20 : ∀ {d dep : Nat}, dep ≤ 10 → Bd (d + 2) T q dep (nI 20) [nI 20] (nI q) := fun h => bd20 hq h6 h
      have B21 : ∀ {d dep : Nat}, dep ≤ 9 → Bd (d + 4) T q dep (nI 21) [nI 21, nI 20] (nI q + nI (T (22 + 4 * q))) := fun h => bd21 hq h6 (by omega) (B20 (by omega)) (by omega)
      have B22 : ∀ {d dep : Nat}, dep ≤ 8 → Bd (d + 6) T q dep (nI 22) [nI 22, nI 21, nI 20] (nI q + nI (T (22 + 4 * q)) - nI 1000) := fun h => bd22 hq h6 (by omega) (B21 (by omega)) (by omega)
      have B24 : ∀ {d dep : Nat}, dep ≤ 8 → Bd (d + 6) T q dep (nI 24) [nI 24, nI 21, nI 20] (nI 2 * (nI q + nI (T (22 + 4 * q)))) := fun h => by
        rw [Int32.mul_comm]
        exact bd24 hq h6 (by omega) (B21 (by omega)) (by omega)
      have B13 : ∀ {d dep : Nat}, dep ≤ 9 → Bd (d + 4) T q dep (nI 13) [nI 13, nI 10] (nI (T (23 + 4 * q)) - nI 100) := fun h => bd13 hq h6 (by omega) (B10 (by omega)) (by omega)
      have B14 : ∀ {d dep : Nat}, dep ≤ 8 → Bd (d + 6) T q dep (nI 14) [nI 14, nI 13, nI 10] (nI 2 * (nI (T (23 + 4 * q)) - nI 100)) := fun h => by
        rw [Int32.mul_comm]
        exact bd14 hq h6 (by omega) (B13 (by omega)) (by omega)
      rcases (by omega : T (21 + 4 * q) = 1 ∨ T (21 + 4 * q) = 2 ∨ T (21 + 4 * q) = 3 ∨ T (21 + 4 * q) = 4 ∨ T (21 + 4 * q) = 5) with k | k | k | k | k <;> rcases (by omega : w = 0 ∨ w = 1) with rfl | rfl
      · refine main _ _ (nI 11) (by decide) (by rw [k]; rfl) (bd11 (l := [nI 10]) (l' := [nI 21, nI 20]) hq h6 (by omega) x2 (by rw [k]; rfl) (B10 (by omega)) (B21 (by omega)) (by omega)) (fun N Q hmN tN hQ => ?_)
        rw [k]
        exact ⟨fun _ => ⟨fun z => absurd rfl z, fun _ => ⟨fun _ => rdZ1 (l := [nI 21, nI 20]) (by omega) x2 (by omega) (rdM1 (by omega) k) N 0 _ _ hmN tN (by decide) (fun M' f t => gO_i (hQ M' f t)), fun z => absurd rfl z⟩⟩, fun z => absurd (by decide) z⟩
      · refine main _ _ (nI 21) (by decide) (by rw [k]; rfl) (B21 (by omega)) (fun N Q hmN tN hQ => ?_)
        rw [k]
        exact ⟨fun _ => ⟨fun _ => ⟨fun _ => rdM1 (by omega) k N 0 _ _ hmN tN (by decide) (fun M' f t => gO_i (hQ M' f t)), fun z => absurd rfl z⟩, fun z => absurd z c10⟩, fun z => absurd (by decide) z⟩
      · refine main _ _ (nI 12) (by decide) (by rw [k]; rfl) (bd12 hq h6 (by omega) (bd11 (l := [nI 10]) (l' := [nI 24, nI 21, nI 20]) hq h6 (by omega) x2 (by rw [k]; rfl) (B10 (by omega)) (B24 (by omega)) (by omega)) (by omega)) (fun N Q hmN tN hQ => ?_)
        rw [k]
        exact ⟨fun _ => ⟨fun z => absurd rfl z, fun _ => ⟨fun _ => rdZ2 (l := [nI 24, nI 21, nI 20]) (by omega) x2 k (rdM2 (by omega) k) N 0 _ _ hmN tN (by decide) (fun M' f t => gO_i (hQ M' f t)), fun z => absurd rfl z⟩⟩, fun z => absurd (by decide) z⟩
      · refine main _ _ (nI 24) (by decide) (by rw [k]; rfl) (B24 (by omega)) (fun N Q hmN tN hQ => ?_)
        rw [k]
        exact ⟨fun _ => ⟨fun _ => ⟨fun _ => rdM2 (by omega) k N 0 _ _ hmN tN (by decide) (fun M' f t => gO_i (hQ M' f t)), fun z => absurd rfl z⟩, fun z => absurd z c10⟩, fun z => absurd (by decide) z⟩
      · refine main _ _ (nI 11) (by decide) (by rw [k]; rfl) (bd11 (l := [nI 10]) (l' := [nI 22, nI 21, nI 20]) hq h6 (by omega) x2 (by rw [k]; rfl) (B10 (by omega)) (B22 (by omega)) (by omega)) (fun N Q hmN tN hQ => ?_)
        rw [k]
        exact ⟨fun _ => ⟨fun z => absurd rfl z, fun _ => ⟨fun _ => rdZ1 (l := [nI 22, nI 21, nI 20]) (by omega) x2 (by omega) (rdM3 (by omega) k) N 0 _ _ hmN tN (by decide) (fun M' f t => gO_i (hQ M' f t)), fun z => absurd rfl z⟩⟩, fun z => absurd (by decide) z⟩
      · refine main _ _ (nI 22) (by decide) (by rw [k]; rfl) (B22 (by omega)) (fun N Q hmN tN hQ => ?_)
        rw [k]
        exact ⟨fun _ => ⟨fun _ => ⟨fun _ => rdM3 (by omega) k N 0 _ _ hmN tN (by decide) (fun M' f t => gO_i (hQ M' f t)), fun z => absurd rfl z⟩, fun z => absurd z c10⟩, fun z => absurd (by decide) z⟩
      · refine main _ _ (nI 13) (by decide) (by rw [k]; rfl) (B13 (by omega)) (fun N Q hmN tN hQ => ?_)
        rw [k]
        exact ⟨fun z => absurd z (by decide), fun _ => ⟨fun z => absurd rfl z, fun _ => ⟨fun z => absurd z c10, fun _ => rdS4 (by omega) k N 0 _ _ hmN tN (by decide) (fun M' f t => gO_i (hQ M' f t))⟩⟩⟩
      · refine main _ _ (nI 23) (by decide) (by rw [k]; rfl) (bd23 (l := [nI 20]) (l' := [nI 13, nI 10]) hq h6 (by omega) x2 (by rw [k]; rfl) (B20 (by omega)) (B13 (by omega)) (by omega)) (fun N Q hmN tN hQ => ?_)
        rw [k]
        exact ⟨fun z => absurd z (by decide), fun _ => ⟨fun _ => ⟨fun z => absurd z c10, fun _ => rdC (l := [nI 13, nI 10]) (rdS4 (by omega) k) N 0 _ _ hmN tN (by decide) (fun M' f t => gO_i (hQ M' f t))⟩, fun z => absurd z c10⟩⟩
      · refine main _ _ (nI 14) (by decide) (by rw [k]; rfl) (B14 (by omega)) (fun N Q hmN tN hQ => ?_)
        rw [k]
        exact ⟨fun z => absurd z (by decide), fun _ => ⟨fun z => absurd rfl z, fun _ => ⟨fun z => absurd z c10, fun _ => rdS5 (by omega) k N 0 _ _ hmN tN (by decide) (fun M' f t => gO_i (hQ M' f t))⟩⟩⟩
      · refine main _ _ (nI 23) (by decide) (by rw [k]; rfl) (bd23 (l := [nI 20]) (l' := [nI 14, nI 13, nI 10]) hq h6 (by omega) x2 (by rw [k]; rfl) (B20 (by omega)) (B14 (by omega)) (by omega)) (fun N Q hmN tN hQ => ?_)
        rw [k]
        exact ⟨fun z => absurd z (by decide), fun _ => ⟨fun _ => ⟨fun z => absurd z c10, fun _ => rdC (l := [nI 14, nI 13, nI 10]) (rdS5 (by omega) k) N 0 _ _ hmN tN (by decide) (fun M' f t => gO_i (hQ M' f t))⟩, fun z => absurd z c10⟩⟩
    · refine en_X4_ask _ _ _ (c_hasPlayer hc.1.2.1 hb.2 (fun _ _ _ => gTe (c_isEither (fun k hk e => absurd e (hno k hk)) (fun _ => gFn (gO_i ?_)))) (fun h => absurd rfl (h q hq)))
      exact en_X5_ask _ _ _ (c_isPlayer5 (hm 2 (by omega)) hb.2 (fun _ _ _ => gTe (c_either5 (fun k hk e => absurd e (hno k hk)) (fun _ => gFn (gO_i ⟨rfl, I, fun _ _ => rfl⟩)))) (fun h => absurd rfl (h q hq)))
  · refine en_X4_ask _ _ _ (c_hasPlayer hc.1.2.1 hb.2 (fun k hk e => absurd e (hno k hk)) (fun _ => gFe (gO_i ?_)))
    exact en_X5_ask _ _ _ (c_isPlayer5 (hm 2 (by omega)) hb.2 (fun k hk e => absurd e (hno k hk)) (fun _ => gFe (gO_i ⟨rfl, I, fun _ _ => rfl⟩)))
