/-! more cuts: printed by program -/
theorem en2_X5_readsFlame {d : Nat} {Q : Option AV → Mem → Prop} (M : Mem) (h : (vp_in (nI 1) 45 ∧ (((nI 8) ≤ ((M 22 1 1) : Int32) → wpd d 128 [zR 16 0, zI (nI 0), zI (nI 3)] M (fun r1 M1 => gO r1 fun v1 => WP (wpd d) 0 T_X5_readsFlame Q (22, [zR 16 0, zU, zU], []) M1)) ∧ (¬ (nI 8) ≤ ((M 22 1 1) : Int32) → wpd d 128 [zR 16 0, zI (nI 1), zI (nI 3)] M (fun r2 M2 => gO r2 fun v2 => WP (wpd d) 0 T_X5_readsFlame Q (22, [zR 16 0, zU, zU], []) M2))))) : wpd (d + 1) 132 [zR 16 0] M Q := by
  show WP (wpd d) 0 T_X5_readsFlame Q (0, [zR 16 0, zU, zU], []) M
  refine WP.k (wpd_m d) 4 (?_ : WP (wpd d) 0 T_X5_readsFlame Q (6, [zR 16 0, zU, zU], [zI (nI 1), zR 22 1, zR 16 0]) M)
  refine WP.k (wpd_m d) 1 (?_ : vp_in (nI 1) 45 ∧ WP (wpd d) 0 T_X5_readsFlame Q (7, [zR 16 0, zU, zU], [zI (M 22 1 1), zR 16 0]) M)
  refine ⟨h.1, ?_⟩
  have h := h.2
  refine WP.k (wpd_m d) 2 (?_ : ((nI 8) ≤ ((M 22 1 1) : Int32) → WP (wpd d) 0 T_X5_readsFlame Q (16, [zR 16 0, zU, zU], [zR 16 0]) M) ∧ (¬ (nI 8) ≤ ((M 22 1 1) : Int32) → WP (wpd d) 0 T_X5_readsFlame Q (12, [zR 16 0, zU, zU], [zR 16 0]) M))
  refine ⟨fun z => ?_, fun z => ?_⟩
  · have h := h.1 z
    refine WP.k (wpd_m d) 3 (?_ : wpd d 128 [zR 16 0, zI (nI 0), zI (nI 3)] M (fun r1 M1 => gO r1 fun v1 => WP (wpd d) 0 T_X5_readsFlame Q (21, [zR 16 0, zU, zU], [zI v1]) M1))
    refine wpd_m d _ _ _ _ _ (fun r1 M1 q => gO_m (fun v1 h => ?_) q) h
    exact WP.k (wpd_m d) 1 h
  · have h := h.2 z
    refine WP.k (wpd_m d) 4 (?_ : wpd d 128 [zR 16 0, zI (nI 1), zI (nI 3)] M (fun r2 M2 => gO r2 fun v2 => WP (wpd d) 0 T_X5_readsFlame Q (21, [zR 16 0, zU, zU], [zI v2]) M2))
    refine wpd_m d _ _ _ _ _ (fun r2 M2 q => gO_m (fun v2 h => ?_) q) h
    exact WP.k (wpd_m d) 1 h
theorem cp2_X5_readsFlame_22 {d : Nat} {Q : Option AV → Mem → Prop}  (M : Mem) (h : (vp_in (nI 1) 45 ∧ (((nI 8) ≤ ((M 22 1 1) : Int32) → WP (wpd d) 0 T_X5_readsFlame Q (46, [zR 16 0, zI ((nI 5) + (nI 0)), zU], []) M) ∧ (¬ (nI 8) ≤ ((M 22 1 1) : Int32) → (vp_in (nI 1) 45 ∧ WP (wpd d) 0 T_X5_readsFlame Q (46, [zR 16 0, zI ((nI 5) + (M 22 1 1)), zU], []) M))))) : WP (wpd d) 0 T_X5_readsFlame Q (22, [zR 16 0, zU, zU], []) M := by
  refine WP.k (wpd_m d) 4 (?_ : WP (wpd d) 0 T_X5_readsFlame Q (28, [zR 16 0, zU, zU], [zI (nI 1), zR 22 1, zI (nI 5)]) M)
  refine WP.k (wpd_m d) 1 (?_ : vp_in (nI 1) 45 ∧ WP (wpd d) 0 T_X5_readsFlame Q (29, [zR 16 0, zU, zU], [zI (M 22 1 1), zI (nI 5)]) M)
  refine ⟨h.1, ?_⟩
  have h := h.2
  refine WP.k (wpd_m d) 2 (?_ : ((nI 8) ≤ ((M 22 1 1) : Int32) → WP (wpd d) 0 T_X5_readsFlame Q (43, [zR 16 0, zU, zU], [zI (nI 5)]) M) ∧ (¬ (nI 8) ≤ ((M 22 1 1) : Int32) → WP (wpd d) 0 T_X5_readsFlame Q (34, [zR 16 0, zU, zU], [zI (nI 5)]) M))
  refine ⟨fun z => ?_, fun z => ?_⟩
  · have h := h.1 z
    exact WP.k (wpd_m d) 3 h
  · have h := h.2 z
    refine WP.k (wpd_m d) 4 (?_ : vp_in (nI 1) 45 ∧ WP (wpd d) 0 T_X5_readsFlame Q (40, [zR 16 0, zU, zU], [zI (M 22 1 1), zI (nI 5)]) M)
    refine ⟨h.1, ?_⟩
    have h := h.2
    exact WP.k (wpd_m d) 3 h
theorem cp2_X5_readsFlame_46 {d : Nat} {Q : Option AV → Mem → Prop}  (x1 : Int32) (M : Mem) (h : wpd d 129 [zR 16 0, zI (nI 0), zI (nI 20)] M (fun r1 M1 => gO r1 fun v1 => WP (wpd d) 0 T_X5_readsFlame Q (54, [zR 16 0, zI x1, zI v1], []) M1)) : WP (wpd d) 0 T_X5_readsFlame Q (46, [zR 16 0, zI x1, zU], []) M := by
  refine WP.k (wpd_m d) 4 (?_ : wpd d 129 [zR 16 0, zI (nI 0), zI (nI 20)] M (fun r1 M1 => gO r1 fun v1 => WP (wpd d) 0 T_X5_readsFlame Q (53, [zR 16 0, zI x1, zU], [zI v1]) M1))
  refine wpd_m d _ _ _ _ _ (fun r1 M1 q => gO_m (fun v1 h => ?_) q) h
  exact WP.k (wpd_m d) 1 h
theorem cp2_X5_readsFlame_54 {d : Nat} {Q : Option AV → Mem → Prop}  (x1 : Int32) (x2 : Int32) (M : Mem) (h : ((¬ ((M 16 0 11) : Int32) = (nI 4) → wpd d 128 [zR 16 0, zI (nI 0), zI (nI 1)] M (fun r1 M1 => gO r1 fun v1 => WP (wpd d) 0 T_X5_readsFlame Q (73, [zR 16 0, zI x1, zI x2], []) M1)) ∧ (((M 16 0 11) : Int32) = (nI 4) → wpd d 128 [zR 16 0, zI (nI 1), zI (nI 1)] M (fun r2 M2 => gO r2 fun v2 => WP (wpd d) 0 T_X5_readsFlame Q (73, [zR 16 0, zI x1, zI x2], []) M2)))) : WP (wpd d) 0 T_X5_readsFlame Q (54, [zR 16 0, zI x1, zI x2], []) M := by
  refine WP.k (wpd_m d) 4 (?_ : WP (wpd d) 0 T_X5_readsFlame Q (60, [zR 16 0, zI x1, zI x2], [zI (nI 4), zI (M 16 0 11), zR 16 0]) M)
  refine WP.k (wpd_m d) 1 (?_ : (¬ ((M 16 0 11) : Int32) = (nI 4) → WP (wpd d) 0 T_X5_readsFlame Q (67, [zR 16 0, zI x1, zI x2], [zR 16 0]) M) ∧ (((M 16 0 11) : Int32) = (nI 4) → WP (wpd d) 0 T_X5_readsFlame Q (63, [zR 16 0, zI x1, zI x2], [zR 16 0]) M))
  refine ⟨fun z => ?_, fun z => ?_⟩
  · have h := h.1 z
    refine WP.k (wpd_m d) 3 (?_ : wpd d 128 [zR 16 0, zI (nI 0), zI (nI 1)] M (fun r1 M1 => gO r1 fun v1 => WP (wpd d) 0 T_X5_readsFlame Q (72, [zR 16 0, zI x1, zI x2], [zI v1]) M1))
    refine wpd_m d _ _ _ _ _ (fun r1 M1 q => gO_m (fun v1 h => ?_) q) h
    exact WP.k (wpd_m d) 1 h
  · have h := h.2 z
    refine WP.k (wpd_m d) 4 (?_ : wpd d 128 [zR 16 0, zI (nI 1), zI (nI 1)] M (fun r2 M2 => gO r2 fun v2 => WP (wpd d) 0 T_X5_readsFlame Q (72, [zR 16 0, zI x1, zI x2], [zI v2]) M2))
    refine wpd_m d _ _ _ _ _ (fun r2 M2 q => gO_m (fun v2 h => ?_) q) h
    exact WP.k (wpd_m d) 1 h
theorem cp2_X5_readsFlame_73 {d : Nat} {Q : Option AV → Mem → Prop}  (x1 : Int32) (x2 : Int32) (M : Mem) (h : wpd d 127 [zR 16 0] M (fun r1 M1 => gO r1 fun v1 => (((v1 : Int32) = (nI 0) → Q none M1) ∧ (¬ (v1 : Int32) = (nI 0) → (vp_in x1 45 ∧ (vp_in (nI 1) 45 ∧ (vp_in (nI 1) 45 ∧ Q none (mup (mup M1 22 1 x1.toNatClampNeg x2) 22 1 1 (((mup M1 22 1 x1.toNatClampNeg x2) 22 1 1) + (nI 1)))))))))) : WP (wpd d) 0 T_X5_readsFlame Q (73, [zR 16 0, zI x1, zI x2], []) M := by
  refine WP.k (wpd_m d) 2 (?_ : wpd d 127 [zR 16 0] M (fun r1 M1 => gO r1 fun v1 => WP (wpd d) 0 T_X5_readsFlame Q (77, [zR 16 0, zI x1, zI x2], [zI v1]) M1))
  refine wpd_m d _ _ _ _ _ (fun r1 M1 q => gO_m (fun v1 h => ?_) q) h
  refine WP.k (wpd_m d) 1 (?_ : ((v1 : Int32) = (nI 0) → WP (wpd d) 0 T_X5_readsFlame Q (97, [zR 16 0, zI x1, zI x2], []) M1) ∧ (¬ (v1 : Int32) = (nI 0) → WP (wpd d) 0 T_X5_readsFlame Q (80, [zR 16 0, zI x1, zI x2], []) M1))
  refine ⟨fun z => ?_, fun z => ?_⟩
  · have h := h.1 z
    exact WP.k (wpd_m d) 1 h
  · have h := h.2 z
    refine WP.k (wpd_m d) 4 (?_ : WP (wpd d) 0 T_X5_readsFlame Q (86, [zR 16 0, zI x1, zI x2], [zI x2, zI x1, zR 22 1]) M1)
    refine WP.k (wpd_m d) 1 (?_ : vp_in x1 45 ∧ WP (wpd d) 0 T_X5_readsFlame Q (87, [zR 16 0, zI x1, zI x2], []) (mup M1 22 1 x1.toNatClampNeg x2))
    refine ⟨h.1, ?_⟩
    have h := h.2
    refine WP.k (wpd_m d) 4 (?_ : WP (wpd d) 0 T_X5_readsFlame Q (93, [zR 16 0, zI x1, zI x2], [zI (nI 1), zR 22 1, zI (nI 1), zR 22 1]) (mup M1 22 1 x1.toNatClampNeg x2))
    refine WP.k (wpd_m d) 1 (?_ : vp_in (nI 1) 45 ∧ WP (wpd d) 0 T_X5_readsFlame Q (94, [zR 16 0, zI x1, zI x2], [zI ((mup M1 22 1 x1.toNatClampNeg x2) 22 1 1), zI (nI 1), zR 22 1]) (mup M1 22 1 x1.toNatClampNeg x2))
    refine ⟨h.1, ?_⟩
    have h := h.2
    refine WP.k (wpd_m d) 3 (?_ : vp_in (nI 1) 45 ∧ WP (wpd d) 0 T_X5_readsFlame Q (97, [zR 16 0, zI x1, zI x2], []) (mup (mup M1 22 1 x1.toNatClampNeg x2) 22 1 1 (((mup M1 22 1 x1.toNatClampNeg x2) 22 1 1) + (nI 1))))
    refine ⟨h.1, ?_⟩
    have h := h.2
    exact WP.k (wpd_m d) 1 h
theorem en2_X5_readsSitter {d : Nat} {Q : Option AV → Mem → Prop} (M : Mem) (h : (((nI 5) ≤ ((M 16 0 13) : Int32) → wpd d 128 [zR 16 0, zI (nI 0), zI (nI 3)] M (fun r1 M1 => gO r1 fun v1 => WP (wpd d) 0 T_X5_readsSitter Q (19, [zR 16 0, zU], []) M1)) ∧ (¬ (nI 5) ≤ ((M 16 0 13) : Int32) → wpd d 128 [zR 16 0, zI (nI 1), zI (nI 3)] M (fun r2 M2 => gO r2 fun v2 => WP (wpd d) 0 T_X5_readsSitter Q (19, [zR 16 0, zU], []) M2)))) : wpd (d + 1) 133 [zR 16 0] M Q := by
  show WP (wpd d) 0 T_X5_readsSitter Q (0, [zR 16 0, zU], []) M
  refine WP.k (wpd_m d) 4 (?_ : WP (wpd d) 0 T_X5_readsSitter Q (6, [zR 16 0, zU], [zI (nI 5), zI (M 16 0 13), zR 16 0]) M)
  refine WP.k (wpd_m d) 1 (?_ : ((nI 5) ≤ ((M 16 0 13) : Int32) → WP (wpd d) 0 T_X5_readsSitter Q (13, [zR 16 0, zU], [zR 16 0]) M) ∧ (¬ (nI 5) ≤ ((M 16 0 13) : Int32) → WP (wpd d) 0 T_X5_readsSitter Q (9, [zR 16 0, zU], [zR 16 0]) M))
  refine ⟨fun z => ?_, fun z => ?_⟩
  · have h := h.1 z
    refine WP.k (wpd_m d) 3 (?_ : wpd d 128 [zR 16 0, zI (nI 0), zI (nI 3)] M (fun r1 M1 => gO r1 fun v1 => WP (wpd d) 0 T_X5_readsSitter Q (18, [zR 16 0, zU], [zI v1]) M1))
    refine wpd_m d _ _ _ _ _ (fun r1 M1 q => gO_m (fun v1 h => ?_) q) h
    exact WP.k (wpd_m d) 1 h
  · have h := h.2 z
    refine WP.k (wpd_m d) 4 (?_ : wpd d 128 [zR 16 0, zI (nI 1), zI (nI 3)] M (fun r2 M2 => gO r2 fun v2 => WP (wpd d) 0 T_X5_readsSitter Q (18, [zR 16 0, zU], [zI v2]) M2))
    refine wpd_m d _ _ _ _ _ (fun r2 M2 q => gO_m (fun v2 h => ?_) q) h
    exact WP.k (wpd_m d) 1 h
theorem cp2_X5_readsSitter_19 {d : Nat} {Q : Option AV → Mem → Prop}  (M : Mem) (h : (vp_in (nI 1) 45 ∧ wpd d 129 [zR 16 0, zI (nI 0), zI ((M 22 1 1) - (nI 1))] M (fun r1 M1 => gO r1 fun v1 => WP (wpd d) 0 T_X5_readsSitter Q (33, [zR 16 0, zI v1], []) M1))) : WP (wpd d) 0 T_X5_readsSitter Q (19, [zR 16 0, zU], []) M := by
  refine WP.k (wpd_m d) 4 (?_ : WP (wpd d) 0 T_X5_readsSitter Q (25, [zR 16 0, zU], [zR 22 1, zI (nI 0), zR 16 0]) M)
  refine WP.k (wpd_m d) 2 (?_ : vp_in (nI 1) 45 ∧ WP (wpd d) 0 T_X5_readsSitter Q (27, [zR 16 0, zU], [zI (M 22 1 1), zI (nI 0), zR 16 0]) M)
  refine ⟨h.1, ?_⟩
  have h := h.2
  refine WP.k (wpd_m d) 3 (?_ : wpd d 129 [zR 16 0, zI (nI 0), zI ((M 22 1 1) - (nI 1))] M (fun r1 M1 => gO r1 fun v1 => WP (wpd d) 0 T_X5_readsSitter Q (32, [zR 16 0, zU], [zI v1]) M1))
  refine wpd_m d _ _ _ _ _ (fun r1 M1 q => gO_m (fun v1 h => ?_) q) h
  exact WP.k (wpd_m d) 1 h
theorem cp2_X5_readsSitter_33 {d : Nat} {Q : Option AV → Mem → Prop}  (x1 : Int32) (M : Mem) (h : ((¬ ((M 16 0 11) : Int32) = (nI 4) → wpd d 128 [zR 16 0, zI (nI 0), zI (nI 1)] M (fun r1 M1 => gO r1 fun v1 => WP (wpd d) 0 T_X5_readsSitter Q (52, [zR 16 0, zI x1], []) M1)) ∧ (((M 16 0 11) : Int32) = (nI 4) → wpd d 128 [zR 16 0, zI (nI 1), zI (nI 1)] M (fun r2 M2 => gO r2 fun v2 => WP (wpd d) 0 T_X5_readsSitter Q (52, [zR 16 0, zI x1], []) M2)))) : WP (wpd d) 0 T_X5_readsSitter Q (33, [zR 16 0, zI x1], []) M := by
  refine WP.k (wpd_m d) 4 (?_ : WP (wpd d) 0 T_X5_readsSitter Q (39, [zR 16 0, zI x1], [zI (nI 4), zI (M 16 0 11), zR 16 0]) M)
  refine WP.k (wpd_m d) 1 (?_ : (¬ ((M 16 0 11) : Int32) = (nI 4) → WP (wpd d) 0 T_X5_readsSitter Q (46, [zR 16 0, zI x1], [zR 16 0]) M) ∧ (((M 16 0 11) : Int32) = (nI 4) → WP (wpd d) 0 T_X5_readsSitter Q (42, [zR 16 0, zI x1], [zR 16 0]) M))
  refine ⟨fun z => ?_, fun z => ?_⟩
  · have h := h.1 z
    refine WP.k (wpd_m d) 3 (?_ : wpd d 128 [zR 16 0, zI (nI 0), zI (nI 1)] M (fun r1 M1 => gO r1 fun v1 => WP (wpd d) 0 T_X5_readsSitter Q (51, [zR 16 0, zI x1], [zI v1]) M1))
    refine wpd_m d _ _ _ _ _ (fun r1 M1 q => gO_m (fun v1 h => ?_) q) h
    exact WP.k (wpd_m d) 1 h
  · have h := h.2 z
    refine WP.k (wpd_m d) 4 (?_ : wpd d 128 [zR 16 0, zI (nI 1), zI (nI 1)] M (fun r2 M2 => gO r2 fun v2 => WP (wpd d) 0 T_X5_readsSitter Q (51, [zR 16 0, zI x1], [zI v2]) M2))
    refine wpd_m d _ _ _ _ _ (fun r2 M2 q => gO_m (fun v2 h => ?_) q) h
    exact WP.k (wpd_m d) 1 h
theorem cp2_X5_readsSitter_52 {d : Nat} {Q : Option AV → Mem → Prop}  (x1 : Int32) (M : Mem) (h : wpd d 127 [zR 16 0] M (fun r1 M1 => gO r1 fun v1 => (((v1 : Int32) = (nI 0) → Q none M1) ∧ (¬ (v1 : Int32) = (nI 0) → (vp_in ((nI 13) + x1) 45 ∧ (vp_in ((nI 13) + x1) 45 ∧ Q none (mup (mup M1 22 1 (((nI 13) + x1).toNatClampNeg) ((M1 22 1 (((nI 13) + x1).toNatClampNeg)) + (nI 1))) 16 0 13 ((M1 16 0 13) + (nI 1))))))))) : WP (wpd d) 0 T_X5_readsSitter Q (52, [zR 16 0, zI x1], []) M := by
  refine WP.k (wpd_m d) 2 (?_ : wpd d 127 [zR 16 0] M (fun r1 M1 => gO r1 fun v1 => WP (wpd d) 0 T_X5_readsSitter Q (56, [zR 16 0, zI x1], [zI v1]) M1))
  refine wpd_m d _ _ _ _ _ (fun r1 M1 q => gO_m (fun v1 h => ?_) q) h
  refine WP.k (wpd_m d) 1 (?_ : ((v1 : Int32) = (nI 0) → WP (wpd d) 0 T_X5_readsSitter Q (82, [zR 16 0, zI x1], []) M1) ∧ (¬ (v1 : Int32) = (nI 0) → WP (wpd d) 0 T_X5_readsSitter Q (59, [zR 16 0, zI x1], []) M1))
  refine ⟨fun z => ?_, fun z => ?_⟩
  · have h := h.1 z
    exact WP.k (wpd_m d) 1 h
  · have h := h.2 z
    refine WP.k (wpd_m d) 4 (?_ : WP (wpd d) 0 T_X5_readsSitter Q (66, [zR 16 0, zI x1], [zI x1, zI (nI 13), zR 22 1]) M1)
    refine WP.k (wpd_m d) 3 (?_ : vp_in ((nI 13) + x1) 45 ∧ WP (wpd d) 0 T_X5_readsSitter Q (69, [zR 16 0, zI x1], [zI (M1 22 1 (((nI 13) + x1).toNatClampNeg)), zI ((nI 13) + x1), zR 22 1]) M1)
    refine ⟨h.1, ?_⟩
    have h := h.2
    refine WP.k (wpd_m d) 3 (?_ : vp_in ((nI 13) + x1) 45 ∧ WP (wpd d) 0 T_X5_readsSitter Q (72, [zR 16 0, zI x1], []) (mup M1 22 1 (((nI 13) + x1).toNatClampNeg) ((M1 22 1 (((nI 13) + x1).toNatClampNeg)) + (nI 1))))
    refine ⟨h.1, ?_⟩
    have h := h.2
    refine WP.k (wpd_m d) 4 (?_ : WP (wpd d) 0 T_X5_readsSitter Q (78, [zR 16 0, zI x1], [zI (nI 1), zI (M1 16 0 13), zR 16 0]) (mup M1 22 1 (((nI 13) + x1).toNatClampNeg) ((M1 22 1 (((nI 13) + x1).toNatClampNeg)) + (nI 1))))
    exact WP.k (wpd_m d) 3 h
theorem en2_X5_readsPlayer {d : Nat} {Q : Option AV → Mem → Prop} (M : Mem) (h : wpd d 130 [zI (M 16 0 12)] M (fun r1 M1 => gO r1 fun v1 => WP (wpd d) 0 T_X5_readsPlayer Q (8, [zR 16 0, zI v1, zU, zU, zU], []) M1)) : wpd (d + 1) 134 [zR 16 0] M Q := by
  show WP (wpd d) 0 T_X5_readsPlayer Q (0, [zR 16 0, zU, zU, zU, zU], []) M
  refine WP.k (wpd_m d) 3 (?_ : wpd d 130 [zI (M 16 0 12)] M (fun r1 M1 => gO r1 fun v1 => WP (wpd d) 0 T_X5_readsPlayer Q (7, [zR 16 0, zU, zU, zU, zU], [zI v1]) M1))
  refine wpd_m d _ _ _ _ _ (fun r1 M1 q => gO_m (fun v1 h => ?_) q) h
  exact WP.k (wpd_m d) 1 h
theorem cp2_X5_readsPlayer_8 {d : Nat} {Q : Option AV → Mem → Prop}  (x1 : Int32) (M : Mem) (h : (vp_in (nI 2) 45 ∧ (((nI 6) ≤ ((M 22 1 2) : Int32) → wpd d 128 [zR 16 0, zI (nI 0), zI (nI 3)] M (fun r1 M1 => gO r1 fun v1 => WP (wpd d) 0 T_X5_readsPlayer Q (30, [zR 16 0, zI x1, zU, zU, zU], []) M1)) ∧ (¬ (nI 6) ≤ ((M 22 1 2) : Int32) → wpd d 128 [zR 16 0, zI (nI 1), zI (nI 3)] M (fun r2 M2 => gO r2 fun v2 => WP (wpd d) 0 T_X5_readsPlayer Q (30, [zR 16 0, zI x1, zU, zU, zU], []) M2))))) : WP (wpd d) 0 T_X5_readsPlayer Q (8, [zR 16 0, zI x1, zU, zU, zU], []) M := by
  refine WP.k (wpd_m d) 4 (?_ : WP (wpd d) 0 T_X5_readsPlayer Q (14, [zR 16 0, zI x1, zU, zU, zU], [zI (nI 2), zR 22 1, zR 16 0]) M)
  refine WP.k (wpd_m d) 1 (?_ : vp_in (nI 2) 45 ∧ WP (wpd d) 0 T_X5_readsPlayer Q (15, [zR 16 0, zI x1, zU, zU, zU], [zI (M 22 1 2), zR 16 0]) M)
  refine ⟨h.1, ?_⟩
  have h := h.2
  refine WP.k (wpd_m d) 2 (?_ : ((nI 6) ≤ ((M 22 1 2) : Int32) → WP (wpd d) 0 T_X5_readsPlayer Q (24, [zR 16 0, zI x1, zU, zU, zU], [zR 16 0]) M) ∧ (¬ (nI 6) ≤ ((M 22 1 2) : Int32) → WP (wpd d) 0 T_X5_readsPlayer Q (20, [zR 16 0, zI x1, zU, zU, zU], [zR 16 0]) M))
  refine ⟨fun z => ?_, fun z => ?_⟩
  · have h := h.1 z
    refine WP.k (wpd_m d) 3 (?_ : wpd d 128 [zR 16 0, zI (nI 0), zI (nI 3)] M (fun r1 M1 => gO r1 fun v1 => WP (wpd d) 0 T_X5_readsPlayer Q (29, [zR 16 0, zI x1, zU, zU, zU], [zI v1]) M1))
    refine wpd_m d _ _ _ _ _ (fun r1 M1 q => gO_m (fun v1 h => ?_) q) h
    exact WP.k (wpd_m d) 1 h
  · have h := h.2 z
    refine WP.k (wpd_m d) 4 (?_ : wpd d 128 [zR 16 0, zI (nI 1), zI (nI 3)] M (fun r2 M2 => gO r2 fun v2 => WP (wpd d) 0 T_X5_readsPlayer Q (29, [zR 16 0, zI x1, zU, zU, zU], [zI v2]) M2))
    refine wpd_m d _ _ _ _ _ (fun r2 M2 q => gO_m (fun v2 h => ?_) q) h
    exact WP.k (wpd_m d) 1 h
theorem cp2_X5_readsPlayer_30 {d : Nat} {Q : Option AV → Mem → Prop}  (x1 : Int32) (M : Mem) (h : (vp_in (nI 2) 45 ∧ (((nI 6) ≤ ((M 22 1 2) : Int32) → WP (wpd d) 0 T_X5_readsPlayer Q (57, [zR 16 0, zI x1, zI ((nI 21) + ((nI 4) * (nI 0))), zU, zU], []) M) ∧ (¬ (nI 6) ≤ ((M 22 1 2) : Int32) → (vp_in (nI 2) 45 ∧ WP (wpd d) 0 T_X5_readsPlayer Q (57, [zR 16 0, zI x1, zI ((nI 21) + ((nI 4) * (M 22 1 2))), zU, zU], []) M))))) : WP (wpd d) 0 T_X5_readsPlayer Q (30, [zR 16 0, zI x1, zU, zU, zU], []) M := by
  refine WP.k (wpd_m d) 4 (?_ : WP (wpd d) 0 T_X5_readsPlayer Q (37, [zR 16 0, zI x1, zU, zU, zU], [zR 22 1, zI (nI 4), zI (nI 21)]) M)
  refine WP.k (wpd_m d) 2 (?_ : vp_in (nI 2) 45 ∧ WP (wpd d) 0 T_X5_readsPlayer Q (39, [zR 16 0, zI x1, zU, zU, zU], [zI (M 22 1 2), zI (nI 4), zI (nI 21)]) M)
  refine ⟨h.1, ?_⟩
  have h := h.2
  refine WP.k (wpd_m d) 2 (?_ : ((nI 6) ≤ ((M 22 1 2) : Int32) → WP (wpd d) 0 T_X5_readsPlayer Q (53, [zR 16 0, zI x1, zU, zU, zU], [zI (nI 4), zI (nI 21)]) M) ∧ (¬ (nI 6) ≤ ((M 22 1 2) : Int32) → WP (wpd d) 0 T_X5_readsPlayer Q (44, [zR 16 0, zI x1, zU, zU, zU], [zI (nI 4), zI (nI 21)]) M))
  refine ⟨fun z => ?_, fun z => ?_⟩
  · have h := h.1 z
    exact WP.k (wpd_m d) 4 h
  · have h := h.2 z
    refine WP.k (wpd_m d) 4 (?_ : vp_in (nI 2) 45 ∧ WP (wpd d) 0 T_X5_readsPlayer Q (50, [zR 16 0, zI x1, zU, zU, zU], [zI (M 22 1 2), zI (nI 4), zI (nI 21)]) M)
    refine ⟨h.1, ?_⟩
    have h := h.2
    exact WP.k (wpd_m d) 4 h
theorem cp2_X5_readsPlayer_57 {d : Nat} {Q : Option AV → Mem → Prop}  (x1 : Int32) (x2 : Int32) (M : Mem) (h : (vp_in (nI 1) 45 ∧ wpd d 129 [zR 16 0, zI (nI 0), zI ((M 22 1 1) - (nI 1))] M (fun r1 M1 => gO r1 fun v1 => WP (wpd d) 0 T_X5_readsPlayer Q (71, [zR 16 0, zI x1, zI x2, zI v1, zU], []) M1))) : WP (wpd d) 0 T_X5_readsPlayer Q (57, [zR 16 0, zI x1, zI x2, zU, zU], []) M := by
  refine WP.k (wpd_m d) 4 (?_ : WP (wpd d) 0 T_X5_readsPlayer Q (63, [zR 16 0, zI x1, zI x2, zU, zU], [zR 22 1, zI (nI 0), zR 16 0]) M)
  refine WP.k (wpd_m d) 2 (?_ : vp_in (nI 1) 45 ∧ WP (wpd d) 0 T_X5_readsPlayer Q (65, [zR 16 0, zI x1, zI x2, zU, zU], [zI (M 22 1 1), zI (nI 0), zR 16 0]) M)
  refine ⟨h.1, ?_⟩
  have h := h.2
  refine WP.k (wpd_m d) 3 (?_ : wpd d 129 [zR 16 0, zI (nI 0), zI ((M 22 1 1) - (nI 1))] M (fun r1 M1 => gO r1 fun v1 => WP (wpd d) 0 T_X5_readsPlayer Q (70, [zR 16 0, zI x1, zI x2, zU, zU], [zI v1]) M1))
  refine wpd_m d _ _ _ _ _ (fun r1 M1 q => gO_m (fun v1 h => ?_) q) h
  exact WP.k (wpd_m d) 1 h
theorem cp2_X5_readsPlayer_71 {d : Nat} {Q : Option AV → Mem → Prop}  (x1 : Int32) (x2 : Int32) (x3 : Int32) (M : Mem) (h : wpd d 131 [zR 16 0, zI (nI 0), zI (nI 1)] M (fun r1 M1 => gO r1 fun v1 => WP (wpd d) 0 T_X5_readsPlayer Q (79, [zR 16 0, zI x1, zI x2, zI x3, zI v1], []) M1)) : WP (wpd d) 0 T_X5_readsPlayer Q (71, [zR 16 0, zI x1, zI x2, zI x3, zU], []) M := by
  refine WP.k (wpd_m d) 4 (?_ : wpd d 131 [zR 16 0, zI (nI 0), zI (nI 1)] M (fun r1 M1 => gO r1 fun v1 => WP (wpd d) 0 T_X5_readsPlayer Q (77, [zR 16 0, zI x1, zI x2, zI x3, zU], [zI v1]) M1))
  refine wpd_m d _ _ _ _ _ (fun r1 M1 q => gO_m (fun v1 h => ?_) q) h
  exact WP.k (wpd_m d) 1 h
theorem cp2_X5_readsPlayer_79 {d : Nat} {Q : Option AV → Mem → Prop}  (x1 : Int32) (x2 : Int32) (x3 : Int32) (x4 : Int32) (M : Mem) (h : ((¬ ((M 16 0 11) : Int32) = (nI 4) → wpd d 128 [zR 16 0, zI (nI 0), zI (nI 1)] M (fun r1 M1 => gO r1 fun v1 => WP (wpd d) 0 T_X5_readsPlayer Q (98, [zR 16 0, zI x1, zI x2, zI x3, zI x4], []) M1)) ∧ (((M 16 0 11) : Int32) = (nI 4) → wpd d 128 [zR 16 0, zI (nI 1), zI (nI 1)] M (fun r2 M2 => gO r2 fun v2 => WP (wpd d) 0 T_X5_readsPlayer Q (98, [zR 16 0, zI x1, zI x2, zI x3, zI x4], []) M2)))) : WP (wpd d) 0 T_X5_readsPlayer Q (79, [zR 16 0, zI x1, zI x2, zI x3, zI x4], []) M := by
  refine WP.k (wpd_m d) 4 (?_ : WP (wpd d) 0 T_X5_readsPlayer Q (85, [zR 16 0, zI x1, zI x2, zI x3, zI x4], [zI (nI 4), zI (M 16 0 11), zR 16 0]) M)
  refine WP.k (wpd_m d) 1 (?_ : (¬ ((M 16 0 11) : Int32) = (nI 4) → WP (wpd d) 0 T_X5_readsPlayer Q (92, [zR 16 0, zI x1, zI x2, zI x3, zI x4], [zR 16 0]) M) ∧ (((M 16 0 11) : Int32) = (nI 4) → WP (wpd d) 0 T_X5_readsPlayer Q (88, [zR 16 0, zI x1, zI x2, zI x3, zI x4], [zR 16 0]) M))
  refine ⟨fun z => ?_, fun z => ?_⟩
  · have h := h.1 z
    refine WP.k (wpd_m d) 3 (?_ : wpd d 128 [zR 16 0, zI (nI 0), zI (nI 1)] M (fun r1 M1 => gO r1 fun v1 => WP (wpd d) 0 T_X5_readsPlayer Q (97, [zR 16 0, zI x1, zI x2, zI x3, zI x4], [zI v1]) M1))
    refine wpd_m d _ _ _ _ _ (fun r1 M1 q => gO_m (fun v1 h => ?_) q) h
    exact WP.k (wpd_m d) 1 h
  · have h := h.2 z
    refine WP.k (wpd_m d) 4 (?_ : wpd d 128 [zR 16 0, zI (nI 1), zI (nI 1)] M (fun r2 M2 => gO r2 fun v2 => WP (wpd d) 0 T_X5_readsPlayer Q (97, [zR 16 0, zI x1, zI x2, zI x3, zI x4], [zI v2]) M2))
    refine wpd_m d _ _ _ _ _ (fun r2 M2 q => gO_m (fun v2 h => ?_) q) h
    exact WP.k (wpd_m d) 1 h
theorem cp2_X5_readsPlayer_98 {d : Nat} {Q : Option AV → Mem → Prop}  (x1 : Int32) (x2 : Int32) (x3 : Int32) (x4 : Int32) (M : Mem) (h : wpd d 127 [zR 16 0] M (fun r1 M1 => gO r1 fun v1 => (((v1 : Int32) = (nI 0) → Q none M1) ∧ (¬ (v1 : Int32) = (nI 0) → (vp_in x2 45 ∧ (vp_in (x2 + (nI 1)) 45 ∧ (vp_in (x2 + (nI 2)) 45 ∧ (vp_in (nI 2) 45 ∧ (vp_in (nI 2) 45 ∧ Q none (mup (mup (mup (mup M1 22 1 x2.toNatClampNeg x1) 22 1 ((x2 + (nI 1)).toNatClampNeg) x3) 22 1 ((x2 + (nI 2)).toNatClampNeg) x4) 22 1 2 (((mup (mup (mup M1 22 1 x2.toNatClampNeg x1) 22 1 ((x2 + (nI 1)).toNatClampNeg) x3) 22 1 ((x2 + (nI 2)).toNatClampNeg) x4) 22 1 2) + (nI 1)))))))))))) : WP (wpd d) 0 T_X5_readsPlayer Q (98, [zR 16 0, zI x1, zI x2, zI x3, zI x4], []) M := by
  refine WP.k (wpd_m d) 2 (?_ : wpd d 127 [zR 16 0] M (fun r1 M1 => gO r1 fun v1 => WP (wpd d) 0 T_X5_readsPlayer Q (102, [zR 16 0, zI x1, zI x2, zI x3, zI x4], [zI v1]) M1))
  refine wpd_m d _ _ _ _ _ (fun r1 M1 q => gO_m (fun v1 h => ?_) q) h
  refine WP.k (wpd_m d) 1 (?_ : ((v1 : Int32) = (nI 0) → WP (wpd d) 0 T_X5_readsPlayer Q (141, [zR 16 0, zI x1, zI x2, zI x3, zI x4], []) M1) ∧ (¬ (v1 : Int32) = (nI 0) → WP (wpd d) 0 T_X5_readsPlayer Q (105, [zR 16 0, zI x1, zI x2, zI x3, zI x4], []) M1))
  refine ⟨fun z => ?_, fun z => ?_⟩
  · have h := h.1 z
    exact WP.k (wpd_m d) 1 h
  · have h := h.2 z
    refine WP.k (wpd_m d) 4 (?_ : WP (wpd d) 0 T_X5_readsPlayer Q (111, [zR 16 0, zI x1, zI x2, zI x3, zI x4], [zI x1, zI x2, zR 22 1]) M1)
    refine WP.k (wpd_m d) 1 (?_ : vp_in x2 45 ∧ WP (wpd d) 0 T_X5_readsPlayer Q (112, [zR 16 0, zI x1, zI x2, zI x3, zI x4], []) (mup M1 22 1 x2.toNatClampNeg x1))
    refine ⟨h.1, ?_⟩
    have h := h.2
    refine WP.k (wpd_m d) 4 (?_ : WP (wpd d) 0 T_X5_readsPlayer Q (118, [zR 16 0, zI x1, zI x2, zI x3, zI x4], [zI (nI 1), zI x2, zR 22 1]) (mup M1 22 1 x2.toNatClampNeg x1))
    refine WP.k (wpd_m d) 3 (?_ : vp_in (x2 + (nI 1)) 45 ∧ WP (wpd d) 0 T_X5_readsPlayer Q (121, [zR 16 0, zI x1, zI x2, zI x3, zI x4], []) (mup (mup M1 22 1 x2.toNatClampNeg x1) 22 1 ((x2 + (nI 1)).toNatClampNeg) x3))
    refine ⟨h.1, ?_⟩
    have h := h.2
    refine WP.k (wpd_m d) 4 (?_ : WP (wpd d) 0 T_X5_readsPlayer Q (127, [zR 16 0, zI x1, zI x2, zI x3, zI x4], [zI (nI 2), zI x2, zR 22 1]) (mup (mup M1 22 1 x2.toNatClampNeg x1) 22 1 ((x2 + (nI 1)).toNatClampNeg) x3))
    refine WP.k (wpd_m d) 3 (?_ : vp_in (x2 + (nI 2)) 45 ∧ WP (wpd d) 0 T_X5_readsPlayer Q (131, [zR 16 0, zI x1, zI x2, zI x3, zI x4], []) (mup (mup (mup M1 22 1 x2.toNatClampNeg x1) 22 1 ((x2 + (nI 1)).toNatClampNeg) x3) 22 1 ((x2 + (nI 2)).toNatClampNeg) x4))
    refine ⟨h.1, ?_⟩
    have h := h.2
    refine WP.k (wpd_m d) 4 (?_ : WP (wpd d) 0 T_X5_readsPlayer Q (137, [zR 16 0, zI x1, zI x2, zI x3, zI x4], [zI (nI 2), zR 22 1, zI (nI 2), zR 22 1]) (mup (mup (mup M1 22 1 x2.toNatClampNeg x1) 22 1 ((x2 + (nI 1)).toNatClampNeg) x3) 22 1 ((x2 + (nI 2)).toNatClampNeg) x4))
    refine WP.k (wpd_m d) 1 (?_ : vp_in (nI 2) 45 ∧ WP (wpd d) 0 T_X5_readsPlayer Q (138, [zR 16 0, zI x1, zI x2, zI x3, zI x4], [zI ((mup (mup (mup M1 22 1 x2.toNatClampNeg x1) 22 1 ((x2 + (nI 1)).toNatClampNeg) x3) 22 1 ((x2 + (nI 2)).toNatClampNeg) x4) 22 1 2), zI (nI 2), zR 22 1]) (mup (mup (mup M1 22 1 x2.toNatClampNeg x1) 22 1 ((x2 + (nI 1)).toNatClampNeg) x3) 22 1 ((x2 + (nI 2)).toNatClampNeg) x4))
    refine ⟨h.1, ?_⟩
    have h := h.2
    refine WP.k (wpd_m d) 3 (?_ : vp_in (nI 2) 45 ∧ WP (wpd d) 0 T_X5_readsPlayer Q (141, [zR 16 0, zI x1, zI x2, zI x3, zI x4], []) (mup (mup (mup (mup M1 22 1 x2.toNatClampNeg x1) 22 1 ((x2 + (nI 1)).toNatClampNeg) x3) 22 1 ((x2 + (nI 2)).toNatClampNeg) x4) 22 1 2 (((mup (mup (mup M1 22 1 x2.toNatClampNeg x1) 22 1 ((x2 + (nI 1)).toNatClampNeg) x3) 22 1 ((x2 + (nI 2)).toNatClampNeg) x4) 22 1 2) + (nI 1))))
    refine ⟨h.1, ?_⟩
    have h := h.2
    exact WP.k (wpd_m d) 1 h
theorem en2_X5_town {d : Nat} {Q : Option AV → Mem → Prop} (M : Mem) (h : WP (wpd d) 1 T_X5_town Q (2, [zR 16 0, zI (nI 0)], []) M) : wpd (d + 1) 136 [zR 16 0] M Q := by
  show WP (wpd d) 1 T_X5_town Q (0, [zR 16 0, zU], []) M
  exact WP.k (wpd_m d) 2 h
theorem cp2_X5_town_2 {d : Nat} {Q : Option AV → Mem → Prop}  (x1 : Int32) (M : Mem) (h : (((nI 45) ≤ (x1 : Int32) → wpd d 126 [zR 16 0] (mup (mup (mup M 16 0 9 (nI 0)) 16 0 13 (nI 0)) 16 0 8 (-1)) (fun r1 M1 => gN r1 (WP (wpd d) 1 T_X5_town Q (40, [zR 16 0, zU], []) M1))) ∧ (¬ (nI 45) ≤ (x1 : Int32) → (vp_in x1 45 ∧ WP (wpd d) 1 T_X5_town Q (2, [zR 16 0, zI (x1 + (nI 1))], []) (mup M 22 1 x1.toNatClampNeg (nI 0)))))) : WP (wpd d) 1 T_X5_town Q (2, [zR 16 0, zI x1], []) M := by
  refine WP.k (wpd_m d) 3 (?_ : ((nI 45) ≤ (x1 : Int32) → WP (wpd d) 1 T_X5_town Q (21, [zR 16 0, zI x1], []) M) ∧ (¬ (nI 45) ≤ (x1 : Int32) → WP (wpd d) 1 T_X5_town Q (8, [zR 16 0, zI x1], []) M))
  refine ⟨fun z => ?_, fun z => ?_⟩
  · have h := h.1 z
    refine WP.k (wpd_m d) 4 (?_ : WP (wpd d) 1 T_X5_town Q (27, [zR 16 0, zI x1], [zR 16 0]) (mup M 16 0 9 (nI 0)))
    refine WP.k (wpd_m d) 4 (?_ : WP (wpd d) 1 T_X5_town Q (33, [zR 16 0, zI x1], [zI (-1), zR 16 0]) (mup (mup M 16 0 9 (nI 0)) 16 0 13 (nI 0)))
    refine WP.k (wpd_m d) 3 (?_ : wpd d 126 [zR 16 0] (mup (mup (mup M 16 0 9 (nI 0)) 16 0 13 (nI 0)) 16 0 8 (-1)) (fun r1 M1 => gN r1 (WP (wpd d) 1 T_X5_town Q (40, [zR 16 0, zI x1], []) M1)))
    refine wpd_m d _ _ _ _ _ (fun r1 M1 q => gN_m (fun h => ?_) q) h
    exact WP.k (wpd_m d) 0 (WP.le (wpd_m d) h (clr_le [1] [zR 16 0, zI x1]))
  · have h := h.2 z
    refine WP.k (wpd_m d) 4 (?_ : WP (wpd d) 1 T_X5_town Q (14, [zR 16 0, zI x1], [zI (nI 0), zI x1, zR 22 1]) M)
    refine WP.k (wpd_m d) 1 (?_ : vp_in x1 45 ∧ WP (wpd d) 1 T_X5_town Q (15, [zR 16 0, zI x1], []) (mup M 22 1 x1.toNatClampNeg (nI 0)))
    refine ⟨h.1, ?_⟩
    have h := h.2
    exact WP.k (wpd_m d) 2 h
theorem cp2_X5_town_40 {d : Nat} {Q : Option AV → Mem → Prop}  (M : Mem) (h : ((¬ ((M 16 0 11) : Int32) = (nI 1) → wpd d 128 [zR 16 0, zI (nI 0), zI (nI 1)] M (fun r1 M1 => gO r1 fun v1 => WP (wpd d) 1 T_X5_town Q (68, [zR 16 0, zU], []) M1)) ∧ (((M 16 0 11) : Int32) = (nI 1) → ((¬ ((M 16 0 12) : Int32) = (nI 116) → wpd d 128 [zR 16 0, zI (nI 0), zI (nI 1)] M (fun r2 M2 => gO r2 fun v2 => WP (wpd d) 1 T_X5_town Q (68, [zR 16 0, zU], []) M2)) ∧ (((M 16 0 12) : Int32) = (nI 116) → wpd d 128 [zR 16 0, zI (nI 1), zI (nI 1)] M (fun r3 M3 => gO r3 fun v3 => WP (wpd d) 1 T_X5_town Q (68, [zR 16 0, zU], []) M3)))))) : WP (wpd d) 1 T_X5_town Q (40, [zR 16 0, zU], []) M := by
  refine WP.k (wpd_m d) 4 (?_ : WP (wpd d) 1 T_X5_town Q (46, [zR 16 0, zU], [zI (nI 1), zI (M 16 0 11), zR 16 0]) M)
  refine WP.k (wpd_m d) 1 (?_ : (¬ ((M 16 0 11) : Int32) = (nI 1) → WP (wpd d) 1 T_X5_town Q (62, [zR 16 0, zU], [zR 16 0]) M) ∧ (((M 16 0 11) : Int32) = (nI 1) → WP (wpd d) 1 T_X5_town Q (49, [zR 16 0, zU], [zR 16 0]) M))
  refine ⟨fun z => ?_, fun z => ?_⟩
  · have h := h.1 z
    refine WP.k (wpd_m d) 3 (?_ : wpd d 128 [zR 16 0, zI (nI 0), zI (nI 1)] M (fun r1 M1 => gO r1 fun v1 => WP (wpd d) 1 T_X5_town Q (67, [zR 16 0, zU], [zI v1]) M1))
    refine wpd_m d _ _ _ _ _ (fun r1 M1 q => gO_m (fun v1 h => ?_) q) h
    exact WP.k (wpd_m d) 1 h
  · have h := h.2 z
    refine WP.k (wpd_m d) 4 (?_ : (¬ ((M 16 0 12) : Int32) = (nI 116) → WP (wpd d) 1 T_X5_town Q (62, [zR 16 0, zU], [zR 16 0]) M) ∧ (((M 16 0 12) : Int32) = (nI 116) → WP (wpd d) 1 T_X5_town Q (58, [zR 16 0, zU], [zR 16 0]) M))
    refine ⟨fun z => ?_, fun z => ?_⟩
    · have h := h.1 z
      refine WP.k (wpd_m d) 3 (?_ : wpd d 128 [zR 16 0, zI (nI 0), zI (nI 1)] M (fun r2 M2 => gO r2 fun v2 => WP (wpd d) 1 T_X5_town Q (67, [zR 16 0, zU], [zI v2]) M2))
      refine wpd_m d _ _ _ _ _ (fun r2 M2 q => gO_m (fun v2 h => ?_) q) h
      exact WP.k (wpd_m d) 1 h
    · have h := h.2 z
      refine WP.k (wpd_m d) 4 (?_ : wpd d 128 [zR 16 0, zI (nI 1), zI (nI 1)] M (fun r3 M3 => gO r3 fun v3 => WP (wpd d) 1 T_X5_town Q (67, [zR 16 0, zU], [zI v3]) M3))
      refine wpd_m d _ _ _ _ _ (fun r3 M3 q => gO_m (fun v3 h => ?_) q) h
      exact WP.k (wpd_m d) 1 h
theorem cp2_X5_town_68 {d : Nat} {Q : Option AV → Mem → Prop}  (M : Mem) (h : wpd d 129 [zR 16 0, zI (nI 1), zI (nI 3)] M (fun r1 M1 => gO r1 fun v1 => (vp_in (nI 0) 45 ∧ WP (wpd d) 1 T_X5_town Q (80, [zR 16 0, zU], []) (mup M1 22 1 0 v1)))) : WP (wpd d) 1 T_X5_town Q (68, [zR 16 0, zU], []) M := by
  refine WP.k (wpd_m d) 4 (?_ : WP (wpd d) 1 T_X5_town Q (74, [zR 16 0, zU], [zR 16 0, zI (nI 0), zR 22 1]) M)
  refine WP.k (wpd_m d) 3 (?_ : wpd d 129 [zR 16 0, zI (nI 1), zI (nI 3)] M (fun r1 M1 => gO r1 fun v1 => WP (wpd d) 1 T_X5_town Q (79, [zR 16 0, zU], [zI v1, zI (nI 0), zR 22 1]) M1))
  refine wpd_m d _ _ _ _ _ (fun r1 M1 q => gO_m (fun v1 h => ?_) q) h
  refine WP.k (wpd_m d) 1 (?_ : vp_in (nI 0) 45 ∧ WP (wpd d) 1 T_X5_town Q (80, [zR 16 0, zU], []) (mup M1 22 1 0 v1))
  refine ⟨h.1, ?_⟩
  have h := h.2
  exact h
theorem cp2_X5_town_80 {d : Nat} {Q : Option AV → Mem → Prop}  (M : Mem) (h : ((¬ ((M 16 0 11) : Int32) = (nI 4) → wpd d 128 [zR 16 0, zI (nI 0), zI (nI 1)] M (fun r1 M1 => gO r1 fun v1 => WP (wpd d) 1 T_X5_town Q (99, [zR 16 0, zU], []) M1)) ∧ (((M 16 0 11) : Int32) = (nI 4) → wpd d 128 [zR 16 0, zI (nI 1), zI (nI 1)] M (fun r2 M2 => gO r2 fun v2 => WP (wpd d) 1 T_X5_town Q (99, [zR 16 0, zU], []) M2)))) : WP (wpd d) 1 T_X5_town Q (80, [zR 16 0, zU], []) M := by
  refine WP.k (wpd_m d) 4 (?_ : WP (wpd d) 1 T_X5_town Q (86, [zR 16 0, zU], [zI (nI 4), zI (M 16 0 11), zR 16 0]) M)
  refine WP.k (wpd_m d) 1 (?_ : (¬ ((M 16 0 11) : Int32) = (nI 4) → WP (wpd d) 1 T_X5_town Q (93, [zR 16 0, zU], [zR 16 0]) M) ∧ (((M 16 0 11) : Int32) = (nI 4) → WP (wpd d) 1 T_X5_town Q (89, [zR 16 0, zU], [zR 16 0]) M))
  refine ⟨fun z => ?_, fun z => ?_⟩
  · have h := h.1 z
    refine WP.k (wpd_m d) 3 (?_ : wpd d 128 [zR 16 0, zI (nI 0), zI (nI 1)] M (fun r1 M1 => gO r1 fun v1 => WP (wpd d) 1 T_X5_town Q (98, [zR 16 0, zU], [zI v1]) M1))
    refine wpd_m d _ _ _ _ _ (fun r1 M1 q => gO_m (fun v1 h => ?_) q) h
    exact WP.k (wpd_m d) 1 h
  · have h := h.2 z
    refine WP.k (wpd_m d) 4 (?_ : wpd d 128 [zR 16 0, zI (nI 1), zI (nI 1)] M (fun r2 M2 => gO r2 fun v2 => WP (wpd d) 1 T_X5_town Q (98, [zR 16 0, zU], [zI v2]) M2))
    refine wpd_m d _ _ _ _ _ (fun r2 M2 q => gO_m (fun v2 h => ?_) q) h
    exact WP.k (wpd_m d) 1 h
theorem cp2_X5_town_99 {d : Nat} {Q : Option AV → Mem → Prop}  (M : Mem) (h : wpd d 127 [zR 16 0] M (fun r1 M1 => gO r1 fun v1 => (((v1 : Int32) = (nI 0) → WP (wpd d) 1 T_X5_town Q (130, [zR 16 0, zU], []) M1) ∧ (¬ (v1 : Int32) = (nI 0) → ((¬ ((M1 16 0 11) : Int32) = (nI 1) → WP (wpd d) 1 T_X5_town Q (130, [zR 16 0, zU], []) M1) ∧ (((M1 16 0 11) : Int32) = (nI 1) → ((¬ ((M1 16 0 12) : Int32) = (nI 102) → WP (wpd d) 1 T_X5_town Q (130, [zR 16 0, zU], []) M1) ∧ (((M1 16 0 12) : Int32) = (nI 102) → wpd d 132 [zR 16 0] M1 (fun r2 M2 => gN r2 (WP (wpd d) 1 T_X5_town Q (99, [zR 16 0, zU], []) M2)))))))))) : WP (wpd d) 1 T_X5_town Q (99, [zR 16 0, zU], []) M := by
  refine WP.k (wpd_m d) 2 (?_ : wpd d 127 [zR 16 0] M (fun r1 M1 => gO r1 fun v1 => WP (wpd d) 1 T_X5_town Q (103, [zR 16 0, zU], [zI v1]) M1))
  refine wpd_m d _ _ _ _ _ (fun r1 M1 q => gO_m (fun v1 h => ?_) q) h
  refine WP.k (wpd_m d) 1 (?_ : ((v1 : Int32) = (nI 0) → WP (wpd d) 1 T_X5_town Q (130, [zR 16 0, zU], []) M1) ∧ (¬ (v1 : Int32) = (nI 0) → WP (wpd d) 1 T_X5_town Q (106, [zR 16 0, zU], []) M1))
  refine ⟨fun z => ?_, fun z => ?_⟩
  · have h := h.1 z
    exact h
  · have h := h.2 z
    refine WP.k (wpd_m d) 4 (?_ : (¬ ((M1 16 0 11) : Int32) = (nI 1) → WP (wpd d) 1 T_X5_town Q (130, [zR 16 0, zU], []) M1) ∧ (((M1 16 0 11) : Int32) = (nI 1) → WP (wpd d) 1 T_X5_town Q (114, [zR 16 0, zU], []) M1))
    refine ⟨fun z => ?_, fun z => ?_⟩
    · have h := h.1 z
      exact h
    · have h := h.2 z
      refine WP.k (wpd_m d) 4 (?_ : (¬ ((M1 16 0 12) : Int32) = (nI 102) → WP (wpd d) 1 T_X5_town Q (130, [zR 16 0, zU], []) M1) ∧ (((M1 16 0 12) : Int32) = (nI 102) → WP (wpd d) 1 T_X5_town Q (123, [zR 16 0, zU], []) M1))
      refine ⟨fun z => ?_, fun z => ?_⟩
      · have h := h.1 z
        exact h
      · have h := h.2 z
        refine WP.k (wpd_m d) 2 (?_ : wpd d 132 [zR 16 0] M1 (fun r2 M2 => gN r2 (WP (wpd d) 1 T_X5_town Q (127, [zR 16 0, zU], []) M2)))
        refine wpd_m d _ _ _ _ _ (fun r2 M2 q => gN_m (fun h => ?_) q) h
        exact WP.k (wpd_m d) 1 h
theorem cp2_X5_town_130 {d : Nat} {Q : Option AV → Mem → Prop}  (M : Mem) (h : (vp_in (nI 1) 45 ∧ ((((M 22 1 1) : Int32) ≤ (nI 3) → wpd d 135 [zR 16 0, zI (nI 0)] M (fun r1 M1 => gN r1 (WP (wpd d) 1 T_X5_town Q (149, [zR 16 0, zU], []) M1))) ∧ (¬ ((M 22 1 1) : Int32) ≤ (nI 3) → wpd d 135 [zR 16 0, zI (nI 1)] M (fun r2 M2 => gN r2 (WP (wpd d) 1 T_X5_town Q (149, [zR 16 0, zU], []) M2)))))) : WP (wpd d) 1 T_X5_town Q (130, [zR 16 0, zU], []) M := by
  refine WP.k (wpd_m d) 4 (?_ : WP (wpd d) 1 T_X5_town Q (136, [zR 16 0, zU], [zI (nI 1), zR 22 1, zR 16 0]) M)
  refine WP.k (wpd_m d) 1 (?_ : vp_in (nI 1) 45 ∧ WP (wpd d) 1 T_X5_town Q (137, [zR 16 0, zU], [zI (M 22 1 1), zR 16 0]) M)
  refine ⟨h.1, ?_⟩
  have h := h.2
  refine WP.k (wpd_m d) 2 (?_ : (((M 22 1 1) : Int32) ≤ (nI 3) → WP (wpd d) 1 T_X5_town Q (145, [zR 16 0, zU], [zR 16 0]) M) ∧ (¬ ((M 22 1 1) : Int32) ≤ (nI 3) → WP (wpd d) 1 T_X5_town Q (141, [zR 16 0, zU], [zR 16 0]) M))
  refine ⟨fun z => ?_, fun z => ?_⟩
  · have h := h.1 z
    refine WP.k (wpd_m d) 2 (?_ : wpd d 135 [zR 16 0, zI (nI 0)] M (fun r1 M1 => gN r1 (WP (wpd d) 1 T_X5_town Q (149, [zR 16 0, zU], []) M1)))
    refine wpd_m d _ _ _ _ _ (fun r1 M1 q => gN_m (fun h => ?_) q) h
    exact h
  · have h := h.2 z
    refine WP.k (wpd_m d) 3 (?_ : wpd d 135 [zR 16 0, zI (nI 1)] M (fun r2 M2 => gN r2 (WP (wpd d) 1 T_X5_town Q (149, [zR 16 0, zU], []) M2)))
    refine wpd_m d _ _ _ _ _ (fun r2 M2 q => gN_m (fun h => ?_) q) h
    exact h
theorem cp2_X5_town_149 {d : Nat} {Q : Option AV → Mem → Prop}  (M : Mem) (h : wpd d 127 [zR 16 0] M (fun r1 M1 => gO r1 fun v1 => (((v1 : Int32) = (nI 0) → WP (wpd d) 1 T_X5_town Q (180, [zR 16 0, zU], []) M1) ∧ (¬ (v1 : Int32) = (nI 0) → ((¬ ((M1 16 0 11) : Int32) = (nI 1) → WP (wpd d) 1 T_X5_town Q (180, [zR 16 0, zU], []) M1) ∧ (((M1 16 0 11) : Int32) = (nI 1) → ((¬ ((M1 16 0 12) : Int32) = (nI 122) → WP (wpd d) 1 T_X5_town Q (180, [zR 16 0, zU], []) M1) ∧ (((M1 16 0 12) : Int32) = (nI 122) → wpd d 133 [zR 16 0] M1 (fun r2 M2 => gN r2 (WP (wpd d) 1 T_X5_town Q (149, [zR 16 0, zU], []) M2)))))))))) : WP (wpd d) 1 T_X5_town Q (149, [zR 16 0, zU], []) M := by
  refine WP.k (wpd_m d) 2 (?_ : wpd d 127 [zR 16 0] M (fun r1 M1 => gO r1 fun v1 => WP (wpd d) 1 T_X5_town Q (153, [zR 16 0, zU], [zI v1]) M1))
  refine wpd_m d _ _ _ _ _ (fun r1 M1 q => gO_m (fun v1 h => ?_) q) h
  refine WP.k (wpd_m d) 1 (?_ : ((v1 : Int32) = (nI 0) → WP (wpd d) 1 T_X5_town Q (180, [zR 16 0, zU], []) M1) ∧ (¬ (v1 : Int32) = (nI 0) → WP (wpd d) 1 T_X5_town Q (156, [zR 16 0, zU], []) M1))
  refine ⟨fun z => ?_, fun z => ?_⟩
  · have h := h.1 z
    exact h
  · have h := h.2 z
    refine WP.k (wpd_m d) 4 (?_ : (¬ ((M1 16 0 11) : Int32) = (nI 1) → WP (wpd d) 1 T_X5_town Q (180, [zR 16 0, zU], []) M1) ∧ (((M1 16 0 11) : Int32) = (nI 1) → WP (wpd d) 1 T_X5_town Q (164, [zR 16 0, zU], []) M1))
    refine ⟨fun z => ?_, fun z => ?_⟩
    · have h := h.1 z
      exact h
    · have h := h.2 z
      refine WP.k (wpd_m d) 4 (?_ : (¬ ((M1 16 0 12) : Int32) = (nI 122) → WP (wpd d) 1 T_X5_town Q (180, [zR 16 0, zU], []) M1) ∧ (((M1 16 0 12) : Int32) = (nI 122) → WP (wpd d) 1 T_X5_town Q (173, [zR 16 0, zU], []) M1))
      refine ⟨fun z => ?_, fun z => ?_⟩
      · have h := h.1 z
        exact h
      · have h := h.2 z
        refine WP.k (wpd_m d) 2 (?_ : wpd d 133 [zR 16 0] M1 (fun r2 M2 => gN r2 (WP (wpd d) 1 T_X5_town Q (177, [zR 16 0, zU], []) M2)))
        refine wpd_m d _ _ _ _ _ (fun r2 M2 q => gN_m (fun h => ?_) q) h
        exact WP.k (wpd_m d) 1 h
theorem cp2_X5_town_180 {d : Nat} {Q : Option AV → Mem → Prop}  (M : Mem) (h : wpd d 127 [zR 16 0] M (fun r1 M1 => gO r1 fun v1 => (((v1 : Int32) = (nI 0) → WP (wpd d) 1 T_X5_town Q (212, [zR 16 0, zU], []) M1) ∧ (¬ (v1 : Int32) = (nI 0) → ((¬ ((M1 16 0 11) : Int32) = (nI 1) → WP (wpd d) 1 T_X5_town Q (212, [zR 16 0, zU], []) M1) ∧ (((M1 16 0 11) : Int32) = (nI 1) → wpd d 130 [zI (M1 16 0 12)] M1 (fun r2 M2 => gO r2 fun v2 => (((v2 : Int32) ≤ (nI 0) → WP (wpd d) 1 T_X5_town Q (212, [zR 16 0, zU], []) M2) ∧ (¬ (v2 : Int32) ≤ (nI 0) → wpd d 134 [zR 16 0] M2 (fun r3 M3 => gN r3 (WP (wpd d) 1 T_X5_town Q (180, [zR 16 0, zU], []) M3))))))))))) : WP (wpd d) 1 T_X5_town Q (180, [zR 16 0, zU], []) M := by
  refine WP.k (wpd_m d) 2 (?_ : wpd d 127 [zR 16 0] M (fun r1 M1 => gO r1 fun v1 => WP (wpd d) 1 T_X5_town Q (184, [zR 16 0, zU], [zI v1]) M1))
  refine wpd_m d _ _ _ _ _ (fun r1 M1 q => gO_m (fun v1 h => ?_) q) h
  refine WP.k (wpd_m d) 1 (?_ : ((v1 : Int32) = (nI 0) → WP (wpd d) 1 T_X5_town Q (212, [zR 16 0, zU], []) M1) ∧ (¬ (v1 : Int32) = (nI 0) → WP (wpd d) 1 T_X5_town Q (187, [zR 16 0, zU], []) M1))
  refine ⟨fun z => ?_, fun z => ?_⟩
  · have h := h.1 z
    exact h
  · have h := h.2 z
    refine WP.k (wpd_m d) 4 (?_ : (¬ ((M1 16 0 11) : Int32) = (nI 1) → WP (wpd d) 1 T_X5_town Q (212, [zR 16 0, zU], []) M1) ∧ (((M1 16 0 11) : Int32) = (nI 1) → WP (wpd d) 1 T_X5_town Q (195, [zR 16 0, zU], []) M1))
    refine ⟨fun z => ?_, fun z => ?_⟩
    · have h := h.1 z
      exact h
    · have h := h.2 z
      refine WP.k (wpd_m d) 3 (?_ : wpd d 130 [zI (M1 16 0 12)] M1 (fun r2 M2 => gO r2 fun v2 => WP (wpd d) 1 T_X5_town Q (202, [zR 16 0, zU], [zI v2]) M2))
      refine wpd_m d _ _ _ _ _ (fun r2 M2 q => gO_m (fun v2 h => ?_) q) h
      refine WP.k (wpd_m d) 1 (?_ : ((v2 : Int32) ≤ (nI 0) → WP (wpd d) 1 T_X5_town Q (212, [zR 16 0, zU], []) M2) ∧ (¬ (v2 : Int32) ≤ (nI 0) → WP (wpd d) 1 T_X5_town Q (205, [zR 16 0, zU], []) M2))
      refine ⟨fun z => ?_, fun z => ?_⟩
      · have h := h.1 z
        exact h
      · have h := h.2 z
        refine WP.k (wpd_m d) 2 (?_ : wpd d 134 [zR 16 0] M2 (fun r3 M3 => gN r3 (WP (wpd d) 1 T_X5_town Q (209, [zR 16 0, zU], []) M3)))
        refine wpd_m d _ _ _ _ _ (fun r3 M3 q => gN_m (fun h => ?_) q) h
        exact WP.k (wpd_m d) 1 h
theorem cp2_X5_town_212 {d : Nat} {Q : Option AV → Mem → Prop}  (M : Mem) (h : ((¬ ((M 16 0 11) : Int32) = (nI 0) → wpd d 135 [zR 16 0, zI (nI 0)] M (fun r1 M1 => gN r1 (WP (wpd d) 1 T_X5_town Q (228, [zR 16 0, zU], []) M1))) ∧ (((M 16 0 11) : Int32) = (nI 0) → wpd d 135 [zR 16 0, zI (nI 1)] M (fun r2 M2 => gN r2 (WP (wpd d) 1 T_X5_town Q (228, [zR 16 0, zU], []) M2))))) : WP (wpd d) 1 T_X5_town Q (212, [zR 16 0, zU], []) M := by
  refine WP.k (wpd_m d) 4 (?_ : (¬ ((M 16 0 11) : Int32) = (nI 0) → WP (wpd d) 1 T_X5_town Q (224, [zR 16 0, zU], [zR 16 0]) M) ∧ (((M 16 0 11) : Int32) = (nI 0) → WP (wpd d) 1 T_X5_town Q (220, [zR 16 0, zU], [zR 16 0]) M))
  refine ⟨fun z => ?_, fun z => ?_⟩
  · have h := h.1 z
    refine WP.k (wpd_m d) 2 (?_ : wpd d 135 [zR 16 0, zI (nI 0)] M (fun r1 M1 => gN r1 (WP (wpd d) 1 T_X5_town Q (228, [zR 16 0, zU], []) M1)))
    refine wpd_m d _ _ _ _ _ (fun r1 M1 q => gN_m (fun h => ?_) q) h
    exact h
  · have h := h.2 z
    refine WP.k (wpd_m d) 3 (?_ : wpd d 135 [zR 16 0, zI (nI 1)] M (fun r2 M2 => gN r2 (WP (wpd d) 1 T_X5_town Q (228, [zR 16 0, zU], []) M2)))
    refine wpd_m d _ _ _ _ _ (fun r2 M2 q => gN_m (fun h => ?_) q) h
    exact h
theorem cp2_X5_town_228 {d : Nat} {Q : Option AV → Mem → Prop}  (M : Mem) (h : wpd d 127 [zR 16 0] (mup M 16 0 6 (nI 0)) (fun r1 M1 => gO r1 fun v1 => ((¬ (v1 : Int32) = (nI 0) → wpd d 115 [zR 22 1, zI (nI 0), zR 22 0, zI (nI 0)] M1 (fun r2 M2 => gN r2 ((vp_in (nI 1) 45 ∧ Q (some (zI (M2 22 0 1))) (mup M2 16 0 18 (nI 0)))))) ∧ ((v1 : Int32) = (nI 0) → Q (some (zI ((-1000100) - (M1 16 0 8)))) M1)))) : WP (wpd d) 1 T_X5_town Q (228, [zR 16 0, zU], []) M := by
  refine WP.k (wpd_m d) 4 (?_ : WP (wpd d) 1 T_X5_town Q (234, [zR 16 0, zU], [zR 16 0]) (mup M 16 0 6 (nI 0)))
  refine WP.k (wpd_m d) 1 (?_ : wpd d 127 [zR 16 0] (mup M 16 0 6 (nI 0)) (fun r1 M1 => gO r1 fun v1 => WP (wpd d) 1 T_X5_town Q (237, [zR 16 0, zU], [zI v1]) M1))
  refine wpd_m d _ _ _ _ _ (fun r1 M1 q => gO_m (fun v1 h => ?_) q) h
  refine WP.k (wpd_m d) 1 (?_ : (¬ (v1 : Int32) = (nI 0) → WP (wpd d) 1 T_X5_town Q (248, [zR 16 0, zU], []) M1) ∧ ((v1 : Int32) = (nI 0) → WP (wpd d) 1 T_X5_town Q (240, [zR 16 0, zU], []) M1))
  refine ⟨fun z => ?_, fun z => ?_⟩
  · have h := h.1 z
    refine WP.k (wpd_m d) 4 (?_ : WP (wpd d) 1 T_X5_town Q (254, [zR 16 0, zU], [zR 16 0, zI (nI 0), zR 22 1]) M1)
    refine WP.k (wpd_m d) 3 (?_ : wpd d 115 [zR 22 1, zI (nI 0), zR 22 0, zI (nI 0)] M1 (fun r2 M2 => gN r2 (WP (wpd d) 1 T_X5_town Q (261, [zR 16 0, zU], []) M2)))
    refine wpd_m d _ _ _ _ _ (fun r2 M2 q => gN_m (fun h => ?_) q) h
    refine WP.k (wpd_m d) 4 (?_ : WP (wpd d) 1 T_X5_town Q (267, [zR 16 0, zU], [zR 16 0]) (mup M2 16 0 18 (nI 0)))
    refine WP.k (wpd_m d) 3 (?_ : vp_in (nI 1) 45 ∧ WP (wpd d) 1 T_X5_town Q (272, [zR 16 0, zU], [zI (M2 22 0 1)]) (mup M2 16 0 18 (nI 0)))
    refine ⟨h.1, ?_⟩
    have h := h.2
    exact WP.k (wpd_m d) 1 h
  · have h := h.2 z
    refine WP.k (wpd_m d) 4 (?_ : WP (wpd d) 1 T_X5_town Q (247, [zR 16 0, zU], [zI ((-1000100) - (M1 16 0 8))]) M1)
    exact WP.k (wpd_m d) 1 h
theorem en2_X2_readNumber {d : Nat} {Q : Option AV → Mem → Prop} (p1 : Int32) (p2 : Int32) (M : Mem) (h : WP (wpd d) 1 T_X2_readNumber Q (11, [zR 4 0, zI p1, zI p2, zI (nI 0), zI (nI 0), zI (M 4 0 4)], []) M) : wpd (d + 1) 21 [zR 4 0, zI p1, zI p2] M Q := by
  show WP (wpd d) 1 T_X2_readNumber Q (0, [zR 4 0, zI p1, zI p2, zU, zU, zU], []) M
  refine WP.k (wpd_m d) 4 (?_ : WP (wpd d) 1 T_X2_readNumber Q (5, [zR 4 0, zI p1, zI p2, zI (nI 0), zI (nI 0), zU], []) M)
  exact WP.k (wpd_m d) 3 h
theorem cp2_X2_readNumber_11 {d : Nat} {Q : Option AV → Mem → Prop}  (x1 : Int32) (x2 : Int32) (x3 : Int32) (x4 : Int32) (x5 : Int32) (M : Mem) (h : (((M 4 0 1) ≤ (x5 : Int32) → WP (wpd d) 1 T_X2_readNumber Q (65, [zR 4 0, zI x1, zI x2, zI x3, zI x4, zU], []) M) ∧ (¬ (M 4 0 1) ≤ (x5 : Int32) → (((nI 3) ≤ (x3 : Int32) → WP (wpd d) 1 T_X2_readNumber Q (65, [zR 4 0, zI x1, zI x2, zI x3, zI x4, zU], []) M) ∧ (¬ (nI 3) ≤ (x3 : Int32) → (vp_in x5 90 ∧ wpd d 22 [zI (M 5 0 x5.toNatClampNeg)] M (fun r1 M1 => gO r1 fun v1 => (((v1 : Int32) = (nI 0) → WP (wpd d) 1 T_X2_readNumber Q (65, [zR 4 0, zI x1, zI x2, zI x3, zI x4, zU], []) M1) ∧ (¬ (v1 : Int32) = (nI 0) → (vp_in x5 90 ∧ WP (wpd d) 1 T_X2_readNumber Q (11, [zR 4 0, zI x1, zI x2, zI (x3 + (nI 1)), zI (((x4 * (nI 10)) + (M1 5 0 x5.toNatClampNeg)) - (nI 48)), zI (x5 + (nI 1))], []) M1)))))))))) : WP (wpd d) 1 T_X2_readNumber Q (11, [zR 4 0, zI x1, zI x2, zI x3, zI x4, zI x5], []) M := by
  refine WP.k (wpd_m d) 4 (?_ : ((M 4 0 1) ≤ (x5 : Int32) → WP (wpd d) 1 T_X2_readNumber Q (65, [zR 4 0, zI x1, zI x2, zI x3, zI x4, zI x5], []) M) ∧ (¬ (M 4 0 1) ≤ (x5 : Int32) → WP (wpd d) 1 T_X2_readNumber Q (20, [zR 4 0, zI x1, zI x2, zI x3, zI x4, zI x5], []) M))
  refine ⟨fun z => ?_, fun z => ?_⟩
  · have h := h.1 z
    exact WP.k (wpd_m d) 0 (WP.le (wpd_m d) h (clr_le [5] [zR 4 0, zI x1, zI x2, zI x3, zI x4, zI x5]))
  · have h := h.2 z
    refine WP.k (wpd_m d) 3 (?_ : ((nI 3) ≤ (x3 : Int32) → WP (wpd d) 1 T_X2_readNumber Q (65, [zR 4 0, zI x1, zI x2, zI x3, zI x4, zI x5], []) M) ∧ (¬ (nI 3) ≤ (x3 : Int32) → WP (wpd d) 1 T_X2_readNumber Q (25, [zR 4 0, zI x1, zI x2, zI x3, zI x4, zI x5], []) M))
    refine ⟨fun z => ?_, fun z => ?_⟩
    · have h := h.1 z
      exact WP.k (wpd_m d) 0 (WP.le (wpd_m d) h (clr_le [5] [zR 4 0, zI x1, zI x2, zI x3, zI x4, zI x5]))
    · have h := h.2 z
      refine WP.k (wpd_m d) 4 (?_ : vp_in x5 90 ∧ WP (wpd d) 1 T_X2_readNumber Q (32, [zR 4 0, zI x1, zI x2, zI x3, zI x4, zI x5], [zI (M 5 0 x5.toNatClampNeg)]) M)
      refine ⟨h.1, ?_⟩
      have h := h.2
      refine WP.k (wpd_m d) 1 (?_ : wpd d 22 [zI (M 5 0 x5.toNatClampNeg)] M (fun r1 M1 => gO r1 fun v1 => WP (wpd d) 1 T_X2_readNumber Q (35, [zR 4 0, zI x1, zI x2, zI x3, zI x4, zI x5], [zI v1]) M1))
      refine wpd_m d _ _ _ _ _ (fun r1 M1 q => gO_m (fun v1 h => ?_) q) h
      refine WP.k (wpd_m d) 1 (?_ : ((v1 : Int32) = (nI 0) → WP (wpd d) 1 T_X2_readNumber Q (65, [zR 4 0, zI x1, zI x2, zI x3, zI x4, zI x5], []) M1) ∧ (¬ (v1 : Int32) = (nI 0) → WP (wpd d) 1 T_X2_readNumber Q (38, [zR 4 0, zI x1, zI x2, zI x3, zI x4, zI x5], []) M1))
      refine ⟨fun z => ?_, fun z => ?_⟩
      · have h := h.1 z
        exact WP.k (wpd_m d) 0 (WP.le (wpd_m d) h (clr_le [5] [zR 4 0, zI x1, zI x2, zI x3, zI x4, zI x5]))
      · have h := h.2 z
        refine WP.k (wpd_m d) 4 (?_ : WP (wpd d) 1 T_X2_readNumber Q (44, [zR 4 0, zI x1, zI x2, zI x3, zI x4, zI x5], [zR 4 0, zI (x4 * (nI 10))]) M1)
        refine WP.k (wpd_m d) 3 (?_ : vp_in x5 90 ∧ WP (wpd d) 1 T_X2_readNumber Q (50, [zR 4 0, zI x1, zI x2, zI x3, zI x4, zI x5], [zI (M1 5 0 x5.toNatClampNeg), zI (x4 * (nI 10))]) M1)
        refine ⟨h.1, ?_⟩
        have h := h.2
        refine WP.k (wpd_m d) 4 (?_ : WP (wpd d) 1 T_X2_readNumber Q (56, [zR 4 0, zI x1, zI x2, zI x3, zI (((x4 * (nI 10)) + (M1 5 0 x5.toNatClampNeg)) - (nI 48)), zI x5], []) M1)
        exact WP.k (wpd_m d) 3 h
theorem cp2_X2_readNumber_65 {d : Nat} {Q : Option AV → Mem → Prop}  (x1 : Int32) (x2 : Int32) (x3 : Int32) (x4 : Int32) (M : Mem) (h : (((x3 : Int32) = (nI 0) → wpd d 23 [zR 4 0, zI (nI 1)] M (fun r1 M1 => gO r1 fun v1 => Q (some (zI (-1))) M1)) ∧ (¬ (x3 : Int32) = (nI 0) → (((x3 : Int32) ≤ (nI 2) → (((x4 : Int32) < x1 → wpd d 23 [zR 4 0, zI (nI 2)] M (fun r2 M2 => gO r2 fun v2 => Q (some (zI (-1))) M2)) ∧ (¬ (x4 : Int32) < x1 → (((x4 : Int32) ≤ x2 → Q (some (zI x4)) (mup M 4 0 4 ((M 4 0 4) + x3))) ∧ (¬ (x4 : Int32) ≤ x2 → wpd d 23 [zR 4 0, zI (nI 2)] M (fun r3 M3 => gO r3 fun v3 => Q (some (zI (-1))) M3)))))) ∧ (¬ (x3 : Int32) ≤ (nI 2) → wpd d 23 [zR 4 0, zI (nI 1)] M (fun r4 M4 => gO r4 fun v4 => Q (some (zI (-1))) M4)))))) : WP (wpd d) 1 T_X2_readNumber Q (65, [zR 4 0, zI x1, zI x2, zI x3, zI x4, zU], []) M := by
  refine WP.k (wpd_m d) 2 (?_ : ((x3 : Int32) = (nI 0) → WP (wpd d) 1 T_X2_readNumber Q (74, [zR 4 0, zI x1, zI x2, zI x3, zI x4, zU], []) M) ∧ (¬ (x3 : Int32) = (nI 0) → WP (wpd d) 1 T_X2_readNumber Q (69, [zR 4 0, zI x1, zI x2, zI x3, zI x4, zU], []) M))
  refine ⟨fun z => ?_, fun z => ?_⟩
  · have h := h.1 z
    refine WP.k (wpd_m d) 3 (?_ : wpd d 23 [zR 4 0, zI (nI 1)] M (fun r1 M1 => gO r1 fun v1 => WP (wpd d) 1 T_X2_readNumber Q (79, [zR 4 0, zI x1, zI x2, zI x3, zI x4, zU], [zI v1]) M1))
    refine wpd_m d _ _ _ _ _ (fun r1 M1 q => gO_m (fun v1 h => ?_) q) h
    exact WP.k (wpd_m d) 3 h
  · have h := h.2 z
    refine WP.k (wpd_m d) 3 (?_ : ((x3 : Int32) ≤ (nI 2) → WP (wpd d) 1 T_X2_readNumber Q (82, [zR 4 0, zI x1, zI x2, zI x3, zI x4, zU], []) M) ∧ (¬ (x3 : Int32) ≤ (nI 2) → WP (wpd d) 1 T_X2_readNumber Q (74, [zR 4 0, zI x1, zI x2, zI x3, zI x4, zU], []) M))
    refine ⟨fun z => ?_, fun z => ?_⟩
    · have h := h.1 z
      refine WP.k (wpd_m d) 3 (?_ : ((x4 : Int32) < x1 → WP (wpd d) 1 T_X2_readNumber Q (94, [zR 4 0, zI x1, zI x2, zI x3, zI x4, zU], []) M) ∧ (¬ (x4 : Int32) < x1 → WP (wpd d) 1 T_X2_readNumber Q (88, [zR 4 0, zI x1, zI x2, zI x3, zI x4, zU], []) M))
      refine ⟨fun z => ?_, fun z => ?_⟩
      · have h := h.1 z
        refine WP.k (wpd_m d) 3 (?_ : wpd d 23 [zR 4 0, zI (nI 2)] M (fun r2 M2 => gO r2 fun v2 => WP (wpd d) 1 T_X2_readNumber Q (99, [zR 4 0, zI x1, zI x2, zI x3, zI x4, zU], [zI v2]) M2))
        refine wpd_m d _ _ _ _ _ (fun r2 M2 q => gO_m (fun v2 h => ?_) q) h
        exact WP.k (wpd_m d) 3 h
      · have h := h.2 z
        refine WP.k (wpd_m d) 3 (?_ : ((x4 : Int32) ≤ x2 → WP (wpd d) 1 T_X2_readNumber Q (102, [zR 4 0, zI x1, zI x2, zI x3, zI x4, zU], []) M) ∧ (¬ (x4 : Int32) ≤ x2 → WP (wpd d) 1 T_X2_readNumber Q (94, [zR 4 0, zI x1, zI x2, zI x3, zI x4, zU], []) M))
        refine ⟨fun z => ?_, fun z => ?_⟩
        · have h := h.1 z
          refine WP.k (wpd_m d) 4 (?_ : WP (wpd d) 1 T_X2_readNumber Q (108, [zR 4 0, zI x1, zI x2, zI x3, zI x4, zU], [zI x3, zI (M 4 0 4), zR 4 0]) M)
          exact WP.k (wpd_m d) 4 h
        · have h := h.2 z
          refine WP.k (wpd_m d) 3 (?_ : wpd d 23 [zR 4 0, zI (nI 2)] M (fun r3 M3 => gO r3 fun v3 => WP (wpd d) 1 T_X2_readNumber Q (99, [zR 4 0, zI x1, zI x2, zI x3, zI x4, zU], [zI v3]) M3))
          refine wpd_m d _ _ _ _ _ (fun r3 M3 q => gO_m (fun v3 h => ?_) q) h
          exact WP.k (wpd_m d) 3 h
    · have h := h.2 z
      refine WP.k (wpd_m d) 3 (?_ : wpd d 23 [zR 4 0, zI (nI 1)] M (fun r4 M4 => gO r4 fun v4 => WP (wpd d) 1 T_X2_readNumber Q (79, [zR 4 0, zI x1, zI x2, zI x3, zI x4, zU], [zI v4]) M4))
      refine wpd_m d _ _ _ _ _ (fun r4 M4 q => gO_m (fun v4 h => ?_) q) h
      exact WP.k (wpd_m d) 3 h
theorem en2_X2_readFlame {d : Nat} {Q : Option AV → Mem → Prop} (u : Nat) (M : Mem) (h : wpd d 19 [zR 4 0, zI (nI 102)] M (fun r1 M1 => gO r1 fun v1 => (((v1 : Int32) = (nI 0) → WP (wpd d) 2 T_X2_readFlame Q (24, [zR 4 0, zR 6 u, zU], []) M1) ∧ (¬ (v1 : Int32) = (nI 0) → ((¬ ((M1 6 u 5) : Int32) = (nI 8) → WP (wpd d) 2 T_X2_readFlame Q (24, [zR 4 0, zR 6 u, zU], []) M1) ∧ (((M1 6 u 5) : Int32) = (nI 8) → wpd d 23 [zR 4 0, zI (nI 3)] M1 (fun r2 M2 => gO r2 fun v2 => (((v2 : Int32) = 0 ∨ (v2 : Int32) = 1) ∧ Q (some (zI v2)) M2)))))))) : wpd (d + 1) 14 [zR 4 0, zR 6 u] M Q := by
  show WP (wpd d) 2 T_X2_readFlame Q (0, [zR 4 0, zR 6 u, zU], []) M
  refine WP.k (wpd_m d) 3 (?_ : wpd d 19 [zR 4 0, zI (nI 102)] M (fun r1 M1 => gO r1 fun v1 => WP (wpd d) 2 T_X2_readFlame Q (6, [zR 4 0, zR 6 u, zU], [zI v1]) M1))
  refine wpd_m d _ _ _ _ _ (fun r1 M1 q => gO_m (fun v1 h => ?_) q) h
  refine WP.k (wpd_m d) 1 (?_ : ((v1 : Int32) = (nI 0) → WP (wpd d) 2 T_X2_readFlame Q (24, [zR 4 0, zR 6 u, zU], []) M1) ∧ (¬ (v1 : Int32) = (nI 0) → WP (wpd d) 2 T_X2_readFlame Q (9, [zR 4 0, zR 6 u, zU], []) M1))
  refine ⟨fun z => ?_, fun z => ?_⟩
  · have h := h.1 z
    exact h
  · have h := h.2 z
    refine WP.k (wpd_m d) 4 (?_ : (¬ ((M1 6 u 5) : Int32) = (nI 8) → WP (wpd d) 2 T_X2_readFlame Q (24, [zR 4 0, zR 6 u, zU], []) M1) ∧ (((M1 6 u 5) : Int32) = (nI 8) → WP (wpd d) 2 T_X2_readFlame Q (18, [zR 4 0, zR 6 u, zU], []) M1))
    refine ⟨fun z => ?_, fun z => ?_⟩
    · have h := h.1 z
      exact h
    · have h := h.2 z
      refine WP.k (wpd_m d) 3 (?_ : wpd d 23 [zR 4 0, zI (nI 3)] M1 (fun r2 M2 => gO r2 fun v2 => WP (wpd d) 2 T_X2_readFlame Q (23, [zR 4 0, zR 6 u, zU], [zI v2]) M2))
      refine wpd_m d _ _ _ _ _ (fun r2 M2 q => gO_m (fun v2 h => ?_) q) h
      exact WP.k (wpd_m d) 1 h
theorem cp2_X2_readFlame_24 {d : Nat} {Q : Option AV → Mem → Prop} (u : Nat) (M : Mem) (h : wpd d 20 [zR 4 0, zI (nI 102)] M (fun r1 M1 => gO r1 fun v1 => ((¬ (v1 : Int32) = (nI 0) → wpd d 21 [zR 4 0, zI (nI 0), zI (nI 20)] M1 (fun r2 M2 => gO r2 fun v2 => ((¬ (v2 : Int32) = (-1) → (vp_in (M2 6 u 5) 8 ∧ wpd d 20 [zR 4 0, zI (nI 59)] (mup (mup M2 7 u ((M2 6 u 5).toNatClampNeg) v2) 6 u 5 ((M2 6 u 5) + (nI 1))) (fun r3 M3 => gO r3 fun v3 => (((v3 : Int32) = 0 ∨ (v3 : Int32) = 1) ∧ Q (some (zI v3)) M3)))) ∧ ((v2 : Int32) = (-1) → (((nI 0 : Int32) = 0 ∨ (nI 0 : Int32) = 1) ∧ Q (some (zI (nI 0))) M2))))) ∧ ((v1 : Int32) = (nI 0) → (((nI 0 : Int32) = 0 ∨ (nI 0 : Int32) = 1) ∧ Q (some (zI (nI 0))) M1))))) : WP (wpd d) 2 T_X2_readFlame Q (24, [zR 4 0, zR 6 u, zU], []) M := by
  refine WP.k (wpd_m d) 3 (?_ : wpd d 20 [zR 4 0, zI (nI 102)] M (fun r1 M1 => gO r1 fun v1 => WP (wpd d) 2 T_X2_readFlame Q (30, [zR 4 0, zR 6 u, zU], [zI v1]) M1))
  refine wpd_m d _ _ _ _ _ (fun r1 M1 q => gO_m (fun v1 h => ?_) q) h
  refine WP.k (wpd_m d) 1 (?_ : (¬ (v1 : Int32) = (nI 0) → WP (wpd d) 2 T_X2_readFlame Q (35, [zR 4 0, zR 6 u, zU], []) M1) ∧ ((v1 : Int32) = (nI 0) → WP (wpd d) 2 T_X2_readFlame Q (33, [zR 4 0, zR 6 u, zU], []) M1))
  refine ⟨fun z => ?_, fun z => ?_⟩
  · have h := h.1 z
    refine WP.k (wpd_m d) 4 (?_ : wpd d 21 [zR 4 0, zI (nI 0), zI (nI 20)] M1 (fun r2 M2 => gO r2 fun v2 => WP (wpd d) 2 T_X2_readFlame Q (42, [zR 4 0, zR 6 u, zU], [zI v2]) M2))
    refine wpd_m d _ _ _ _ _ (fun r2 M2 q => gO_m (fun v2 h => ?_) q) h
    refine WP.k (wpd_m d) 4 (?_ : (¬ (v2 : Int32) = (-1) → WP (wpd d) 2 T_X2_readFlame Q (50, [zR 4 0, zR 6 u, zI v2], []) M2) ∧ ((v2 : Int32) = (-1) → WP (wpd d) 2 T_X2_readFlame Q (48, [zR 4 0, zR 6 u, zI v2], []) M2))
    refine ⟨fun z => ?_, fun z => ?_⟩
    · have h := h.1 z
      refine WP.k (wpd_m d) 4 (?_ : WP (wpd d) 2 T_X2_readFlame Q (58, [zR 4 0, zR 6 u, zI v2], [zI (M2 6 u 5), zR 7 u]) M2)
      refine WP.k (wpd_m d) 2 (?_ : vp_in (M2 6 u 5) 8 ∧ WP (wpd d) 2 T_X2_readFlame Q (60, [zR 4 0, zR 6 u, zI v2], []) (mup M2 7 u ((M2 6 u 5).toNatClampNeg) v2))
      refine ⟨h.1, ?_⟩
      have h := h.2
      refine WP.k (wpd_m d) 4 (?_ : WP (wpd d) 2 T_X2_readFlame Q (66, [zR 4 0, zR 6 u, zI v2], [zI (nI 1), zI (M2 6 u 5), zR 6 u]) (mup M2 7 u ((M2 6 u 5).toNatClampNeg) v2))
      refine WP.k (wpd_m d) 4 (?_ : WP (wpd d) 2 T_X2_readFlame Q (73, [zR 4 0, zR 6 u, zI v2], [zI (nI 59), zR 4 0]) (mup (mup M2 7 u ((M2 6 u 5).toNatClampNeg) v2) 6 u 5 ((M2 6 u 5) + (nI 1))))
      refine WP.k (wpd_m d) 1 (?_ : wpd d 20 [zR 4 0, zI (nI 59)] (mup (mup M2 7 u ((M2 6 u 5).toNatClampNeg) v2) 6 u 5 ((M2 6 u 5) + (nI 1))) (fun r3 M3 => gO r3 fun v3 => WP (wpd d) 2 T_X2_readFlame Q (76, [zR 4 0, zR 6 u, zI v2], [zI v3]) M3))
      refine wpd_m d _ _ _ _ _ (fun r3 M3 q => gO_m (fun v3 h => ?_) q) h
      exact WP.k (wpd_m d) 1 h
    · have h := h.2 z
      exact WP.k (wpd_m d) 2 h
  · have h := h.2 z
    exact WP.k (wpd_m d) 2 h
