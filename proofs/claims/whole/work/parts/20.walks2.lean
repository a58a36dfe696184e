/-! more cuts: printed by program -/
theorem en2_X5_goes {d : Nat} {Q : Option AV → Mem → Prop} (w : Nat) (p2 : Int32) (p3 : Int32) (M : Mem) (h : (vp_in (((nI 21) + ((nI 4) * p2)) + (nI 1)) 45 ∧ (vp_in (((nI 21) + ((nI 4) * p2)) + (nI 2)) 45 ∧ ((¬ ((M 22 w ((((nI 21) + ((nI 4) * p2)) + (nI 2)).toNatClampNeg)) : Int32) = (nI 1) → WP (wpd d) 0 T_X5_goes Q (34, [zR 22 w, zI p2, zI p3, zI ((nI 21) + ((nI 4) * p2)), zI (M 22 w ((((nI 21) + ((nI 4) * p2)) + (nI 1)).toNatClampNeg)), zU, zU], [zI ((M 22 w ((((nI 21) + ((nI 4) * p2)) + (nI 1)).toNatClampNeg)) - (nI 1))]) M) ∧ (((M 22 w ((((nI 21) + ((nI 4) * p2)) + (nI 2)).toNatClampNeg)) : Int32) = (nI 1) → WP (wpd d) 0 T_X5_goes Q (34, [zR 22 w, zI p2, zI p3, zI ((nI 21) + ((nI 4) * p2)), zI (M 22 w ((((nI 21) + ((nI 4) * p2)) + (nI 1)).toNatClampNeg)), zU, zU], [zI ((M 22 w ((((nI 21) + ((nI 4) * p2)) + (nI 1)).toNatClampNeg)) + (nI 1))]) M))))) : wpd (d + 1) 146 [zR 22 w, zI p2, zI p3] M Q := by
  show WP (wpd d) 0 T_X5_goes Q (0, [zR 22 w, zI p2, zI p3, zU, zU, zU, zU], []) M
  refine WP.k (wpd_m d) 4 (?_ : WP (wpd d) 0 T_X5_goes Q (5, [zR 22 w, zI p2, zI p3, zU, zU, zU, zU], [zI ((nI 4) * p2), zI (nI 21)]) M)
  refine WP.k (wpd_m d) 4 (?_ : WP (wpd d) 0 T_X5_goes Q (9, [zR 22 w, zI p2, zI p3, zI ((nI 21) + ((nI 4) * p2)), zU, zU, zU], [zI ((nI 21) + ((nI 4) * p2)), zR 22 w]) M)
  refine WP.k (wpd_m d) 3 (?_ : vp_in (((nI 21) + ((nI 4) * p2)) + (nI 1)) 45 ∧ WP (wpd d) 0 T_X5_goes Q (12, [zR 22 w, zI p2, zI p3, zI ((nI 21) + ((nI 4) * p2)), zU, zU, zU], [zI (M 22 w ((((nI 21) + ((nI 4) * p2)) + (nI 1)).toNatClampNeg))]) M)
  refine ⟨h.1, ?_⟩
  have h := h.2
  refine WP.k (wpd_m d) 4 (?_ : WP (wpd d) 0 T_X5_goes Q (17, [zR 22 w, zI p2, zI p3, zI ((nI 21) + ((nI 4) * p2)), zI (M 22 w ((((nI 21) + ((nI 4) * p2)) + (nI 1)).toNatClampNeg)), zU, zU], [zI (nI 2), zI ((nI 21) + ((nI 4) * p2)), zR 22 w]) M)
  refine WP.k (wpd_m d) 2 (?_ : vp_in (((nI 21) + ((nI 4) * p2)) + (nI 2)) 45 ∧ WP (wpd d) 0 T_X5_goes Q (19, [zR 22 w, zI p2, zI p3, zI ((nI 21) + ((nI 4) * p2)), zI (M 22 w ((((nI 21) + ((nI 4) * p2)) + (nI 1)).toNatClampNeg)), zU, zU], [zI (M 22 w ((((nI 21) + ((nI 4) * p2)) + (nI 2)).toNatClampNeg))]) M)
  refine ⟨h.1, ?_⟩
  have h := h.2
  refine WP.k (wpd_m d) 2 (?_ : (¬ ((M 22 w ((((nI 21) + ((nI 4) * p2)) + (nI 2)).toNatClampNeg)) : Int32) = (nI 1) → WP (wpd d) 0 T_X5_goes Q (30, [zR 22 w, zI p2, zI p3, zI ((nI 21) + ((nI 4) * p2)), zI (M 22 w ((((nI 21) + ((nI 4) * p2)) + (nI 1)).toNatClampNeg)), zU, zU], []) M) ∧ (((M 22 w ((((nI 21) + ((nI 4) * p2)) + (nI 2)).toNatClampNeg)) : Int32) = (nI 1) → WP (wpd d) 0 T_X5_goes Q (23, [zR 22 w, zI p2, zI p3, zI ((nI 21) + ((nI 4) * p2)), zI (M 22 w ((((nI 21) + ((nI 4) * p2)) + (nI 1)).toNatClampNeg)), zU, zU], []) M))
  refine ⟨fun z => ?_, fun z => ?_⟩
  · have h := h.1 z
    exact WP.k (wpd_m d) 3 h
  · have h := h.2 z
    exact WP.k (wpd_m d) 4 h
theorem cp2_X5_goes_34 {d : Nat} {Q : Option AV → Mem → Prop} (w : Nat) (x1 : Int32) (x2 : Int32) (x3 : Int32) (x4 : Int32) (s0 : Int32) (M : Mem) (h : (vp_in (nI 1) 45 ∧ wpd d 109 [zI s0, zI (nI 0), zI ((M 22 w 1) - (nI 1))] M (fun r1 M1 => gO r1 fun v1 => WP (wpd d) 0 T_X5_goes Q (49, [zR 22 w, zI x1, zI x2, zI x3, zI x4, zI s0, zI v1], []) M1))) : WP (wpd d) 0 T_X5_goes Q (34, [zR 22 w, zI x1, zI x2, zI x3, zI x4, zU, zU], [zI s0]) M := by
  refine WP.k (wpd_m d) 4 (?_ : WP (wpd d) 0 T_X5_goes Q (40, [zR 22 w, zI x1, zI x2, zI x3, zI x4, zI s0, zU], [zR 22 w, zI (nI 0), zI s0]) M)
  refine WP.k (wpd_m d) 2 (?_ : vp_in (nI 1) 45 ∧ WP (wpd d) 0 T_X5_goes Q (42, [zR 22 w, zI x1, zI x2, zI x3, zI x4, zI s0, zU], [zI (M 22 w 1), zI (nI 0), zI s0]) M)
  refine ⟨h.1, ?_⟩
  have h := h.2
  refine WP.k (wpd_m d) 3 (?_ : wpd d 109 [zI s0, zI (nI 0), zI ((M 22 w 1) - (nI 1))] M (fun r1 M1 => gO r1 fun v1 => WP (wpd d) 0 T_X5_goes Q (47, [zR 22 w, zI x1, zI x2, zI x3, zI x4, zI s0, zU], [zI v1]) M1))
  refine wpd_m d _ _ _ _ _ (fun r1 M1 q => gO_m (fun v1 h => ?_) q) h
  exact WP.k (wpd_m d) 1 h
theorem cp2_X5_goes_49 {d : Nat} {Q : Option AV → Mem → Prop} (w : Nat) (x1 : Int32) (x2 : Int32) (x3 : Int32) (x4 : Int32) (x5 : Int32) (x6 : Int32) (M : Mem) (h : (vp_in x3 45 ∧ (((M 22 w x3.toNatClampNeg) = nI 1 → wpd d 144 [zR 22 w, zI x2, zI x4] M (fun r5 M5 => gO r5 fun v5 => (vp_in (x3 + (nI 1)) 45 ∧ Q none (mup M5 22 w ((x3 + (nI 1)).toNatClampNeg) v5)))) ∧ (¬ (M 22 w x3.toNatClampNeg) = nI 1 → (((M 22 w x3.toNatClampNeg) = nI 2 → wpd d 110 [zI x2, zI x4] M (fun r2 M2 => gO r2 fun v2 => (((v2 : Int32) = (nI 0) → wpd d 145 [zR 22 w, zI x1] M2 (fun r3 M3 => gN r3 (Q none M3))) ∧ (¬ (v2 : Int32) = (nI 0) → wpd d 144 [zR 22 w, zI (x2 ^^^ (-1)), zI x4] M2 (fun r4 M4 => gO r4 fun v4 => (vp_in (x3 + (nI 1)) 45 ∧ Q none (mup M4 22 w ((x3 + (nI 1)).toNatClampNeg) v4))))))) ∧ (¬ (M 22 w x3.toNatClampNeg) = nI 2 → (((M 22 w x3.toNatClampNeg) = nI 3 → (((x6 : Int32) = (nI 0) → (vp_in (x3 + (nI 2)) 45 ∧ (vp_in (x3 + (nI 2)) 45 ∧ Q none (mup M 22 w ((x3 + (nI 2)).toNatClampNeg) ((nI 1) - (M 22 w ((x3 + (nI 2)).toNatClampNeg))))))) ∧ (¬ (x6 : Int32) = (nI 0) → wpd d 110 [zI x2, zI x5] M (fun r1 M1 => gO r1 fun v1 => (((v1 : Int32) = (nI 0) → (vp_in (x3 + (nI 2)) 45 ∧ (vp_in (x3 + (nI 2)) 45 ∧ Q none (mup M1 22 w ((x3 + (nI 2)).toNatClampNeg) ((nI 1) - (M1 22 w ((x3 + (nI 2)).toNatClampNeg))))))) ∧ (¬ (v1 : Int32) = (nI 0) → (vp_in (x3 + (nI 1)) 45 ∧ Q none (mup M1 22 w ((x3 + (nI 1)).toNatClampNeg) x5)))))))) ∧ (¬ (M 22 w x3.toNatClampNeg) = nI 3 → (vp_in x3 45 ∧ ((((M 22 w x3.toNatClampNeg) : Int32) = (nI 4) → WP (wpd d) 0 T_X5_goes Q (183, [zR 22 w, zI x1, zU, zI x3, zI x4, zI x5, zI x6], []) M) ∧ (¬ ((M 22 w x3.toNatClampNeg) : Int32) = (nI 4) → (vp_in (nI 3) 45 ∧ (¬ ((nI 2) : Int32) = 0 ∧ ((¬ (((M 22 w 3) - (M 22 w 3) / (nI 2) * (nI 2)) : Int32) = (nI 0) → Q none M) ∧ ((((M 22 w 3) - (M 22 w 3) / (nI 2) * (nI 2)) : Int32) = (nI 0) → WP (wpd d) 0 T_X5_goes Q (183, [zR 22 w, zI x1, zU, zI x3, zI x4, zI x5, zI x6], []) M))))))))))))))) : WP (wpd d) 0 T_X5_goes Q (49, [zR 22 w, zI x1, zI x2, zI x3, zI x4, zI x5, zI x6], []) M := by
  refine WP.k (wpd_m d) 3 (?_ : vp_in x3 45 ∧ WP (wpd d) 0 T_X5_goes Q (52, [zR 22 w, zI x1, zI x2, zI x3, zI x4, zI x5, zI x6], [zI (M 22 w x3.toNatClampNeg)]) M)
  refine ⟨h.1, ?_⟩
  have h := h.2
  refine WP.k (wpd_m d) 1 (?_ : (((M 22 w x3.toNatClampNeg) = nI 1 → WP (wpd d) 0 T_X5_goes Q (80, [zR 22 w, zI x1, zI x2, zI x3, zI x4, zI x5, zI x6], []) M) ∧ (¬ (M 22 w x3.toNatClampNeg) = nI 1 → (((M 22 w x3.toNatClampNeg) = nI 2 → WP (wpd d) 0 T_X5_goes Q (95, [zR 22 w, zI x1, zI x2, zI x3, zI x4, zI x5, zI x6], []) M) ∧ (¬ (M 22 w x3.toNatClampNeg) = nI 2 → (((M 22 w x3.toNatClampNeg) = nI 3 → WP (wpd d) 0 T_X5_goes Q (129, [zR 22 w, zI x1, zI x2, zI x3, zI x4, zI x5, zI x6], []) M) ∧ (¬ (M 22 w x3.toNatClampNeg) = nI 3 → WP (wpd d) 0 T_X5_goes Q (168, [zR 22 w, zI x1, zI x2, zI x3, zI x4, zI x5, zI x6], []) M)))))))
  refine ⟨fun z => ?_, fun z => ?_⟩
  · have h := h.1 z
    refine WP.k (wpd_m d) 4 (?_ : WP (wpd d) 0 T_X5_goes Q (84, [zR 22 w, zI x1, zI x2, zI x3, zI x4, zI x5, zI x6], [zI (x3 + (nI 1)), zR 22 w]) M)
    refine WP.k (wpd_m d) 4 (?_ : wpd d 144 [zR 22 w, zI x2, zI x4] M (fun r5 M5 => gO r5 fun v5 => WP (wpd d) 0 T_X5_goes Q (91, [zR 22 w, zI x1, zI x2, zI x3, zI x4, zI x5, zI x6], [zI v5, zI (x3 + (nI 1)), zR 22 w]) M5))
    refine wpd_m d _ _ _ _ _ (fun r5 M5 q => gO_m (fun v5 h => ?_) q) h
    refine WP.k (wpd_m d) 1 (?_ : vp_in (x3 + (nI 1)) 45 ∧ WP (wpd d) 0 T_X5_goes Q (92, [zR 22 w, zI x1, zI x2, zI x3, zI x4, zI x5, zI x6], []) (mup M5 22 w ((x3 + (nI 1)).toNatClampNeg) v5))
    refine ⟨h.1, ?_⟩
    have h := h.2
    exact WP.k (wpd_m d) 2 h
  · have h := h.2 z
    refine ⟨fun z => ?_, fun z => ?_⟩
    · have h := h.1 z
      refine WP.k (wpd_m d) 3 (?_ : wpd d 110 [zI x2, zI x4] M (fun r2 M2 => gO r2 fun v2 => WP (wpd d) 0 T_X5_goes Q (101, [zR 22 w, zI x1, zI x2, zI x3, zI x4, zI x5, zI x6], [zI v2]) M2))
      refine wpd_m d _ _ _ _ _ (fun r2 M2 q => gO_m (fun v2 h => ?_) q) h
      refine WP.k (wpd_m d) 1 (?_ : ((v2 : Int32) = (nI 0) → WP (wpd d) 0 T_X5_goes Q (121, [zR 22 w, zI x1, zI x2, zI x3, zI x4, zI x5, zI x6], []) M2) ∧ (¬ (v2 : Int32) = (nI 0) → WP (wpd d) 0 T_X5_goes Q (104, [zR 22 w, zI x1, zI x2, zI x3, zI x4, zI x5, zI x6], []) M2))
      refine ⟨fun z => ?_, fun z => ?_⟩
      · have h := h.1 z
        refine WP.k (wpd_m d) 3 (?_ : wpd d 145 [zR 22 w, zI x1] M2 (fun r3 M3 => gN r3 (WP (wpd d) 0 T_X5_goes Q (126, [zR 22 w, zI x1, zI x2, zI x3, zI x4, zI x5, zI x6], []) M3)))
        refine wpd_m d _ _ _ _ _ (fun r3 M3 q => gN_m (fun h => ?_) q) h
        exact WP.k (wpd_m d) 2 h
      · have h := h.2 z
        refine WP.k (wpd_m d) 4 (?_ : WP (wpd d) 0 T_X5_goes Q (108, [zR 22 w, zI x1, zI x2, zI x3, zI x4, zI x5, zI x6], [zI (x3 + (nI 1)), zR 22 w]) M2)
        refine WP.k (wpd_m d) 4 (?_ : WP (wpd d) 0 T_X5_goes Q (112, [zR 22 w, zI x1, zI x2, zI x3, zI x4, zI x5, zI x6], [zI (x2 ^^^ (-1)), zR 22 w, zI (x3 + (nI 1)), zR 22 w]) M2)
        refine WP.k (wpd_m d) 2 (?_ : wpd d 144 [zR 22 w, zI (x2 ^^^ (-1)), zI x4] M2 (fun r4 M4 => gO r4 fun v4 => WP (wpd d) 0 T_X5_goes Q (117, [zR 22 w, zI x1, zI x2, zI x3, zI x4, zI x5, zI x6], [zI v4, zI (x3 + (nI 1)), zR 22 w]) M4))
        refine wpd_m d _ _ _ _ _ (fun r4 M4 q => gO_m (fun v4 h => ?_) q) h
        refine WP.k (wpd_m d) 1 (?_ : vp_in (x3 + (nI 1)) 45 ∧ WP (wpd d) 0 T_X5_goes Q (118, [zR 22 w, zI x1, zI x2, zI x3, zI x4, zI x5, zI x6], []) (mup M4 22 w ((x3 + (nI 1)).toNatClampNeg) v4))
        refine ⟨h.1, ?_⟩
        have h := h.2
        exact WP.k (wpd_m d) 2 h
    · have h := h.2 z
      refine ⟨fun z => ?_, fun z => ?_⟩
      · have h := h.1 z
        refine WP.k (wpd_m d) 2 (?_ : ((x6 : Int32) = (nI 0) → WP (wpd d) 0 T_X5_goes Q (153, [zR 22 w, zI x1, zI x2, zI x3, zI x4, zI x5, zI x6], []) M) ∧ (¬ (x6 : Int32) = (nI 0) → WP (wpd d) 0 T_X5_goes Q (134, [zR 22 w, zI x1, zI x2, zI x3, zI x4, zI x5, zI x6], []) M))
        refine ⟨fun z => ?_, fun z => ?_⟩
        · have h := h.1 z
          refine WP.k (wpd_m d) 4 (?_ : WP (wpd d) 0 T_X5_goes Q (157, [zR 22 w, zI x1, zI x2, zI x3, zI x4, zI x5, zI x6], [zI (x3 + (nI 2)), zR 22 w]) M)
          refine WP.k (wpd_m d) 4 (?_ : WP (wpd d) 0 T_X5_goes Q (161, [zR 22 w, zI x1, zI x2, zI x3, zI x4, zI x5, zI x6], [zI (nI 2), zI x3, zR 22 w, zI (nI 1), zI (x3 + (nI 2)), zR 22 w]) M)
          refine WP.k (wpd_m d) 2 (?_ : vp_in (x3 + (nI 2)) 45 ∧ WP (wpd d) 0 T_X5_goes Q (163, [zR 22 w, zI x1, zI x2, zI x3, zI x4, zI x5, zI x6], [zI (M 22 w ((x3 + (nI 2)).toNatClampNeg)), zI (nI 1), zI (x3 + (nI 2)), zR 22 w]) M)
          refine ⟨h.1, ?_⟩
          have h := h.2
          refine WP.k (wpd_m d) 2 (?_ : vp_in (x3 + (nI 2)) 45 ∧ WP (wpd d) 0 T_X5_goes Q (165, [zR 22 w, zI x1, zI x2, zI x3, zI x4, zI x5, zI x6], []) (mup M 22 w ((x3 + (nI 2)).toNatClampNeg) ((nI 1) - (M 22 w ((x3 + (nI 2)).toNatClampNeg)))))
          refine ⟨h.1, ?_⟩
          have h := h.2
          exact WP.k (wpd_m d) 2 h
        · have h := h.2 z
          refine WP.k (wpd_m d) 3 (?_ : wpd d 110 [zI x2, zI x5] M (fun r1 M1 => gO r1 fun v1 => WP (wpd d) 0 T_X5_goes Q (140, [zR 22 w, zI x1, zI x2, zI x3, zI x4, zI x5, zI x6], [zI v1]) M1))
          refine wpd_m d _ _ _ _ _ (fun r1 M1 q => gO_m (fun v1 h => ?_) q) h
          refine WP.k (wpd_m d) 1 (?_ : ((v1 : Int32) = (nI 0) → WP (wpd d) 0 T_X5_goes Q (153, [zR 22 w, zI x1, zI x2, zI x3, zI x4, zI x5, zI x6], []) M1) ∧ (¬ (v1 : Int32) = (nI 0) → WP (wpd d) 0 T_X5_goes Q (143, [zR 22 w, zI x1, zI x2, zI x3, zI x4, zI x5, zI x6], []) M1))
          refine ⟨fun z => ?_, fun z => ?_⟩
          · have h := h.1 z
            refine WP.k (wpd_m d) 4 (?_ : WP (wpd d) 0 T_X5_goes Q (157, [zR 22 w, zI x1, zI x2, zI x3, zI x4, zI x5, zI x6], [zI (x3 + (nI 2)), zR 22 w]) M1)
            refine WP.k (wpd_m d) 4 (?_ : WP (wpd d) 0 T_X5_goes Q (161, [zR 22 w, zI x1, zI x2, zI x3, zI x4, zI x5, zI x6], [zI (nI 2), zI x3, zR 22 w, zI (nI 1), zI (x3 + (nI 2)), zR 22 w]) M1)
            refine WP.k (wpd_m d) 2 (?_ : vp_in (x3 + (nI 2)) 45 ∧ WP (wpd d) 0 T_X5_goes Q (163, [zR 22 w, zI x1, zI x2, zI x3, zI x4, zI x5, zI x6], [zI (M1 22 w ((x3 + (nI 2)).toNatClampNeg)), zI (nI 1), zI (x3 + (nI 2)), zR 22 w]) M1)
            refine ⟨h.1, ?_⟩
            have h := h.2
            refine WP.k (wpd_m d) 2 (?_ : vp_in (x3 + (nI 2)) 45 ∧ WP (wpd d) 0 T_X5_goes Q (165, [zR 22 w, zI x1, zI x2, zI x3, zI x4, zI x5, zI x6], []) (mup M1 22 w ((x3 + (nI 2)).toNatClampNeg) ((nI 1) - (M1 22 w ((x3 + (nI 2)).toNatClampNeg)))))
            refine ⟨h.1, ?_⟩
            have h := h.2
            exact WP.k (wpd_m d) 2 h
          · have h := h.2 z
            refine WP.k (wpd_m d) 4 (?_ : WP (wpd d) 0 T_X5_goes Q (147, [zR 22 w, zI x1, zI x2, zI x3, zI x4, zI x5, zI x6], [zI (x3 + (nI 1)), zR 22 w]) M1)
            refine WP.k (wpd_m d) 2 (?_ : vp_in (x3 + (nI 1)) 45 ∧ WP (wpd d) 0 T_X5_goes Q (150, [zR 22 w, zI x1, zI x2, zI x3, zI x4, zI x5, zI x6], []) (mup M1 22 w ((x3 + (nI 1)).toNatClampNeg) x5))
            refine ⟨h.1, ?_⟩
            have h := h.2
            exact WP.k (wpd_m d) 2 h
      · have h := h.2 z
        refine WP.k (wpd_m d) 3 (?_ : vp_in x3 45 ∧ WP (wpd d) 0 T_X5_goes Q (171, [zR 22 w, zI x1, zI x2, zI x3, zI x4, zI x5, zI x6], [zI (M 22 w x3.toNatClampNeg)]) M)
        refine ⟨h.1, ?_⟩
        have h := h.2
        refine WP.k (wpd_m d) 2 (?_ : (((M 22 w x3.toNatClampNeg) : Int32) = (nI 4) → WP (wpd d) 0 T_X5_goes Q (183, [zR 22 w, zI x1, zI x2, zI x3, zI x4, zI x5, zI x6], []) M) ∧ (¬ ((M 22 w x3.toNatClampNeg) : Int32) = (nI 4) → WP (wpd d) 0 T_X5_goes Q (175, [zR 22 w, zI x1, zI x2, zI x3, zI x4, zI x5, zI x6], []) M))
        refine ⟨fun z => ?_, fun z => ?_⟩
        · have h := h.1 z
          exact WP.k (wpd_m d) 0 (WP.le (wpd_m d) h (clr_le [2] [zR 22 w, zI x1, zI x2, zI x3, zI x4, zI x5, zI x6]))
        · have h := h.2 z
          refine WP.k (wpd_m d) 3 (?_ : vp_in (nI 3) 45 ∧ WP (wpd d) 0 T_X5_goes Q (178, [zR 22 w, zI x1, zI x2, zI x3, zI x4, zI x5, zI x6], [zI (M 22 w 3)]) M)
          refine ⟨h.1, ?_⟩
          have h := h.2
          refine WP.k (wpd_m d) 2 (?_ : ¬ ((nI 2) : Int32) = 0 ∧ WP (wpd d) 0 T_X5_goes Q (180, [zR 22 w, zI x1, zI x2, zI x3, zI x4, zI x5, zI x6], [zI ((M 22 w 3) - (M 22 w 3) / (nI 2) * (nI 2))]) M)
          refine ⟨h.1, ?_⟩
          have h := h.2
          refine WP.k (wpd_m d) 1 (?_ : (¬ (((M 22 w 3) - (M 22 w 3) / (nI 2) * (nI 2)) : Int32) = (nI 0) → WP (wpd d) 0 T_X5_goes Q (210, [zR 22 w, zI x1, zI x2, zI x3, zI x4, zI x5, zI x6], []) M) ∧ ((((M 22 w 3) - (M 22 w 3) / (nI 2) * (nI 2)) : Int32) = (nI 0) → WP (wpd d) 0 T_X5_goes Q (183, [zR 22 w, zI x1, zI x2, zI x3, zI x4, zI x5, zI x6], []) M))
          refine ⟨fun z => ?_, fun z => ?_⟩
          · have h := h.1 z
            exact WP.k (wpd_m d) 1 h
          · have h := h.2 z
            exact WP.k (wpd_m d) 0 (WP.le (wpd_m d) h (clr_le [2] [zR 22 w, zI x1, zI x2, zI x3, zI x4, zI x5, zI x6]))
theorem cp2_X5_goes_183 {d : Nat} {Q : Option AV → Mem → Prop} (w : Nat) (x1 : Int32) (x3 : Int32) (x4 : Int32) (x5 : Int32) (x6 : Int32) (M : Mem) (h : (((x6 : Int32) = (nI 0) → WP (wpd d) 0 T_X5_goes Q (199, [zR 22 w, zI x1, zU, zU, zU, zU, zI x6], [zI x4, zI (x3 + (nI 1)), zR 22 w]) M) ∧ (¬ (x6 : Int32) = (nI 0) → WP (wpd d) 0 T_X5_goes Q (199, [zR 22 w, zI x1, zU, zU, zU, zU, zI x6], [zI x5, zI (x3 + (nI 1)), zR 22 w]) M))) : WP (wpd d) 0 T_X5_goes Q (183, [zR 22 w, zI x1, zU, zI x3, zI x4, zI x5, zI x6], []) M := by
  refine WP.k (wpd_m d) 4 (?_ : WP (wpd d) 0 T_X5_goes Q (187, [zR 22 w, zI x1, zU, zI x3, zI x4, zI x5, zI x6], [zI (x3 + (nI 1)), zR 22 w]) M)
  refine WP.k (wpd_m d) 2 (?_ : ((x6 : Int32) = (nI 0) → WP (wpd d) 0 T_X5_goes Q (197, [zR 22 w, zI x1, zU, zI x3, zI x4, zI x5, zI x6], [zI (x3 + (nI 1)), zR 22 w]) M) ∧ (¬ (x6 : Int32) = (nI 0) → WP (wpd d) 0 T_X5_goes Q (192, [zR 22 w, zI x1, zU, zI x3, zI x4, zI x5, zI x6], [zI (x3 + (nI 1)), zR 22 w]) M))
  refine ⟨fun z => ?_, fun z => ?_⟩
  · have h := h.1 z
    exact WP.k (wpd_m d) 1 (WP.le (wpd_m d) h (clr_le [2, 3, 4, 5] [zR 22 w, zI x1, zU, zI x3, zI x4, zI x5, zI x6]))
  · have h := h.2 z
    exact WP.k (wpd_m d) 2 (WP.le (wpd_m d) h (clr_le [2, 3, 4, 5] [zR 22 w, zI x1, zU, zI x3, zI x4, zI x5, zI x6]))
theorem cp2_X5_goes_199 {d : Nat} {Q : Option AV → Mem → Prop} (w : Nat) (x1 : Int32) (x6 : Int32) (s0 : Int32) (s1 : Int32) (M : Mem) (h : (vp_in s1 45 ∧ ((¬ (x6 : Int32) = (nI 0) → Q none (mup M 22 w s1.toNatClampNeg s0)) ∧ ((x6 : Int32) = (nI 0) → wpd d 145 [zR 22 w, zI x1] (mup M 22 w s1.toNatClampNeg s0) (fun r1 M1 => gN r1 (Q none M1)))))) : WP (wpd d) 0 T_X5_goes Q (199, [zR 22 w, zI x1, zU, zU, zU, zU, zI x6], [zI s0, zI s1, zR 22 w]) M := by
  refine WP.k (wpd_m d) 1 (?_ : vp_in s1 45 ∧ WP (wpd d) 0 T_X5_goes Q (200, [zR 22 w, zI x1, zU, zU, zU, zU, zI x6], []) (mup M 22 w s1.toNatClampNeg s0))
  refine ⟨h.1, ?_⟩
  have h := h.2
  refine WP.k (wpd_m d) 2 (?_ : (¬ (x6 : Int32) = (nI 0) → WP (wpd d) 0 T_X5_goes Q (210, [zR 22 w, zI x1, zU, zU, zU, zU, zI x6], []) (mup M 22 w s1.toNatClampNeg s0)) ∧ ((x6 : Int32) = (nI 0) → WP (wpd d) 0 T_X5_goes Q (205, [zR 22 w, zI x1, zU, zU, zU, zU, zI x6], []) (mup M 22 w s1.toNatClampNeg s0)))
  refine ⟨fun z => ?_, fun z => ?_⟩
  · have h := h.1 z
    exact WP.k (wpd_m d) 1 h
  · have h := h.2 z
    refine WP.k (wpd_m d) 3 (?_ : wpd d 145 [zR 22 w, zI x1] (mup M 22 w s1.toNatClampNeg s0) (fun r1 M1 => gN r1 (WP (wpd d) 0 T_X5_goes Q (210, [zR 22 w, zI x1, zU, zU, zU, zU, zI x6], []) M1)))
    refine wpd_m d _ _ _ _ _ (fun r1 M1 q => gN_m (fun h => ?_) q) h
    exact WP.k (wpd_m d) 1 h
theorem en2_X5_passes {d : Nat} {Q : Option AV → Mem → Prop} (w : Nat) (M : Mem) (h : wpd d 142 [zR 22 w] M (fun r1 M1 => gO r1 fun v1 => WP (wpd d) 1 T_X5_passes Q (10, [zR 16 0, zR 22 w, zI v1, zI (nI 0), zI (nI 0), zU], []) M1)) : wpd (d + 1) 148 [zR 16 0, zR 22 w] M Q := by
  show WP (wpd d) 1 T_X5_passes Q (0, [zR 16 0, zR 22 w, zU, zU, zU, zU], []) M
  refine WP.k (wpd_m d) 2 (?_ : wpd d 142 [zR 22 w] M (fun r1 M1 => gO r1 fun v1 => WP (wpd d) 1 T_X5_passes Q (4, [zR 16 0, zR 22 w, zU, zU, zU, zU], [zI v1]) M1))
  refine wpd_m d _ _ _ _ _ (fun r1 M1 q => gO_m (fun v1 h => ?_) q) h
  refine WP.k (wpd_m d) 4 (?_ : WP (wpd d) 1 T_X5_passes Q (8, [zR 16 0, zR 22 w, zI v1, zI (nI 0), zU, zU], [zI (nI 0)]) M1)
  exact WP.k (wpd_m d) 1 h
theorem cp2_X5_passes_10 {d : Nat} {Q : Option AV → Mem → Prop} (w : Nat) (x2 : Int32) (x3 : Int32) (x4 : Int32) (M : Mem) (h : (((nI 8) ≤ (x4 : Int32) → WP (wpd d) 1 T_X5_passes Q (40, [zR 16 0, zR 22 w, zI x2, zI x3, zI (nI 0), zU], []) M) ∧ (¬ (nI 8) ≤ (x4 : Int32) → (vp_in ((nI 13) + x4) 45 ∧ (vp_in x4 8 ∧ WP (wpd d) 1 T_X5_passes Q (10, [zR 16 0, zR 22 w, zI x2, zI x3, zI (x4 + (nI 1)), zU], []) (mup M 28 0 x4.toNatClampNeg (M 22 w (((nI 13) + x4).toNatClampNeg)))))))) : WP (wpd d) 1 T_X5_passes Q (10, [zR 16 0, zR 22 w, zI x2, zI x3, zI x4, zU], []) M := by
  refine WP.k (wpd_m d) 3 (?_ : ((nI 8) ≤ (x4 : Int32) → WP (wpd d) 1 T_X5_passes Q (37, [zR 16 0, zR 22 w, zI x2, zI x3, zI x4, zU], []) M) ∧ (¬ (nI 8) ≤ (x4 : Int32) → WP (wpd d) 1 T_X5_passes Q (17, [zR 16 0, zR 22 w, zI x2, zI x3, zI x4, zU], []) M))
  refine ⟨fun z => ?_, fun z => ?_⟩
  · have h := h.1 z
    exact WP.k (wpd_m d) 2 h
  · have h := h.2 z
    refine WP.k (wpd_m d) 4 (?_ : WP (wpd d) 1 T_X5_passes Q (24, [zR 16 0, zR 22 w, zI x2, zI x3, zI x4, zU], [zR 22 w, zI x4, zR 28 0]) M)
    refine WP.k (wpd_m d) 4 (?_ : vp_in ((nI 13) + x4) 45 ∧ WP (wpd d) 1 T_X5_passes Q (30, [zR 16 0, zR 22 w, zI x2, zI x3, zI x4, zU], [zI (M 22 w (((nI 13) + x4).toNatClampNeg)), zI x4, zR 28 0]) M)
    refine ⟨h.1, ?_⟩
    have h := h.2
    refine WP.k (wpd_m d) 1 (?_ : vp_in x4 8 ∧ WP (wpd d) 1 T_X5_passes Q (31, [zR 16 0, zR 22 w, zI x2, zI x3, zI x4, zU], []) (mup M 28 0 x4.toNatClampNeg (M 22 w (((nI 13) + x4).toNatClampNeg))))
    refine ⟨h.1, ?_⟩
    have h := h.2
    exact WP.k (wpd_m d) 2 h
theorem cp2_X5_passes_40 {d : Nat} {Q : Option AV → Mem → Prop} (w : Nat) (x2 : Int32) (x3 : Int32) (x4 : Int32) (M : Mem) (h : (vp_in (nI 2) 45 ∧ (((M 22 w 2) ≤ (x4 : Int32) → WP (wpd d) 1 T_X5_passes Q (78, [zR 16 0, zR 22 w, zI x2, zI x3, zI (nI 0), zU], []) M) ∧ (¬ (M 22 w 2) ≤ (x4 : Int32) → (vp_in (((nI 21) + ((nI 4) * x4)) + (nI 3)) 45 ∧ ((¬ ((M 22 w ((((nI 21) + ((nI 4) * x4)) + (nI 3)).toNatClampNeg)) : Int32) = (nI 0) → WP (wpd d) 1 T_X5_passes Q (40, [zR 16 0, zR 22 w, zI x2, zI x3, zI (x4 + (nI 1)), zU], []) M) ∧ (((M 22 w ((((nI 21) + ((nI 4) * x4)) + (nI 3)).toNatClampNeg)) : Int32) = (nI 0) → wpd d 146 [zR 22 w, zI x4, zI x2] M (fun r1 M1 => gN r1 (WP (wpd d) 1 T_X5_passes Q (40, [zR 16 0, zR 22 w, zI x2, zI x3, zI (x4 + (nI 1)), zU], []) M1))))))))) : WP (wpd d) 1 T_X5_passes Q (40, [zR 16 0, zR 22 w, zI x2, zI x3, zI x4, zU], []) M := by
  refine WP.k (wpd_m d) 4 (?_ : vp_in (nI 2) 45 ∧ WP (wpd d) 1 T_X5_passes Q (45, [zR 16 0, zR 22 w, zI x2, zI x3, zI x4, zU], [zI (M 22 w 2), zI x4]) M)
  refine ⟨h.1, ?_⟩
  have h := h.2
  refine WP.k (wpd_m d) 1 (?_ : ((M 22 w 2) ≤ (x4 : Int32) → WP (wpd d) 1 T_X5_passes Q (75, [zR 16 0, zR 22 w, zI x2, zI x3, zI x4, zU], []) M) ∧ (¬ (M 22 w 2) ≤ (x4 : Int32) → WP (wpd d) 1 T_X5_passes Q (48, [zR 16 0, zR 22 w, zI x2, zI x3, zI x4, zU], []) M))
  refine ⟨fun z => ?_, fun z => ?_⟩
  · have h := h.1 z
    exact WP.k (wpd_m d) 2 h
  · have h := h.2 z
    refine WP.k (wpd_m d) 4 (?_ : WP (wpd d) 1 T_X5_passes Q (54, [zR 16 0, zR 22 w, zI x2, zI x3, zI x4, zU], [zI x4, zI (nI 4), zI (nI 21), zR 22 w]) M)
    refine WP.k (wpd_m d) 4 (?_ : WP (wpd d) 1 T_X5_passes Q (58, [zR 16 0, zR 22 w, zI x2, zI x3, zI x4, zU], [zI (((nI 21) + ((nI 4) * x4)) + (nI 3)), zR 22 w]) M)
    refine WP.k (wpd_m d) 1 (?_ : vp_in (((nI 21) + ((nI 4) * x4)) + (nI 3)) 45 ∧ WP (wpd d) 1 T_X5_passes Q (59, [zR 16 0, zR 22 w, zI x2, zI x3, zI x4, zU], [zI (M 22 w ((((nI 21) + ((nI 4) * x4)) + (nI 3)).toNatClampNeg))]) M)
    refine ⟨h.1, ?_⟩
    have h := h.2
    refine WP.k (wpd_m d) 1 (?_ : (¬ ((M 22 w ((((nI 21) + ((nI 4) * x4)) + (nI 3)).toNatClampNeg)) : Int32) = (nI 0) → WP (wpd d) 1 T_X5_passes Q (69, [zR 16 0, zR 22 w, zI x2, zI x3, zI x4, zU], []) M) ∧ (((M 22 w ((((nI 21) + ((nI 4) * x4)) + (nI 3)).toNatClampNeg)) : Int32) = (nI 0) → WP (wpd d) 1 T_X5_passes Q (62, [zR 16 0, zR 22 w, zI x2, zI x3, zI x4, zU], []) M))
    refine ⟨fun z => ?_, fun z => ?_⟩
    · have h := h.1 z
      exact WP.k (wpd_m d) 2 h
    · have h := h.2 z
      refine WP.k (wpd_m d) 4 (?_ : wpd d 146 [zR 22 w, zI x4, zI x2] M (fun r1 M1 => gN r1 (WP (wpd d) 1 T_X5_passes Q (69, [zR 16 0, zR 22 w, zI x2, zI x3, zI x4, zU], []) M1)))
      refine wpd_m d _ _ _ _ _ (fun r1 M1 q => gN_m (fun h => ?_) q) h
      exact WP.k (wpd_m d) 2 h
theorem cp2_X5_passes_78 {d : Nat} {Q : Option AV → Mem → Prop} (w : Nat) (x2 : Int32) (x3 : Int32) (x4 : Int32) (M : Mem) (h : (vp_in (nI 2) 45 ∧ (((M 22 w 2) ≤ (x4 : Int32) → WP (wpd d) 1 T_X5_passes Q (179, [zU, zR 22 w, zI x2, zI x3, zI (nI 0), zU], []) M) ∧ (¬ (M 22 w 2) ≤ (x4 : Int32) → (vp_in (((nI 21) + ((nI 4) * x4)) + (nI 3)) 45 ∧ ((¬ ((M 22 w ((((nI 21) + ((nI 4) * x4)) + (nI 3)).toNatClampNeg)) : Int32) = (nI 0) → WP (wpd d) 1 T_X5_passes Q (78, [zR 16 0, zR 22 w, zI x2, zI x3, zI (x4 + (nI 1)), zU], []) M) ∧ (((M 22 w ((((nI 21) + ((nI 4) * x4)) + (nI 3)).toNatClampNeg)) : Int32) = (nI 0) → (vp_in (((nI 21) + ((nI 4) * x4)) + (nI 1)) 45 ∧ wpd d 110 [zI x2, zI (M 22 w ((((nI 21) + ((nI 4) * x4)) + (nI 1)).toNatClampNeg))] M (fun r1 M1 => gO r1 fun v1 => (((v1 : Int32) = (nI 0) → WP (wpd d) 1 T_X5_passes Q (137, [zR 16 0, zR 22 w, zI x2, zU, zI x4, zI ((nI 21) + ((nI 4) * x4))], [zI (nI 0), zI x3]) M1) ∧ (¬ (v1 : Int32) = (nI 0) → (vp_in (((nI 21) + ((nI 4) * x4)) + (nI 1)) 45 ∧ wpd d 147 [zR 22 w, zR 28 0, zI (nI 0), zI (M1 22 w ((((nI 21) + ((nI 4) * x4)) + (nI 1)).toNatClampNeg))] M1 (fun r2 M2 => gO r2 fun v2 => WP (wpd d) 1 T_X5_passes Q (137, [zR 16 0, zR 22 w, zI x2, zU, zI x4, zI ((nI 21) + ((nI 4) * x4))], [zI v2, zI x3]) M2))))))))))))) : WP (wpd d) 1 T_X5_passes Q (78, [zR 16 0, zR 22 w, zI x2, zI x3, zI x4, zU], []) M := by
  refine WP.k (wpd_m d) 4 (?_ : vp_in (nI 2) 45 ∧ WP (wpd d) 1 T_X5_passes Q (83, [zR 16 0, zR 22 w, zI x2, zI x3, zI x4, zU], [zI (M 22 w 2), zI x4]) M)
  refine ⟨h.1, ?_⟩
  have h := h.2
  refine WP.k (wpd_m d) 1 (?_ : ((M 22 w 2) ≤ (x4 : Int32) → WP (wpd d) 1 T_X5_passes Q (176, [zR 16 0, zR 22 w, zI x2, zI x3, zI x4, zU], []) M) ∧ (¬ (M 22 w 2) ≤ (x4 : Int32) → WP (wpd d) 1 T_X5_passes Q (86, [zR 16 0, zR 22 w, zI x2, zI x3, zI x4, zU], []) M))
  refine ⟨fun z => ?_, fun z => ?_⟩
  · have h := h.1 z
    exact WP.k (wpd_m d) 2 (WP.le (wpd_m d) h (clr_le [0, 5] [zR 16 0, zR 22 w, zI x2, zI x3, zI (nI 0), zU]))
  · have h := h.2 z
    refine WP.k (wpd_m d) 4 (?_ : WP (wpd d) 1 T_X5_passes Q (92, [zR 16 0, zR 22 w, zI x2, zI x3, zI x4, zU], [zI ((nI 4) * x4), zI (nI 21)]) M)
    refine WP.k (wpd_m d) 4 (?_ : WP (wpd d) 1 T_X5_passes Q (98, [zR 16 0, zR 22 w, zI x2, zI x3, zI x4, zI ((nI 21) + ((nI 4) * x4))], [zI ((nI 21) + ((nI 4) * x4)), zR 22 w]) M)
    refine WP.k (wpd_m d) 3 (?_ : vp_in (((nI 21) + ((nI 4) * x4)) + (nI 3)) 45 ∧ WP (wpd d) 1 T_X5_passes Q (101, [zR 16 0, zR 22 w, zI x2, zI x3, zI x4, zI ((nI 21) + ((nI 4) * x4))], [zI (M 22 w ((((nI 21) + ((nI 4) * x4)) + (nI 3)).toNatClampNeg))]) M)
    refine ⟨h.1, ?_⟩
    have h := h.2
    refine WP.k (wpd_m d) 1 (?_ : (¬ ((M 22 w ((((nI 21) + ((nI 4) * x4)) + (nI 3)).toNatClampNeg)) : Int32) = (nI 0) → WP (wpd d) 1 T_X5_passes Q (170, [zR 16 0, zR 22 w, zI x2, zI x3, zI x4, zI ((nI 21) + ((nI 4) * x4))], []) M) ∧ (((M 22 w ((((nI 21) + ((nI 4) * x4)) + (nI 3)).toNatClampNeg)) : Int32) = (nI 0) → WP (wpd d) 1 T_X5_passes Q (104, [zR 16 0, zR 22 w, zI x2, zI x3, zI x4, zI ((nI 21) + ((nI 4) * x4))], []) M))
    refine ⟨fun z => ?_, fun z => ?_⟩
    · have h := h.1 z
      exact WP.k (wpd_m d) 2 (WP.le (wpd_m d) h (clr_le [5] [zR 16 0, zR 22 w, zI x2, zI x3, zI (x4 + (nI 1)), zI ((nI 21) + ((nI 4) * x4))]))
    · have h := h.2 z
      refine WP.k (wpd_m d) 4 (?_ : WP (wpd d) 1 T_X5_passes Q (109, [zR 16 0, zR 22 w, zI x2, zI x3, zI x4, zI ((nI 21) + ((nI 4) * x4))], [zI ((nI 21) + ((nI 4) * x4)), zR 22 w, zI x2, zI x3]) M)
      refine WP.k (wpd_m d) 3 (?_ : vp_in (((nI 21) + ((nI 4) * x4)) + (nI 1)) 45 ∧ WP (wpd d) 1 T_X5_passes Q (112, [zR 16 0, zR 22 w, zI x2, zI x3, zI x4, zI ((nI 21) + ((nI 4) * x4))], [zI (M 22 w ((((nI 21) + ((nI 4) * x4)) + (nI 1)).toNatClampNeg)), zI x2, zI x3]) M)
      refine ⟨h.1, ?_⟩
      have h := h.2
      refine WP.k (wpd_m d) 1 (?_ : wpd d 110 [zI x2, zI (M 22 w ((((nI 21) + ((nI 4) * x4)) + (nI 1)).toNatClampNeg))] M (fun r1 M1 => gO r1 fun v1 => WP (wpd d) 1 T_X5_passes Q (115, [zR 16 0, zR 22 w, zI x2, zI x3, zI x4, zI ((nI 21) + ((nI 4) * x4))], [zI v1, zI x3]) M1))
      refine wpd_m d _ _ _ _ _ (fun r1 M1 q => gO_m (fun v1 h => ?_) q) h
      refine WP.k (wpd_m d) 1 (?_ : ((v1 : Int32) = (nI 0) → WP (wpd d) 1 T_X5_passes Q (136, [zR 16 0, zR 22 w, zI x2, zI x3, zI x4, zI ((nI 21) + ((nI 4) * x4))], [zI x3]) M1) ∧ (¬ (v1 : Int32) = (nI 0) → WP (wpd d) 1 T_X5_passes Q (118, [zR 16 0, zR 22 w, zI x2, zI x3, zI x4, zI ((nI 21) + ((nI 4) * x4))], [zI x3]) M1))
      refine ⟨fun z => ?_, fun z => ?_⟩
      · have h := h.1 z
        exact WP.k (wpd_m d) 1 (WP.le (wpd_m d) h (clr_le [3] [zR 16 0, zR 22 w, zI x2, zI x3, zI x4, zI ((nI 21) + ((nI 4) * x4))]))
      · have h := h.2 z
        refine WP.k (wpd_m d) 4 (?_ : WP (wpd d) 1 T_X5_passes Q (124, [zR 16 0, zR 22 w, zI x2, zI x3, zI x4, zI ((nI 21) + ((nI 4) * x4))], [zI (nI 0), zR 28 0, zR 22 w, zI x3]) M1)
        refine WP.k (wpd_m d) 4 (?_ : WP (wpd d) 1 T_X5_passes Q (129, [zR 16 0, zR 22 w, zI x2, zI x3, zI x4, zI ((nI 21) + ((nI 4) * x4))], [zI (((nI 21) + ((nI 4) * x4)) + (nI 1)), zR 22 w, zI (nI 0), zR 28 0, zR 22 w, zI x3]) M1)
        refine WP.k (wpd_m d) 1 (?_ : vp_in (((nI 21) + ((nI 4) * x4)) + (nI 1)) 45 ∧ WP (wpd d) 1 T_X5_passes Q (130, [zR 16 0, zR 22 w, zI x2, zI x3, zI x4, zI ((nI 21) + ((nI 4) * x4))], [zI (M1 22 w ((((nI 21) + ((nI 4) * x4)) + (nI 1)).toNatClampNeg)), zI (nI 0), zR 28 0, zR 22 w, zI x3]) M1)
        refine ⟨h.1, ?_⟩
        have h := h.2
        refine WP.k (wpd_m d) 1 (?_ : wpd d 147 [zR 22 w, zR 28 0, zI (nI 0), zI (M1 22 w ((((nI 21) + ((nI 4) * x4)) + (nI 1)).toNatClampNeg))] M1 (fun r2 M2 => gO r2 fun v2 => WP (wpd d) 1 T_X5_passes Q (133, [zR 16 0, zR 22 w, zI x2, zI x3, zI x4, zI ((nI 21) + ((nI 4) * x4))], [zI v2, zI x3]) M2))
        refine wpd_m d _ _ _ _ _ (fun r2 M2 q => gO_m (fun v2 h => ?_) q) h
        exact WP.k (wpd_m d) 1 (WP.le (wpd_m d) h (clr_le [3] [zR 16 0, zR 22 w, zI x2, zI x3, zI x4, zI ((nI 21) + ((nI 4) * x4))]))
theorem cp2_X5_passes_137 {d : Nat} {Q : Option AV → Mem → Prop} (w : Nat) (x2 : Int32) (x4 : Int32) (x5 : Int32) (s0 : Int32) (s1 : Int32) (M : Mem) (h : WP (wpd d) 1 T_X5_passes Q (139, [zR 16 0, zR 22 w, zI x2, zI (s1 + s0), zI x4, zI x5], []) M) : WP (wpd d) 1 T_X5_passes Q (137, [zR 16 0, zR 22 w, zI x2, zU, zI x4, zI x5], [zI s0, zI s1]) M := by
  exact WP.k (wpd_m d) 2 h
theorem cp2_X5_passes_139 {d : Nat} {Q : Option AV → Mem → Prop} (w : Nat) (x2 : Int32) (x3 : Int32) (x4 : Int32) (x5 : Int32) (M : Mem) (h : (vp_in (x5 + (nI 1)) 45 ∧ (vp_in ((nI 5) + (M 22 w ((x5 + (nI 1)).toNatClampNeg))) 45 ∧ (vp_in (x5 + (nI 1)) 45 ∧ wpd d 110 [zI x2, zI (M 22 w ((x5 + (nI 1)).toNatClampNeg))] M (fun r1 M1 => gO r1 fun v1 => (((v1 : Int32) = (nI 0) → WP (wpd d) 1 T_X5_passes Q (168, [zR 16 0, zR 22 w, zI x2, zI x3, zI x4, zU], [zI (nI 0), zI (M 22 w (((nI 5) + (M 22 w ((x5 + (nI 1)).toNatClampNeg))).toNatClampNeg)), zI ((nI 5) + (M 22 w ((x5 + (nI 1)).toNatClampNeg))), zR 22 w]) M1) ∧ (¬ (v1 : Int32) = (nI 0) → WP (wpd d) 1 T_X5_passes Q (168, [zR 16 0, zR 22 w, zI x2, zI x3, zI x4, zU], [zI (nI 1), zI (M 22 w (((nI 5) + (M 22 w ((x5 + (nI 1)).toNatClampNeg))).toNatClampNeg)), zI ((nI 5) + (M 22 w ((x5 + (nI 1)).toNatClampNeg))), zR 22 w]) M1))))))) : WP (wpd d) 1 T_X5_passes Q (139, [zR 16 0, zR 22 w, zI x2, zI x3, zI x4, zI x5], []) M := by
  refine WP.k (wpd_m d) 4 (?_ : WP (wpd d) 1 T_X5_passes Q (144, [zR 16 0, zR 22 w, zI x2, zI x3, zI x4, zI x5], [zI x5, zR 22 w, zI (nI 5), zR 22 w]) M)
  refine WP.k (wpd_m d) 3 (?_ : vp_in (x5 + (nI 1)) 45 ∧ WP (wpd d) 1 T_X5_passes Q (147, [zR 16 0, zR 22 w, zI x2, zI x3, zI x4, zI x5], [zI (M 22 w ((x5 + (nI 1)).toNatClampNeg)), zI (nI 5), zR 22 w]) M)
  refine ⟨h.1, ?_⟩
  have h := h.2
  refine WP.k (wpd_m d) 3 (?_ : vp_in ((nI 5) + (M 22 w ((x5 + (nI 1)).toNatClampNeg))) 45 ∧ WP (wpd d) 1 T_X5_passes Q (150, [zR 16 0, zR 22 w, zI x2, zI x3, zI x4, zI x5], [zI (M 22 w (((nI 5) + (M 22 w ((x5 + (nI 1)).toNatClampNeg))).toNatClampNeg)), zI ((nI 5) + (M 22 w ((x5 + (nI 1)).toNatClampNeg))), zR 22 w]) M)
  refine ⟨h.1, ?_⟩
  have h := h.2
  refine WP.k (wpd_m d) 4 (?_ : WP (wpd d) 1 T_X5_passes Q (155, [zR 16 0, zR 22 w, zI x2, zI x3, zI x4, zI x5], [zI (nI 1), zI x5, zR 22 w, zI x2, zI (M 22 w (((nI 5) + (M 22 w ((x5 + (nI 1)).toNatClampNeg))).toNatClampNeg)), zI ((nI 5) + (M 22 w ((x5 + (nI 1)).toNatClampNeg))), zR 22 w]) M)
  refine WP.k (wpd_m d) 2 (?_ : vp_in (x5 + (nI 1)) 45 ∧ WP (wpd d) 1 T_X5_passes Q (157, [zR 16 0, zR 22 w, zI x2, zI x3, zI x4, zI x5], [zI (M 22 w ((x5 + (nI 1)).toNatClampNeg)), zI x2, zI (M 22 w (((nI 5) + (M 22 w ((x5 + (nI 1)).toNatClampNeg))).toNatClampNeg)), zI ((nI 5) + (M 22 w ((x5 + (nI 1)).toNatClampNeg))), zR 22 w]) M)
  refine ⟨h.1, ?_⟩
  have h := h.2
  refine WP.k (wpd_m d) 1 (?_ : wpd d 110 [zI x2, zI (M 22 w ((x5 + (nI 1)).toNatClampNeg))] M (fun r1 M1 => gO r1 fun v1 => WP (wpd d) 1 T_X5_passes Q (160, [zR 16 0, zR 22 w, zI x2, zI x3, zI x4, zI x5], [zI v1, zI (M 22 w (((nI 5) + (M 22 w ((x5 + (nI 1)).toNatClampNeg))).toNatClampNeg)), zI ((nI 5) + (M 22 w ((x5 + (nI 1)).toNatClampNeg))), zR 22 w]) M1))
  refine wpd_m d _ _ _ _ _ (fun r1 M1 q => gO_m (fun v1 h => ?_) q) h
  refine WP.k (wpd_m d) 1 (?_ : ((v1 : Int32) = (nI 0) → WP (wpd d) 1 T_X5_passes Q (167, [zR 16 0, zR 22 w, zI x2, zI x3, zI x4, zI x5], [zI (M 22 w (((nI 5) + (M 22 w ((x5 + (nI 1)).toNatClampNeg))).toNatClampNeg)), zI ((nI 5) + (M 22 w ((x5 + (nI 1)).toNatClampNeg))), zR 22 w]) M1) ∧ (¬ (v1 : Int32) = (nI 0) → WP (wpd d) 1 T_X5_passes Q (163, [zR 16 0, zR 22 w, zI x2, zI x3, zI x4, zI x5], [zI (M 22 w (((nI 5) + (M 22 w ((x5 + (nI 1)).toNatClampNeg))).toNatClampNeg)), zI ((nI 5) + (M 22 w ((x5 + (nI 1)).toNatClampNeg))), zR 22 w]) M1))
  refine ⟨fun z => ?_, fun z => ?_⟩
  · have h := h.1 z
    exact WP.k (wpd_m d) 1 (WP.le (wpd_m d) h (clr_le [5] [zR 16 0, zR 22 w, zI x2, zI x3, zI x4, zI x5]))
  · have h := h.2 z
    exact WP.k (wpd_m d) 2 (WP.le (wpd_m d) h (clr_le [5] [zR 16 0, zR 22 w, zI x2, zI x3, zI x4, zI x5]))
theorem cp2_X5_passes_168 {d : Nat} {Q : Option AV → Mem → Prop} (w : Nat) (x2 : Int32) (x3 : Int32) (x4 : Int32) (s0 : Int32) (s1 : Int32) (s2 : Int32) (M : Mem) (h : (vp_in s2 45 ∧ WP (wpd d) 1 T_X5_passes Q (78, [zR 16 0, zR 22 w, zI x2, zI x3, zI (x4 + (nI 1)), zU], []) (mup M 22 w s2.toNatClampNeg (s1 - s0)))) : WP (wpd d) 1 T_X5_passes Q (168, [zR 16 0, zR 22 w, zI x2, zI x3, zI x4, zU], [zI s0, zI s1, zI s2, zR 22 w]) M := by
  refine WP.k (wpd_m d) 2 (?_ : vp_in s2 45 ∧ WP (wpd d) 1 T_X5_passes Q (170, [zR 16 0, zR 22 w, zI x2, zI x3, zI x4, zU], []) (mup M 22 w s2.toNatClampNeg (s1 - s0)))
  refine ⟨h.1, ?_⟩
  have h := h.2
  exact WP.k (wpd_m d) 2 h
theorem cp2_X5_passes_179 {d : Nat} {Q : Option AV → Mem → Prop} (w : Nat) (x2 : Int32) (x3 : Int32) (x4 : Int32) (M : Mem) (h : (vp_in (nI 1) 45 ∧ (((M 22 w 1) ≤ (x4 : Int32) → (vp_in (nI 4) 45 ∧ wpd d 112 [zI (nI 999999), zI ((M 22 w 4) + x3)] M (fun r1 M1 => gO r1 fun v1 => (vp_in (nI 4) 45 ∧ (vp_in (nI 3) 45 ∧ (vp_in (nI 3) 45 ∧ Q (some (zI x3)) (mup (mup M1 22 w 4 v1) 22 w 3 (((mup M1 22 w 4 v1) 22 w 3) + (nI 1))))))))) ∧ (¬ (M 22 w 1) ≤ (x4 : Int32) → (vp_in ((nI 5) + x4) 45 ∧ wpd d 110 [zI x2, zI x4] M (fun r2 M2 => gO r2 fun v2 => (((v2 : Int32) = (nI 0) → WP (wpd d) 1 T_X5_passes Q (210, [zU, zR 22 w, zI x2, zI x3, zI x4, zU], [zI (nI 0), zI (M 22 w (((nI 5) + x4).toNatClampNeg)), zI ((nI 5) + x4), zR 22 w]) M2) ∧ (¬ (v2 : Int32) = (nI 0) → (vp_in (nI 0) 45 ∧ WP (wpd d) 1 T_X5_passes Q (210, [zU, zR 22 w, zI x2, zI x3, zI x4, zU], [zI (M2 22 w 0), zI (M 22 w (((nI 5) + x4).toNatClampNeg)), zI ((nI 5) + x4), zR 22 w]) M2))))))))) : WP (wpd d) 1 T_X5_passes Q (179, [zU, zR 22 w, zI x2, zI x3, zI x4, zU], []) M := by
  refine WP.k (wpd_m d) 4 (?_ : vp_in (nI 1) 45 ∧ WP (wpd d) 1 T_X5_passes Q (184, [zU, zR 22 w, zI x2, zI x3, zI x4, zU], [zI (M 22 w 1), zI x4]) M)
  refine ⟨h.1, ?_⟩
  have h := h.2
  refine WP.k (wpd_m d) 1 (?_ : ((M 22 w 1) ≤ (x4 : Int32) → WP (wpd d) 1 T_X5_passes Q (243, [zU, zR 22 w, zI x2, zI x3, zI x4, zU], []) M) ∧ (¬ (M 22 w 1) ≤ (x4 : Int32) → WP (wpd d) 1 T_X5_passes Q (187, [zU, zR 22 w, zI x2, zI x3, zI x4, zU], []) M))
  refine ⟨fun z => ?_, fun z => ?_⟩
  · have h := h.1 z
    refine WP.k (wpd_m d) 4 (?_ : WP (wpd d) 1 T_X5_passes Q (248, [zU, zR 22 w, zI x2, zI x3, zI x4, zU], [zR 22 w, zI (nI 999999), zI (nI 4), zR 22 w]) M)
    refine WP.k (wpd_m d) 2 (?_ : vp_in (nI 4) 45 ∧ WP (wpd d) 1 T_X5_passes Q (250, [zU, zR 22 w, zI x2, zI x3, zI x4, zU], [zI (M 22 w 4), zI (nI 999999), zI (nI 4), zR 22 w]) M)
    refine ⟨h.1, ?_⟩
    have h := h.2
    refine WP.k (wpd_m d) 3 (?_ : wpd d 112 [zI (nI 999999), zI ((M 22 w 4) + x3)] M (fun r1 M1 => gO r1 fun v1 => WP (wpd d) 1 T_X5_passes Q (255, [zU, zR 22 w, zI x2, zI x3, zI x4, zU], [zI v1, zI (nI 4), zR 22 w]) M1))
    refine wpd_m d _ _ _ _ _ (fun r1 M1 q => gO_m (fun v1 h => ?_) q) h
    refine WP.k (wpd_m d) 1 (?_ : vp_in (nI 4) 45 ∧ WP (wpd d) 1 T_X5_passes Q (256, [zU, zR 22 w, zI x2, zI x3, zI x4, zU], []) (mup M1 22 w 4 v1))
    refine ⟨h.1, ?_⟩
    have h := h.2
    refine WP.k (wpd_m d) 4 (?_ : vp_in (nI 3) 45 ∧ WP (wpd d) 1 T_X5_passes Q (260, [zU, zR 22 w, zI x2, zI x3, zI x4, zU], [zI ((mup M1 22 w 4 v1) 22 w 3), zI (nI 3), zR 22 w]) (mup M1 22 w 4 v1))
    refine ⟨h.1, ?_⟩
    have h := h.2
    refine WP.k (wpd_m d) 3 (?_ : vp_in (nI 3) 45 ∧ WP (wpd d) 1 T_X5_passes Q (263, [zU, zR 22 w, zI x2, zI x3, zI x4, zU], []) (mup (mup M1 22 w 4 v1) 22 w 3 (((mup M1 22 w 4 v1) 22 w 3) + (nI 1))))
    refine ⟨h.1, ?_⟩
    have h := h.2
    exact WP.k (wpd_m d) 2 h
  · have h := h.2 z
    refine WP.k (wpd_m d) 4 (?_ : WP (wpd d) 1 T_X5_passes Q (192, [zU, zR 22 w, zI x2, zI x3, zI x4, zU], [zI ((nI 5) + x4), zR 22 w]) M)
    refine WP.k (wpd_m d) 2 (?_ : vp_in ((nI 5) + x4) 45 ∧ WP (wpd d) 1 T_X5_passes Q (194, [zU, zR 22 w, zI x2, zI x3, zI x4, zU], [zI (M 22 w (((nI 5) + x4).toNatClampNeg)), zI ((nI 5) + x4), zR 22 w]) M)
    refine ⟨h.1, ?_⟩
    have h := h.2
    refine WP.k (wpd_m d) 3 (?_ : wpd d 110 [zI x2, zI x4] M (fun r2 M2 => gO r2 fun v2 => WP (wpd d) 1 T_X5_passes Q (200, [zU, zR 22 w, zI x2, zI x3, zI x4, zU], [zI v2, zI (M 22 w (((nI 5) + x4).toNatClampNeg)), zI ((nI 5) + x4), zR 22 w]) M2))
    refine wpd_m d _ _ _ _ _ (fun r2 M2 q => gO_m (fun v2 h => ?_) q) h
    refine WP.k (wpd_m d) 1 (?_ : ((v2 : Int32) = (nI 0) → WP (wpd d) 1 T_X5_passes Q (209, [zU, zR 22 w, zI x2, zI x3, zI x4, zU], [zI (M 22 w (((nI 5) + x4).toNatClampNeg)), zI ((nI 5) + x4), zR 22 w]) M2) ∧ (¬ (v2 : Int32) = (nI 0) → WP (wpd d) 1 T_X5_passes Q (203, [zU, zR 22 w, zI x2, zI x3, zI x4, zU], [zI (M 22 w (((nI 5) + x4).toNatClampNeg)), zI ((nI 5) + x4), zR 22 w]) M2))
    refine ⟨fun z => ?_, fun z => ?_⟩
    · have h := h.1 z
      exact WP.k (wpd_m d) 1 h
    · have h := h.2 z
      refine WP.k (wpd_m d) 3 (?_ : vp_in (nI 0) 45 ∧ WP (wpd d) 1 T_X5_passes Q (206, [zU, zR 22 w, zI x2, zI x3, zI x4, zU], [zI (M2 22 w 0), zI (M 22 w (((nI 5) + x4).toNatClampNeg)), zI ((nI 5) + x4), zR 22 w]) M2)
      refine ⟨h.1, ?_⟩
      have h := h.2
      exact WP.k (wpd_m d) 1 h
theorem cp2_X5_passes_210 {d : Nat} {Q : Option AV → Mem → Prop} (w : Nat) (x2 : Int32) (x3 : Int32) (x4 : Int32) (s0 : Int32) (s1 : Int32) (s2 : Int32) (M : Mem) (h : (vp_in s2 45 ∧ WP (wpd d) 1 T_X5_passes Q (212, [zU, zR 22 w, zI x2, zI x3, zI x4, zU], []) (mup M 22 w s2.toNatClampNeg (s1 - s0)))) : WP (wpd d) 1 T_X5_passes Q (210, [zU, zR 22 w, zI x2, zI x3, zI x4, zU], [zI s0, zI s1, zI s2, zR 22 w]) M := by
  refine WP.k (wpd_m d) 2 (?_ : vp_in s2 45 ∧ WP (wpd d) 1 T_X5_passes Q (212, [zU, zR 22 w, zI x2, zI x3, zI x4, zU], []) (mup M 22 w s2.toNatClampNeg (s1 - s0)))
  refine ⟨h.1, ?_⟩
  have h := h.2
  exact h
theorem cp2_X5_passes_212 {d : Nat} {Q : Option AV → Mem → Prop} (w : Nat) (x2 : Int32) (x3 : Int32) (x4 : Int32) (M : Mem) (h : (vp_in ((nI 5) + x4) 45 ∧ (((nI 0) ≤ ((M 22 w (((nI 5) + x4).toNatClampNeg)) : Int32) → (vp_in ((nI 5) + x4) 45 ∧ WP (wpd d) 1 T_X5_passes Q (236, [zU, zR 22 w, zI x2, zI x3, zI x4, zU], [zI (M 22 w (((nI 5) + x4).toNatClampNeg)), zI ((nI 5) + x4), zR 22 w]) M)) ∧ (¬ (nI 0) ≤ ((M 22 w (((nI 5) + x4).toNatClampNeg)) : Int32) → WP (wpd d) 1 T_X5_passes Q (236, [zU, zR 22 w, zI x2, zI x3, zI x4, zU], [zI (nI 0), zI ((nI 5) + x4), zR 22 w]) M)))) : WP (wpd d) 1 T_X5_passes Q (212, [zU, zR 22 w, zI x2, zI x3, zI x4, zU], []) M := by
  refine WP.k (wpd_m d) 4 (?_ : WP (wpd d) 1 T_X5_passes Q (217, [zU, zR 22 w, zI x2, zI x3, zI x4, zU], [zI ((nI 5) + x4), zR 22 w]) M)
  refine WP.k (wpd_m d) 4 (?_ : WP (wpd d) 1 T_X5_passes Q (222, [zU, zR 22 w, zI x2, zI x3, zI x4, zU], [zI ((nI 5) + x4), zR 22 w, zI ((nI 5) + x4), zR 22 w]) M)
  refine WP.k (wpd_m d) 1 (?_ : vp_in ((nI 5) + x4) 45 ∧ WP (wpd d) 1 T_X5_passes Q (223, [zU, zR 22 w, zI x2, zI x3, zI x4, zU], [zI (M 22 w (((nI 5) + x4).toNatClampNeg)), zI ((nI 5) + x4), zR 22 w]) M)
  refine ⟨h.1, ?_⟩
  have h := h.2
  refine WP.k (wpd_m d) 1 (?_ : ((nI 0) ≤ ((M 22 w (((nI 5) + x4).toNatClampNeg)) : Int32) → WP (wpd d) 1 T_X5_passes Q (230, [zU, zR 22 w, zI x2, zI x3, zI x4, zU], [zI ((nI 5) + x4), zR 22 w]) M) ∧ (¬ (nI 0) ≤ ((M 22 w (((nI 5) + x4).toNatClampNeg)) : Int32) → WP (wpd d) 1 T_X5_passes Q (226, [zU, zR 22 w, zI x2, zI x3, zI x4, zU], [zI ((nI 5) + x4), zR 22 w]) M))
  refine ⟨fun z => ?_, fun z => ?_⟩
  · have h := h.1 z
    refine WP.k (wpd_m d) 4 (?_ : WP (wpd d) 1 T_X5_passes Q (235, [zU, zR 22 w, zI x2, zI x3, zI x4, zU], [zI ((nI 5) + x4), zR 22 w, zI ((nI 5) + x4), zR 22 w]) M)
    refine WP.k (wpd_m d) 1 (?_ : vp_in ((nI 5) + x4) 45 ∧ WP (wpd d) 1 T_X5_passes Q (236, [zU, zR 22 w, zI x2, zI x3, zI x4, zU], [zI (M 22 w (((nI 5) + x4).toNatClampNeg)), zI ((nI 5) + x4), zR 22 w]) M)
    refine ⟨h.1, ?_⟩
    have h := h.2
    exact h
  · have h := h.2 z
    exact WP.k (wpd_m d) 2 h
theorem cp2_X5_passes_236 {d : Nat} {Q : Option AV → Mem → Prop} (w : Nat) (x2 : Int32) (x3 : Int32) (x4 : Int32) (s0 : Int32) (s1 : Int32) (M : Mem) (h : (vp_in s1 45 ∧ WP (wpd d) 1 T_X5_passes Q (179, [zU, zR 22 w, zI x2, zI x3, zI (x4 + (nI 1)), zU], []) (mup M 22 w s1.toNatClampNeg s0))) : WP (wpd d) 1 T_X5_passes Q (236, [zU, zR 22 w, zI x2, zI x3, zI x4, zU], [zI s0, zI s1, zR 22 w]) M := by
  refine WP.k (wpd_m d) 1 (?_ : vp_in s1 45 ∧ WP (wpd d) 1 T_X5_passes Q (237, [zU, zR 22 w, zI x2, zI x3, zI x4, zU], []) (mup M 22 w s1.toNatClampNeg s0))
  refine ⟨h.1, ?_⟩
  have h := h.2
  exact WP.k (wpd_m d) 2 h
