/-! THE LAW'S LOOP, over any calls (printed as 11) -/
theorem cq_L_law_16 {call : Call} (hc : Mono call) {Q : Option AV → Mem → Prop} (M : Mem) (h : WP call 2 T_L_law Q (18, [zR 33 0, zR 0 0, zR 16 0, zI (nI 0)], []) M) : WP call 2 T_L_law Q (16, [zR 33 0, zR 0 0, zR 16 0, zU], []) M := by
  exact WP.k hc 2 h
theorem cq_L_law_18 {call : Call} (hc : Mono call) {Q : Option AV → Mem → Prop}  (x3 : Int32) (M : Mem) (h : ((((M 33 1 0) - (nI 6)) < (x3 : Int32) → (((nI 1 : Int32) = 0 ∨ (nI 1 : Int32) = 1) ∧ Q (some (zI (nI 1))) M)) ∧ (¬ ((M 33 1 0) - (nI 6)) < (x3 : Int32) → (vp_in x3 (M 33 1 0).toNatClampNeg ∧ ((((M 33 0 x3.toNatClampNeg) &&& (nI 63)) = nI 0 → (vp_in (x3 + (nI 1)) (M 33 1 0).toNatClampNeg ∧ (vp_in (x3 + (nI 2)) (M 33 1 0).toNatClampNeg ∧ (vp_in (x3 + (nI 3)) (M 33 1 0).toNatClampNeg ∧ call 54 [zR 0 0, zI (M 33 0 ((x3 + (nI 1)).toNatClampNeg)), zI (M 33 0 ((x3 + (nI 2)).toNatClampNeg)), zI (M 33 0 ((x3 + (nI 3)).toNatClampNeg))] M (fun r71 M71 => gO r71 fun v71 => (vp_in (x3 + (nI 1)) (M71 33 1 0).toNatClampNeg ∧ (vp_in (x3 + (nI 2)) (M71 33 1 0).toNatClampNeg ∧ (vp_in (x3 + (nI 3)) (M71 33 1 0).toNatClampNeg ∧ call 119 [zR 16 0, zI (M71 33 0 ((x3 + (nI 1)).toNatClampNeg)), zI (M71 33 0 ((x3 + (nI 2)).toNatClampNeg)), zI (M71 33 0 ((x3 + (nI 3)).toNatClampNeg))] M71 (fun r72 M72 => gO r72 fun v72 => (((v71 : Int32) = v72 → WP call 2 T_L_law Q (18, [zR 33 0, zR 0 0, zR 16 0, zI (x3 + (nI 6))], []) M72) ∧ (¬ (v71 : Int32) = v72 → (((nI 0 : Int32) = 0 ∨ (nI 0 : Int32) = 1) ∧ Q (some (zI (nI 0))) M72)))))))))))) ∧ (¬ ((M 33 0 x3.toNatClampNeg) &&& (nI 63)) = nI 0 → ((((M 33 0 x3.toNatClampNeg) &&& (nI 63)) = nI 1 → (vp_in (x3 + (nI 1)) (M 33 1 0).toNatClampNeg ∧ (vp_in (x3 + (nI 2)) (M 33 1 0).toNatClampNeg ∧ (vp_in (x3 + (nI 3)) (M 33 1 0).toNatClampNeg ∧ call 55 [zR 0 0, zI (M 33 0 ((x3 + (nI 1)).toNatClampNeg)), zI (M 33 0 ((x3 + (nI 2)).toNatClampNeg)), zI (M 33 0 ((x3 + (nI 3)).toNatClampNeg))] M (fun r69 M69 => gO r69 fun v69 => (vp_in (x3 + (nI 1)) (M69 33 1 0).toNatClampNeg ∧ (vp_in (x3 + (nI 2)) (M69 33 1 0).toNatClampNeg ∧ (vp_in (x3 + (nI 3)) (M69 33 1 0).toNatClampNeg ∧ call 120 [zR 16 0, zI (M69 33 0 ((x3 + (nI 1)).toNatClampNeg)), zI (M69 33 0 ((x3 + (nI 2)).toNatClampNeg)), zI (M69 33 0 ((x3 + (nI 3)).toNatClampNeg))] M69 (fun r70 M70 => gO r70 fun v70 => (((v69 : Int32) = v70 → WP call 2 T_L_law Q (18, [zR 33 0, zR 0 0, zR 16 0, zI (x3 + (nI 6))], []) M70) ∧ (¬ (v69 : Int32) = v70 → (((nI 0 : Int32) = 0 ∨ (nI 0 : Int32) = 1) ∧ Q (some (zI (nI 0))) M70)))))))))))) ∧ (¬ ((M 33 0 x3.toNatClampNeg) &&& (nI 63)) = nI 1 → ((((M 33 0 x3.toNatClampNeg) &&& (nI 63)) = nI 2 → (vp_in (x3 + (nI 1)) (M 33 1 0).toNatClampNeg ∧ (vp_in (x3 + (nI 2)) (M 33 1 0).toNatClampNeg ∧ (vp_in (x3 + (nI 3)) (M 33 1 0).toNatClampNeg ∧ (vp_in (x3 + (nI 4)) (M 33 1 0).toNatClampNeg ∧ (vp_in (x3 + (nI 5)) (M 33 1 0).toNatClampNeg ∧ call 56 [zR 0 0, zI (M 33 0 ((x3 + (nI 1)).toNatClampNeg)), zI (M 33 0 ((x3 + (nI 2)).toNatClampNeg)), zI (M 33 0 ((x3 + (nI 3)).toNatClampNeg)), zI (M 33 0 ((x3 + (nI 4)).toNatClampNeg)), zI (M 33 0 ((x3 + (nI 5)).toNatClampNeg))] M (fun r67 M67 => gO r67 fun v67 => (vp_in (x3 + (nI 1)) (M67 33 1 0).toNatClampNeg ∧ (vp_in (x3 + (nI 2)) (M67 33 1 0).toNatClampNeg ∧ (vp_in (x3 + (nI 3)) (M67 33 1 0).toNatClampNeg ∧ (vp_in (x3 + (nI 4)) (M67 33 1 0).toNatClampNeg ∧ (vp_in (x3 + (nI 5)) (M67 33 1 0).toNatClampNeg ∧ call 122 [zR 16 0, zI (M67 33 0 ((x3 + (nI 1)).toNatClampNeg)), zI (M67 33 0 ((x3 + (nI 2)).toNatClampNeg)), zI (M67 33 0 ((x3 + (nI 3)).toNatClampNeg)), zI (M67 33 0 ((x3 + (nI 4)).toNatClampNeg)), zI (M67 33 0 ((x3 + (nI 5)).toNatClampNeg))] M67 (fun r68 M68 => gO r68 fun v68 => (((v67 : Int32) = v68 → WP call 2 T_L_law Q (18, [zR 33 0, zR 0 0, zR 16 0, zI (x3 + (nI 6))], []) M68) ∧ (¬ (v67 : Int32) = v68 → (((nI 0 : Int32) = 0 ∨ (nI 0 : Int32) = 1) ∧ Q (some (zI (nI 0))) M68)))))))))))))))) ∧ (¬ ((M 33 0 x3.toNatClampNeg) &&& (nI 63)) = nI 2 → ((((M 33 0 x3.toNatClampNeg) &&& (nI 63)) = nI 3 → (vp_in (x3 + (nI 1)) (M 33 1 0).toNatClampNeg ∧ call 57 [zR 0 0, zI (M 33 0 ((x3 + (nI 1)).toNatClampNeg))] M (fun r65 M65 => gO r65 fun v65 => (vp_in (x3 + (nI 1)) (M65 33 1 0).toNatClampNeg ∧ call 123 [zR 16 0, zI (M65 33 0 ((x3 + (nI 1)).toNatClampNeg))] M65 (fun r66 M66 => gO r66 fun v66 => (((v65 : Int32) = v66 → WP call 2 T_L_law Q (18, [zR 33 0, zR 0 0, zR 16 0, zI (x3 + (nI 6))], []) M66) ∧ (¬ (v65 : Int32) = v66 → (((nI 0 : Int32) = 0 ∨ (nI 0 : Int32) = 1) ∧ Q (some (zI (nI 0))) M66)))))))) ∧ (¬ ((M 33 0 x3.toNatClampNeg) &&& (nI 63)) = nI 3 → ((((M 33 0 x3.toNatClampNeg) &&& (nI 63)) = nI 4 → (vp_in (x3 + (nI 1)) (M 33 1 0).toNatClampNeg ∧ call 58 [zR 0 0, zI (M 33 0 ((x3 + (nI 1)).toNatClampNeg))] M (fun r63 M63 => gO r63 fun v63 => (vp_in (x3 + (nI 1)) (M63 33 1 0).toNatClampNeg ∧ call 124 [zR 16 0, zI (M63 33 0 ((x3 + (nI 1)).toNatClampNeg))] M63 (fun r64 M64 => gO r64 fun v64 => (((v63 : Int32) = v64 → WP call 2 T_L_law Q (18, [zR 33 0, zR 0 0, zR 16 0, zI (x3 + (nI 6))], []) M64) ∧ (¬ (v63 : Int32) = v64 → (((nI 0 : Int32) = 0 ∨ (nI 0 : Int32) = 1) ∧ Q (some (zI (nI 0))) M64)))))))) ∧ (¬ ((M 33 0 x3.toNatClampNeg) &&& (nI 63)) = nI 4 → ((((M 33 0 x3.toNatClampNeg) &&& (nI 63)) = nI 5 → call 59 [zR 0 0] M (fun r61 M61 => gO r61 fun v61 => call 136 [zR 16 0] M61 (fun r62 M62 => gO r62 fun v62 => (((v61 : Int32) = v62 → WP call 2 T_L_law Q (18, [zR 33 0, zR 0 0, zR 16 0, zI (x3 + (nI 6))], []) M62) ∧ (¬ (v61 : Int32) = v62 → (((nI 0 : Int32) = 0 ∨ (nI 0 : Int32) = 1) ∧ Q (some (zI (nI 0))) M62)))))) ∧ (¬ ((M 33 0 x3.toNatClampNeg) &&& (nI 63)) = nI 5 → ((((M 33 0 x3.toNatClampNeg) &&& (nI 63)) = nI 6 → call 60 [zR 0 0] M (fun r59 M59 => gO r59 fun v59 => call 137 [zR 16 0] M59 (fun r60 M60 => gO r60 fun v60 => (((v59 : Int32) = v60 → WP call 2 T_L_law Q (18, [zR 33 0, zR 0 0, zR 16 0, zI (x3 + (nI 6))], []) M60) ∧ (¬ (v59 : Int32) = v60 → (((nI 0 : Int32) = 0 ∨ (nI 0 : Int32) = 1) ∧ Q (some (zI (nI 0))) M60)))))) ∧ (¬ ((M 33 0 x3.toNatClampNeg) &&& (nI 63)) = nI 6 → ((((M 33 0 x3.toNatClampNeg) &&& (nI 63)) = nI 7 → (vp_in (x3 + (nI 1)) (M 33 1 0).toNatClampNeg ∧ call 61 [zR 0 0, zI (M 33 0 ((x3 + (nI 1)).toNatClampNeg))] M (fun r57 M57 => gO r57 fun v57 => (vp_in (x3 + (nI 1)) (M57 33 1 0).toNatClampNeg ∧ call 152 [zR 16 0, zI (M57 33 0 ((x3 + (nI 1)).toNatClampNeg))] M57 (fun r58 M58 => gO r58 fun v58 => (((v57 : Int32) = v58 → WP call 2 T_L_law Q (18, [zR 33 0, zR 0 0, zR 16 0, zI (x3 + (nI 6))], []) M58) ∧ (¬ (v57 : Int32) = v58 → (((nI 0 : Int32) = 0 ∨ (nI 0 : Int32) = 1) ∧ Q (some (zI (nI 0))) M58)))))))) ∧ (¬ ((M 33 0 x3.toNatClampNeg) &&& (nI 63)) = nI 7 → ((((M 33 0 x3.toNatClampNeg) &&& (nI 63)) = nI 8 → (vp_in (x3 + (nI 1)) (M 33 1 0).toNatClampNeg ∧ (vp_in (x3 + (nI 2)) (M 33 1 0).toNatClampNeg ∧ call 62 [zR 0 0, zI (M 33 0 ((x3 + (nI 1)).toNatClampNeg)), zI (M 33 0 ((x3 + (nI 2)).toNatClampNeg))] M (fun r55 M55 => gO r55 fun v55 => (vp_in (x3 + (nI 1)) (M55 33 1 0).toNatClampNeg ∧ (vp_in (x3 + (nI 2)) (M55 33 1 0).toNatClampNeg ∧ call 153 [zR 16 0, zI (M55 33 0 ((x3 + (nI 1)).toNatClampNeg)), zI (M55 33 0 ((x3 + (nI 2)).toNatClampNeg))] M55 (fun r56 M56 => gO r56 fun v56 => (((v55 : Int32) = v56 → WP call 2 T_L_law Q (18, [zR 33 0, zR 0 0, zR 16 0, zI (x3 + (nI 6))], []) M56) ∧ (¬ (v55 : Int32) = v56 → (((nI 0 : Int32) = 0 ∨ (nI 0 : Int32) = 1) ∧ Q (some (zI (nI 0))) M56)))))))))) ∧ (¬ ((M 33 0 x3.toNatClampNeg) &&& (nI 63)) = nI 8 → ((((M 33 0 x3.toNatClampNeg) &&& (nI 63)) = nI 9 → (vp_in (x3 + (nI 1)) (M 33 1 0).toNatClampNeg ∧ call 63 [zR 0 0, zI (M 33 0 ((x3 + (nI 1)).toNatClampNeg))] M (fun r53 M53 => gO r53 fun v53 => (vp_in (x3 + (nI 1)) (M53 33 1 0).toNatClampNeg ∧ call 154 [zR 16 0, zI (M53 33 0 ((x3 + (nI 1)).toNatClampNeg))] M53 (fun r54 M54 => gO r54 fun v54 => (((v53 : Int32) = v54 → WP call 2 T_L_law Q (18, [zR 33 0, zR 0 0, zR 16 0, zI (x3 + (nI 6))], []) M54) ∧ (¬ (v53 : Int32) = v54 → (((nI 0 : Int32) = 0 ∨ (nI 0 : Int32) = 1) ∧ Q (some (zI (nI 0))) M54)))))))) ∧ (¬ ((M 33 0 x3.toNatClampNeg) &&& (nI 63)) = nI 9 → ((((M 33 0 x3.toNatClampNeg) &&& (nI 63)) = nI 10 → (vp_in (x3 + (nI 1)) (M 33 1 0).toNatClampNeg ∧ (vp_in (x3 + (nI 2)) (M 33 1 0).toNatClampNeg ∧ call 64 [zR 0 0, zI (M 33 0 ((x3 + (nI 1)).toNatClampNeg)), zI (M 33 0 ((x3 + (nI 2)).toNatClampNeg))] M (fun r51 M51 => gO r51 fun v51 => (vp_in (x3 + (nI 1)) (M51 33 1 0).toNatClampNeg ∧ (vp_in (x3 + (nI 2)) (M51 33 1 0).toNatClampNeg ∧ call 155 [zR 16 0, zI (M51 33 0 ((x3 + (nI 1)).toNatClampNeg)), zI (M51 33 0 ((x3 + (nI 2)).toNatClampNeg))] M51 (fun r52 M52 => gO r52 fun v52 => (((v51 : Int32) = v52 → WP call 2 T_L_law Q (18, [zR 33 0, zR 0 0, zR 16 0, zI (x3 + (nI 6))], []) M52) ∧ (¬ (v51 : Int32) = v52 → (((nI 0 : Int32) = 0 ∨ (nI 0 : Int32) = 1) ∧ Q (some (zI (nI 0))) M52)))))))))) ∧ (¬ ((M 33 0 x3.toNatClampNeg) &&& (nI 63)) = nI 10 → ((((M 33 0 x3.toNatClampNeg) &&& (nI 63)) = nI 11 → (vp_in (x3 + (nI 1)) (M 33 1 0).toNatClampNeg ∧ call 65 [zR 0 0, zI (M 33 0 ((x3 + (nI 1)).toNatClampNeg))] M (fun r49 M49 => gO r49 fun v49 => (vp_in (x3 + (nI 1)) (M49 33 1 0).toNatClampNeg ∧ call 156 [zR 16 0, zI (M49 33 0 ((x3 + (nI 1)).toNatClampNeg))] M49 (fun r50 M50 => gO r50 fun v50 => (((v49 : Int32) = v50 → WP call 2 T_L_law Q (18, [zR 33 0, zR 0 0, zR 16 0, zI (x3 + (nI 6))], []) M50) ∧ (¬ (v49 : Int32) = v50 → (((nI 0 : Int32) = 0 ∨ (nI 0 : Int32) = 1) ∧ Q (some (zI (nI 0))) M50)))))))) ∧ (¬ ((M 33 0 x3.toNatClampNeg) &&& (nI 63)) = nI 11 → ((((M 33 0 x3.toNatClampNeg) &&& (nI 63)) = nI 12 → call 66 [zR 0 0] M (fun r47 M47 => gO r47 fun v47 => call 157 [zR 16 0] M47 (fun r48 M48 => gO r48 fun v48 => (((v47 : Int32) = v48 → WP call 2 T_L_law Q (18, [zR 33 0, zR 0 0, zR 16 0, zI (x3 + (nI 6))], []) M48) ∧ (¬ (v47 : Int32) = v48 → (((nI 0 : Int32) = 0 ∨ (nI 0 : Int32) = 1) ∧ Q (some (zI (nI 0))) M48)))))) ∧ (¬ ((M 33 0 x3.toNatClampNeg) &&& (nI 63)) = nI 12 → ((((M 33 0 x3.toNatClampNeg) &&& (nI 63)) = nI 13 → (vp_in (x3 + (nI 1)) (M 33 1 0).toNatClampNeg ∧ (vp_in (x3 + (nI 2)) (M 33 1 0).toNatClampNeg ∧ call 67 [zR 0 0, zI (M 33 0 ((x3 + (nI 1)).toNatClampNeg)), zI (M 33 0 ((x3 + (nI 2)).toNatClampNeg))] M (fun r45 M45 => gO r45 fun v45 => (vp_in (x3 + (nI 1)) (M45 33 1 0).toNatClampNeg ∧ (vp_in (x3 + (nI 2)) (M45 33 1 0).toNatClampNeg ∧ call 158 [zR 16 0, zI (M45 33 0 ((x3 + (nI 1)).toNatClampNeg)), zI (M45 33 0 ((x3 + (nI 2)).toNatClampNeg))] M45 (fun r46 M46 => gO r46 fun v46 => (((v45 : Int32) = v46 → WP call 2 T_L_law Q (18, [zR 33 0, zR 0 0, zR 16 0, zI (x3 + (nI 6))], []) M46) ∧ (¬ (v45 : Int32) = v46 → (((nI 0 : Int32) = 0 ∨ (nI 0 : Int32) = 1) ∧ Q (some (zI (nI 0))) M46)))))))))) ∧ (¬ ((M 33 0 x3.toNatClampNeg) &&& (nI 63)) = nI 13 → ((((M 33 0 x3.toNatClampNeg) &&& (nI 63)) = nI 14 → (vp_in (x3 + (nI 1)) (M 33 1 0).toNatClampNeg ∧ (vp_in (x3 + (nI 2)) (M 33 1 0).toNatClampNeg ∧ call 68 [zR 0 0, zI (M 33 0 ((x3 + (nI 1)).toNatClampNeg)), zI (M 33 0 ((x3 + (nI 2)).toNatClampNeg))] M (fun r43 M43 => gO r43 fun v43 => (vp_in (x3 + (nI 1)) (M43 33 1 0).toNatClampNeg ∧ (vp_in (x3 + (nI 2)) (M43 33 1 0).toNatClampNeg ∧ call 160 [zR 16 0, zI (M43 33 0 ((x3 + (nI 1)).toNatClampNeg)), zI (M43 33 0 ((x3 + (nI 2)).toNatClampNeg))] M43 (fun r44 M44 => gO r44 fun v44 => (((v43 : Int32) = v44 → WP call 2 T_L_law Q (18, [zR 33 0, zR 0 0, zR 16 0, zI (x3 + (nI 6))], []) M44) ∧ (¬ (v43 : Int32) = v44 → (((nI 0 : Int32) = 0 ∨ (nI 0 : Int32) = 1) ∧ Q (some (zI (nI 0))) M44)))))))))) ∧ (¬ ((M 33 0 x3.toNatClampNeg) &&& (nI 63)) = nI 14 → ((((M 33 0 x3.toNatClampNeg) &&& (nI 63)) = nI 15 → (vp_in (x3 + (nI 1)) (M 33 1 0).toNatClampNeg ∧ (vp_in (x3 + (nI 2)) (M 33 1 0).toNatClampNeg ∧ call 69 [zR 0 0, zI (M 33 0 ((x3 + (nI 1)).toNatClampNeg)), zI (M 33 0 ((x3 + (nI 2)).toNatClampNeg))] M (fun r41 M41 => gO r41 fun v41 => (vp_in (x3 + (nI 1)) (M41 33 1 0).toNatClampNeg ∧ (vp_in (x3 + (nI 2)) (M41 33 1 0).toNatClampNeg ∧ call 162 [zR 16 0, zI (M41 33 0 ((x3 + (nI 1)).toNatClampNeg)), zI (M41 33 0 ((x3 + (nI 2)).toNatClampNeg))] M41 (fun r42 M42 => gO r42 fun v42 => (((v41 : Int32) = v42 → WP call 2 T_L_law Q (18, [zR 33 0, zR 0 0, zR 16 0, zI (x3 + (nI 6))], []) M42) ∧ (¬ (v41 : Int32) = v42 → (((nI 0 : Int32) = 0 ∨ (nI 0 : Int32) = 1) ∧ Q (some (zI (nI 0))) M42)))))))))) ∧ (¬ ((M 33 0 x3.toNatClampNeg) &&& (nI 63)) = nI 15 → ((((M 33 0 x3.toNatClampNeg) &&& (nI 63)) = nI 16 → (vp_in (x3 + (nI 1)) (M 33 1 0).toNatClampNeg ∧ (vp_in (x3 + (nI 2)) (M 33 1 0).toNatClampNeg ∧ call 70 [zR 0 0, zI (M 33 0 ((x3 + (nI 1)).toNatClampNeg)), zI (M 33 0 ((x3 + (nI 2)).toNatClampNeg))] M (fun r39 M39 => gO r39 fun v39 => (vp_in (x3 + (nI 1)) (M39 33 1 0).toNatClampNeg ∧ (vp_in (x3 + (nI 2)) (M39 33 1 0).toNatClampNeg ∧ call 163 [zR 16 0, zI (M39 33 0 ((x3 + (nI 1)).toNatClampNeg)), zI (M39 33 0 ((x3 + (nI 2)).toNatClampNeg))] M39 (fun r40 M40 => gO r40 fun v40 => (((v39 : Int32) = v40 → WP call 2 T_L_law Q (18, [zR 33 0, zR 0 0, zR 16 0, zI (x3 + (nI 6))], []) M40) ∧ (¬ (v39 : Int32) = v40 → (((nI 0 : Int32) = 0 ∨ (nI 0 : Int32) = 1) ∧ Q (some (zI (nI 0))) M40)))))))))) ∧ (¬ ((M 33 0 x3.toNatClampNeg) &&& (nI 63)) = nI 16 → ((((M 33 0 x3.toNatClampNeg) &&& (nI 63)) = nI 17 → (vp_in (x3 + (nI 1)) (M 33 1 0).toNatClampNeg ∧ (vp_in (x3 + (nI 2)) (M 33 1 0).toNatClampNeg ∧ call 71 [zR 0 0, zI (M 33 0 ((x3 + (nI 1)).toNatClampNeg)), zI (M 33 0 ((x3 + (nI 2)).toNatClampNeg))] M (fun r37 M37 => gO r37 fun v37 => (vp_in (x3 + (nI 1)) (M37 33 1 0).toNatClampNeg ∧ (vp_in (x3 + (nI 2)) (M37 33 1 0).toNatClampNeg ∧ call 164 [zR 16 0, zI (M37 33 0 ((x3 + (nI 1)).toNatClampNeg)), zI (M37 33 0 ((x3 + (nI 2)).toNatClampNeg))] M37 (fun r38 M38 => gO r38 fun v38 => (((v37 : Int32) = v38 → WP call 2 T_L_law Q (18, [zR 33 0, zR 0 0, zR 16 0, zI (x3 + (nI 6))], []) M38) ∧ (¬ (v37 : Int32) = v38 → (((nI 0 : Int32) = 0 ∨ (nI 0 : Int32) = 1) ∧ Q (some (zI (nI 0))) M38)))))))))) ∧ (¬ ((M 33 0 x3.toNatClampNeg) &&& (nI 63)) = nI 17 → ((((M 33 0 x3.toNatClampNeg) &&& (nI 63)) = nI 18 → (vp_in (x3 + (nI 1)) (M 33 1 0).toNatClampNeg ∧ call 72 [zR 0 0, zI (M 33 0 ((x3 + (nI 1)).toNatClampNeg))] M (fun r35 M35 => gO r35 fun v35 => (vp_in (x3 + (nI 1)) (M35 33 1 0).toNatClampNeg ∧ call 165 [zR 16 0, zI (M35 33 0 ((x3 + (nI 1)).toNatClampNeg))] M35 (fun r36 M36 => gO r36 fun v36 => (((v35 : Int32) = v36 → WP call 2 T_L_law Q (18, [zR 33 0, zR 0 0, zR 16 0, zI (x3 + (nI 6))], []) M36) ∧ (¬ (v35 : Int32) = v36 → (((nI 0 : Int32) = 0 ∨ (nI 0 : Int32) = 1) ∧ Q (some (zI (nI 0))) M36)))))))) ∧ (¬ ((M 33 0 x3.toNatClampNeg) &&& (nI 63)) = nI 18 → ((((M 33 0 x3.toNatClampNeg) &&& (nI 63)) = nI 19 → (vp_in (x3 + (nI 1)) (M 33 1 0).toNatClampNeg ∧ call 73 [zR 0 0, zI (M 33 0 ((x3 + (nI 1)).toNatClampNeg))] M (fun r33 M33 => gO r33 fun v33 => (vp_in (x3 + (nI 1)) (M33 33 1 0).toNatClampNeg ∧ call 166 [zR 16 0, zI (M33 33 0 ((x3 + (nI 1)).toNatClampNeg))] M33 (fun r34 M34 => gO r34 fun v34 => (((v33 : Int32) = v34 → WP call 2 T_L_law Q (18, [zR 33 0, zR 0 0, zR 16 0, zI (x3 + (nI 6))], []) M34) ∧ (¬ (v33 : Int32) = v34 → (((nI 0 : Int32) = 0 ∨ (nI 0 : Int32) = 1) ∧ Q (some (zI (nI 0))) M34)))))))) ∧ (¬ ((M 33 0 x3.toNatClampNeg) &&& (nI 63)) = nI 19 → ((((M 33 0 x3.toNatClampNeg) &&& (nI 63)) = nI 20 → (vp_in (x3 + (nI 1)) (M 33 1 0).toNatClampNeg ∧ call 74 [zR 0 0, zI (M 33 0 ((x3 + (nI 1)).toNatClampNeg))] M (fun r31 M31 => gO r31 fun v31 => (vp_in (x3 + (nI 1)) (M31 33 1 0).toNatClampNeg ∧ call 167 [zR 16 0, zI (M31 33 0 ((x3 + (nI 1)).toNatClampNeg))] M31 (fun r32 M32 => gO r32 fun v32 => (((v31 : Int32) = v32 → WP call 2 T_L_law Q (18, [zR 33 0, zR 0 0, zR 16 0, zI (x3 + (nI 6))], []) M32) ∧ (¬ (v31 : Int32) = v32 → (((nI 0 : Int32) = 0 ∨ (nI 0 : Int32) = 1) ∧ Q (some (zI (nI 0))) M32)))))))) ∧ (¬ ((M 33 0 x3.toNatClampNeg) &&& (nI 63)) = nI 20 → ((((M 33 0 x3.toNatClampNeg) &&& (nI 63)) = nI 21 → (vp_in (x3 + (nI 1)) (M 33 1 0).toNatClampNeg ∧ (vp_in (x3 + (nI 2)) (M 33 1 0).toNatClampNeg ∧ (vp_in (x3 + (nI 3)) (M 33 1 0).toNatClampNeg ∧ call 75 [zR 0 0, zI (M 33 0 ((x3 + (nI 1)).toNatClampNeg)), zI (M 33 0 ((x3 + (nI 2)).toNatClampNeg)), zI (M 33 0 ((x3 + (nI 3)).toNatClampNeg))] M (fun r29 M29 => gO r29 fun v29 => (vp_in (x3 + (nI 1)) (M29 33 1 0).toNatClampNeg ∧ (vp_in (x3 + (nI 2)) (M29 33 1 0).toNatClampNeg ∧ (vp_in (x3 + (nI 3)) (M29 33 1 0).toNatClampNeg ∧ call 169 [zR 16 0, zI (M29 33 0 ((x3 + (nI 1)).toNatClampNeg)), zI (M29 33 0 ((x3 + (nI 2)).toNatClampNeg)), zI (M29 33 0 ((x3 + (nI 3)).toNatClampNeg))] M29 (fun r30 M30 => gO r30 fun v30 => (((v29 : Int32) = v30 → WP call 2 T_L_law Q (18, [zR 33 0, zR 0 0, zR 16 0, zI (x3 + (nI 6))], []) M30) ∧ (¬ (v29 : Int32) = v30 → (((nI 0 : Int32) = 0 ∨ (nI 0 : Int32) = 1) ∧ Q (some (zI (nI 0))) M30)))))))))))) ∧ (¬ ((M 33 0 x3.toNatClampNeg) &&& (nI 63)) = nI 21 → ((((M 33 0 x3.toNatClampNeg) &&& (nI 63)) = nI 22 → (vp_in (x3 + (nI 1)) (M 33 1 0).toNatClampNeg ∧ (vp_in (x3 + (nI 2)) (M 33 1 0).toNatClampNeg ∧ call 76 [zR 0 0, zI (M 33 0 ((x3 + (nI 1)).toNatClampNeg)), zI (M 33 0 ((x3 + (nI 2)).toNatClampNeg))] M (fun r27 M27 => gO r27 fun v27 => (vp_in (x3 + (nI 1)) (M27 33 1 0).toNatClampNeg ∧ (vp_in (x3 + (nI 2)) (M27 33 1 0).toNatClampNeg ∧ call 170 [zR 16 0, zI (M27 33 0 ((x3 + (nI 1)).toNatClampNeg)), zI (M27 33 0 ((x3 + (nI 2)).toNatClampNeg))] M27 (fun r28 M28 => gO r28 fun v28 => (((v27 : Int32) = v28 → WP call 2 T_L_law Q (18, [zR 33 0, zR 0 0, zR 16 0, zI (x3 + (nI 6))], []) M28) ∧ (¬ (v27 : Int32) = v28 → (((nI 0 : Int32) = 0 ∨ (nI 0 : Int32) = 1) ∧ Q (some (zI (nI 0))) M28)))))))))) ∧ (¬ ((M 33 0 x3.toNatClampNeg) &&& (nI 63)) = nI 22 → ((((M 33 0 x3.toNatClampNeg) &&& (nI 63)) = nI 23 → (vp_in (x3 + (nI 1)) (M 33 1 0).toNatClampNeg ∧ (vp_in (x3 + (nI 2)) (M 33 1 0).toNatClampNeg ∧ call 77 [zR 0 0, zI (M 33 0 ((x3 + (nI 1)).toNatClampNeg)), zI (M 33 0 ((x3 + (nI 2)).toNatClampNeg))] M (fun r25 M25 => gO r25 fun v25 => (vp_in (x3 + (nI 1)) (M25 33 1 0).toNatClampNeg ∧ (vp_in (x3 + (nI 2)) (M25 33 1 0).toNatClampNeg ∧ call 171 [zR 16 0, zI (M25 33 0 ((x3 + (nI 1)).toNatClampNeg)), zI (M25 33 0 ((x3 + (nI 2)).toNatClampNeg))] M25 (fun r26 M26 => gO r26 fun v26 => (((v25 : Int32) = v26 → WP call 2 T_L_law Q (18, [zR 33 0, zR 0 0, zR 16 0, zI (x3 + (nI 6))], []) M26) ∧ (¬ (v25 : Int32) = v26 → (((nI 0 : Int32) = 0 ∨ (nI 0 : Int32) = 1) ∧ Q (some (zI (nI 0))) M26)))))))))) ∧ (¬ ((M 33 0 x3.toNatClampNeg) &&& (nI 63)) = nI 23 → ((((M 33 0 x3.toNatClampNeg) &&& (nI 63)) = nI 24 → (vp_in (x3 + (nI 1)) (M 33 1 0).toNatClampNeg ∧ (vp_in (x3 + (nI 2)) (M 33 1 0).toNatClampNeg ∧ (vp_in (x3 + (nI 3)) (M 33 1 0).toNatClampNeg ∧ (vp_in (x3 + (nI 4)) (M 33 1 0).toNatClampNeg ∧ (vp_in (x3 + (nI 5)) (M 33 1 0).toNatClampNeg ∧ call 78 [zR 0 0, zI (M 33 0 ((x3 + (nI 1)).toNatClampNeg)), zI (M 33 0 ((x3 + (nI 2)).toNatClampNeg)), zI (M 33 0 ((x3 + (nI 3)).toNatClampNeg)), zI (M 33 0 ((x3 + (nI 4)).toNatClampNeg)), zI (M 33 0 ((x3 + (nI 5)).toNatClampNeg))] M (fun r23 M23 => gO r23 fun v23 => (vp_in (x3 + (nI 1)) (M23 33 1 0).toNatClampNeg ∧ (vp_in (x3 + (nI 2)) (M23 33 1 0).toNatClampNeg ∧ (vp_in (x3 + (nI 3)) (M23 33 1 0).toNatClampNeg ∧ (vp_in (x3 + (nI 4)) (M23 33 1 0).toNatClampNeg ∧ (vp_in (x3 + (nI 5)) (M23 33 1 0).toNatClampNeg ∧ call 173 [zR 16 0, zI (M23 33 0 ((x3 + (nI 1)).toNatClampNeg)), zI (M23 33 0 ((x3 + (nI 2)).toNatClampNeg)), zI (M23 33 0 ((x3 + (nI 3)).toNatClampNeg)), zI (M23 33 0 ((x3 + (nI 4)).toNatClampNeg)), zI (M23 33 0 ((x3 + (nI 5)).toNatClampNeg))] M23 (fun r24 M24 => gO r24 fun v24 => (((v23 : Int32) = v24 → WP call 2 T_L_law Q (18, [zR 33 0, zR 0 0, zR 16 0, zI (x3 + (nI 6))], []) M24) ∧ (¬ (v23 : Int32) = v24 → (((nI 0 : Int32) = 0 ∨ (nI 0 : Int32) = 1) ∧ Q (some (zI (nI 0))) M24)))))))))))))))) ∧ (¬ ((M 33 0 x3.toNatClampNeg) &&& (nI 63)) = nI 24 → ((((M 33 0 x3.toNatClampNeg) &&& (nI 63)) = nI 25 → (vp_in (x3 + (nI 1)) (M 33 1 0).toNatClampNeg ∧ (vp_in (x3 + (nI 2)) (M 33 1 0).toNatClampNeg ∧ (vp_in (x3 + (nI 3)) (M 33 1 0).toNatClampNeg ∧ call 79 [zR 0 0, zI (M 33 0 ((x3 + (nI 1)).toNatClampNeg)), zI (M 33 0 ((x3 + (nI 2)).toNatClampNeg)), zI (M 33 0 ((x3 + (nI 3)).toNatClampNeg))] M (fun r21 M21 => gO r21 fun v21 => (vp_in (x3 + (nI 1)) (M21 33 1 0).toNatClampNeg ∧ (vp_in (x3 + (nI 2)) (M21 33 1 0).toNatClampNeg ∧ (vp_in (x3 + (nI 3)) (M21 33 1 0).toNatClampNeg ∧ call 174 [zR 16 0, zI (M21 33 0 ((x3 + (nI 1)).toNatClampNeg)), zI (M21 33 0 ((x3 + (nI 2)).toNatClampNeg)), zI (M21 33 0 ((x3 + (nI 3)).toNatClampNeg))] M21 (fun r22 M22 => gO r22 fun v22 => (((v21 : Int32) = v22 → WP call 2 T_L_law Q (18, [zR 33 0, zR 0 0, zR 16 0, zI (x3 + (nI 6))], []) M22) ∧ (¬ (v21 : Int32) = v22 → (((nI 0 : Int32) = 0 ∨ (nI 0 : Int32) = 1) ∧ Q (some (zI (nI 0))) M22)))))))))))) ∧ (¬ ((M 33 0 x3.toNatClampNeg) &&& (nI 63)) = nI 25 → ((((M 33 0 x3.toNatClampNeg) &&& (nI 63)) = nI 26 → (vp_in (x3 + (nI 1)) (M 33 1 0).toNatClampNeg ∧ (vp_in (x3 + (nI 2)) (M 33 1 0).toNatClampNeg ∧ (vp_in (x3 + (nI 3)) (M 33 1 0).toNatClampNeg ∧ (vp_in (x3 + (nI 4)) (M 33 1 0).toNatClampNeg ∧ call 80 [zR 0 0, zI (M 33 0 ((x3 + (nI 1)).toNatClampNeg)), zI (M 33 0 ((x3 + (nI 2)).toNatClampNeg)), zI (M 33 0 ((x3 + (nI 3)).toNatClampNeg)), zI (M 33 0 ((x3 + (nI 4)).toNatClampNeg))] M (fun r19 M19 => gO r19 fun v19 => (vp_in (x3 + (nI 1)) (M19 33 1 0).toNatClampNeg ∧ (vp_in (x3 + (nI 2)) (M19 33 1 0).toNatClampNeg ∧ (vp_in (x3 + (nI 3)) (M19 33 1 0).toNatClampNeg ∧ (vp_in (x3 + (nI 4)) (M19 33 1 0).toNatClampNeg ∧ call 175 [zR 16 0, zI (M19 33 0 ((x3 + (nI 1)).toNatClampNeg)), zI (M19 33 0 ((x3 + (nI 2)).toNatClampNeg)), zI (M19 33 0 ((x3 + (nI 3)).toNatClampNeg)), zI (M19 33 0 ((x3 + (nI 4)).toNatClampNeg))] M19 (fun r20 M20 => gO r20 fun v20 => (((v19 : Int32) = v20 → WP call 2 T_L_law Q (18, [zR 33 0, zR 0 0, zR 16 0, zI (x3 + (nI 6))], []) M20) ∧ (¬ (v19 : Int32) = v20 → (((nI 0 : Int32) = 0 ∨ (nI 0 : Int32) = 1) ∧ Q (some (zI (nI 0))) M20)))))))))))))) ∧ (¬ ((M 33 0 x3.toNatClampNeg) &&& (nI 63)) = nI 26 → ((((M 33 0 x3.toNatClampNeg) &&& (nI 63)) = nI 27 → (vp_in (x3 + (nI 1)) (M 33 1 0).toNatClampNeg ∧ (vp_in (x3 + (nI 2)) (M 33 1 0).toNatClampNeg ∧ (vp_in (x3 + (nI 3)) (M 33 1 0).toNatClampNeg ∧ call 81 [zR 0 0, zI (M 33 0 ((x3 + (nI 1)).toNatClampNeg)), zI (M 33 0 ((x3 + (nI 2)).toNatClampNeg)), zI (M 33 0 ((x3 + (nI 3)).toNatClampNeg))] M (fun r17 M17 => gO r17 fun v17 => (vp_in (x3 + (nI 1)) (M17 33 1 0).toNatClampNeg ∧ (vp_in (x3 + (nI 2)) (M17 33 1 0).toNatClampNeg ∧ (vp_in (x3 + (nI 3)) (M17 33 1 0).toNatClampNeg ∧ call 176 [zR 16 0, zI (M17 33 0 ((x3 + (nI 1)).toNatClampNeg)), zI (M17 33 0 ((x3 + (nI 2)).toNatClampNeg)), zI (M17 33 0 ((x3 + (nI 3)).toNatClampNeg))] M17 (fun r18 M18 => gO r18 fun v18 => (((v17 : Int32) = v18 → WP call 2 T_L_law Q (18, [zR 33 0, zR 0 0, zR 16 0, zI (x3 + (nI 6))], []) M18) ∧ (¬ (v17 : Int32) = v18 → (((nI 0 : Int32) = 0 ∨ (nI 0 : Int32) = 1) ∧ Q (some (zI (nI 0))) M18)))))))))))) ∧ (¬ ((M 33 0 x3.toNatClampNeg) &&& (nI 63)) = nI 27 → ((((M 33 0 x3.toNatClampNeg) &&& (nI 63)) = nI 28 → (vp_in (x3 + (nI 1)) (M 33 1 0).toNatClampNeg ∧ call 82 [zR 0 0, zI (M 33 0 ((x3 + (nI 1)).toNatClampNeg))] M (fun r15 M15 => gO r15 fun v15 => (vp_in (x3 + (nI 1)) (M15 33 1 0).toNatClampNeg ∧ call 177 [zR 16 0, zI (M15 33 0 ((x3 + (nI 1)).toNatClampNeg))] M15 (fun r16 M16 => gO r16 fun v16 => (((v15 : Int32) = v16 → WP call 2 T_L_law Q (18, [zR 33 0, zR 0 0, zR 16 0, zI (x3 + (nI 6))], []) M16) ∧ (¬ (v15 : Int32) = v16 → (((nI 0 : Int32) = 0 ∨ (nI 0 : Int32) = 1) ∧ Q (some (zI (nI 0))) M16)))))))) ∧ (¬ ((M 33 0 x3.toNatClampNeg) &&& (nI 63)) = nI 28 → ((((M 33 0 x3.toNatClampNeg) &&& (nI 63)) = nI 29 → (vp_in (x3 + (nI 1)) (M 33 1 0).toNatClampNeg ∧ call 83 [zR 0 0, zI (M 33 0 ((x3 + (nI 1)).toNatClampNeg))] M (fun r13 M13 => gO r13 fun v13 => (vp_in (x3 + (nI 1)) (M13 33 1 0).toNatClampNeg ∧ call 178 [zR 16 0, zI (M13 33 0 ((x3 + (nI 1)).toNatClampNeg))] M13 (fun r14 M14 => gO r14 fun v14 => (((v13 : Int32) = v14 → WP call 2 T_L_law Q (18, [zR 33 0, zR 0 0, zR 16 0, zI (x3 + (nI 6))], []) M14) ∧ (¬ (v13 : Int32) = v14 → (((nI 0 : Int32) = 0 ∨ (nI 0 : Int32) = 1) ∧ Q (some (zI (nI 0))) M14)))))))) ∧ (¬ ((M 33 0 x3.toNatClampNeg) &&& (nI 63)) = nI 29 → ((((M 33 0 x3.toNatClampNeg) &&& (nI 63)) = nI 30 → (vp_in (x3 + (nI 1)) (M 33 1 0).toNatClampNeg ∧ call 84 [zR 0 0, zI (M 33 0 ((x3 + (nI 1)).toNatClampNeg))] M (fun r11 M11 => gO r11 fun v11 => (vp_in (x3 + (nI 1)) (M11 33 1 0).toNatClampNeg ∧ call 180 [zR 16 0, zI (M11 33 0 ((x3 + (nI 1)).toNatClampNeg))] M11 (fun r12 M12 => gO r12 fun v12 => (((v11 : Int32) = v12 → WP call 2 T_L_law Q (18, [zR 33 0, zR 0 0, zR 16 0, zI (x3 + (nI 6))], []) M12) ∧ (¬ (v11 : Int32) = v12 → (((nI 0 : Int32) = 0 ∨ (nI 0 : Int32) = 1) ∧ Q (some (zI (nI 0))) M12)))))))) ∧ (¬ ((M 33 0 x3.toNatClampNeg) &&& (nI 63)) = nI 30 → ((((M 33 0 x3.toNatClampNeg) &&& (nI 63)) = nI 31 → (vp_in (x3 + (nI 1)) (M 33 1 0).toNatClampNeg ∧ (vp_in (x3 + (nI 2)) (M 33 1 0).toNatClampNeg ∧ call 85 [zR 0 0, zI (M 33 0 ((x3 + (nI 1)).toNatClampNeg)), zI (M 33 0 ((x3 + (nI 2)).toNatClampNeg))] M (fun r9 M9 => gO r9 fun v9 => (vp_in (x3 + (nI 1)) (M9 33 1 0).toNatClampNeg ∧ (vp_in (x3 + (nI 2)) (M9 33 1 0).toNatClampNeg ∧ call 181 [zR 16 0, zI (M9 33 0 ((x3 + (nI 1)).toNatClampNeg)), zI (M9 33 0 ((x3 + (nI 2)).toNatClampNeg))] M9 (fun r10 M10 => gO r10 fun v10 => (((v9 : Int32) = v10 → WP call 2 T_L_law Q (18, [zR 33 0, zR 0 0, zR 16 0, zI (x3 + (nI 6))], []) M10) ∧ (¬ (v9 : Int32) = v10 → (((nI 0 : Int32) = 0 ∨ (nI 0 : Int32) = 1) ∧ Q (some (zI (nI 0))) M10)))))))))) ∧ (¬ ((M 33 0 x3.toNatClampNeg) &&& (nI 63)) = nI 31 → ((((M 33 0 x3.toNatClampNeg) &&& (nI 63)) = nI 32 → (vp_in (x3 + (nI 1)) (M 33 1 0).toNatClampNeg ∧ (vp_in (x3 + (nI 2)) (M 33 1 0).toNatClampNeg ∧ call 86 [zR 0 0, zI (M 33 0 ((x3 + (nI 1)).toNatClampNeg)), zI (M 33 0 ((x3 + (nI 2)).toNatClampNeg))] M (fun r7 M7 => gO r7 fun v7 => (vp_in (x3 + (nI 1)) (M7 33 1 0).toNatClampNeg ∧ (vp_in (x3 + (nI 2)) (M7 33 1 0).toNatClampNeg ∧ call 187 [zR 16 0, zI (M7 33 0 ((x3 + (nI 1)).toNatClampNeg)), zI (M7 33 0 ((x3 + (nI 2)).toNatClampNeg))] M7 (fun r8 M8 => gO r8 fun v8 => (((v7 : Int32) = v8 → WP call 2 T_L_law Q (18, [zR 33 0, zR 0 0, zR 16 0, zI (x3 + (nI 6))], []) M8) ∧ (¬ (v7 : Int32) = v8 → (((nI 0 : Int32) = 0 ∨ (nI 0 : Int32) = 1) ∧ Q (some (zI (nI 0))) M8)))))))))) ∧ (¬ ((M 33 0 x3.toNatClampNeg) &&& (nI 63)) = nI 32 → ((((M 33 0 x3.toNatClampNeg) &&& (nI 63)) = nI 33 → (vp_in (x3 + (nI 1)) (M 33 1 0).toNatClampNeg ∧ call 87 [zR 0 0, zI (M 33 0 ((x3 + (nI 1)).toNatClampNeg))] M (fun r5 M5 => gO r5 fun v5 => (vp_in (x3 + (nI 1)) (M5 33 1 0).toNatClampNeg ∧ call 188 [zR 16 0, zI (M5 33 0 ((x3 + (nI 1)).toNatClampNeg))] M5 (fun r6 M6 => gO r6 fun v6 => (((v5 : Int32) = v6 → WP call 2 T_L_law Q (18, [zR 33 0, zR 0 0, zR 16 0, zI (x3 + (nI 6))], []) M6) ∧ (¬ (v5 : Int32) = v6 → (((nI 0 : Int32) = 0 ∨ (nI 0 : Int32) = 1) ∧ Q (some (zI (nI 0))) M6)))))))) ∧ (¬ ((M 33 0 x3.toNatClampNeg) &&& (nI 63)) = nI 33 → ((((M 33 0 x3.toNatClampNeg) &&& (nI 63)) = nI 34 → (vp_in (x3 + (nI 1)) (M 33 1 0).toNatClampNeg ∧ call 88 [zR 0 0, zI (M 33 0 ((x3 + (nI 1)).toNatClampNeg))] M (fun r3 M3 => gO r3 fun v3 => (vp_in (x3 + (nI 1)) (M3 33 1 0).toNatClampNeg ∧ call 190 [zR 16 0, zI (M3 33 0 ((x3 + (nI 1)).toNatClampNeg))] M3 (fun r4 M4 => gO r4 fun v4 => (((v3 : Int32) = v4 → WP call 2 T_L_law Q (18, [zR 33 0, zR 0 0, zR 16 0, zI (x3 + (nI 6))], []) M4) ∧ (¬ (v3 : Int32) = v4 → (((nI 0 : Int32) = 0 ∨ (nI 0 : Int32) = 1) ∧ Q (some (zI (nI 0))) M4)))))))) ∧ (¬ ((M 33 0 x3.toNatClampNeg) &&& (nI 63)) = nI 34 → ((((M 33 0 x3.toNatClampNeg) &&& (nI 63)) = nI 35 → call 89 [zR 0 0] M (fun r1 M1 => gO r1 fun v1 => call 191 [zR 16 0] M1 (fun r2 M2 => gO r2 fun v2 => (((v1 : Int32) = v2 → WP call 2 T_L_law Q (18, [zR 33 0, zR 0 0, zR 16 0, zI (x3 + (nI 6))], []) M2) ∧ (¬ (v1 : Int32) = v2 → (((nI 0 : Int32) = 0 ∨ (nI 0 : Int32) = 1) ∧ Q (some (zI (nI 0))) M2)))))) ∧ (¬ ((M 33 0 x3.toNatClampNeg) &&& (nI 63)) = nI 35 → WP call 2 T_L_law Q (18, [zR 33 0, zR 0 0, zR 16 0, zI (x3 + (nI 6))], []) M)))))))))))))))))))))))))))))))))))))))))))))))))))))))))))))))))))))))))))) : WP call 2 T_L_law Q (18, [zR 33 0, zR 0 0, zR 16 0, zI x3], []) M := by
  refine WP.k hc 4 (?_ : WP call 2 T_L_law Q (23, [zR 33 0, zR 0 0, zR 16 0, zI x3], [zI (nI 6), zI (M 33 1 0), zI x3]) M)
  refine WP.k hc 2 (?_ : (((M 33 1 0) - (nI 6)) < (x3 : Int32) → WP call 2 T_L_law Q (1306, [zR 33 0, zR 0 0, zR 16 0, zI x3], []) M) ∧ (¬ ((M 33 1 0) - (nI 6)) < (x3 : Int32) → WP call 2 T_L_law Q (27, [zR 33 0, zR 0 0, zR 16 0, zI x3], []) M))
  refine ⟨fun z => ?_, fun z => ?_⟩
  · have h := h.1 z
    exact WP.k hc 2 h
  · have h := h.2 z
    refine WP.k hc 3 (?_ : vp_in x3 (M 33 1 0).toNatClampNeg ∧ WP call 2 T_L_law Q (30, [zR 33 0, zR 0 0, zR 16 0, zI x3], [zI (M 33 0 x3.toNatClampNeg)]) M)
    refine ⟨h.1, ?_⟩
    have h := h.2
    refine WP.k hc 3 (?_ : ((((M 33 0 x3.toNatClampNeg) &&& (nI 63)) = nI 0 → WP call 2 T_L_law Q (192, [zR 33 0, zR 0 0, zR 16 0, zI x3], []) M) ∧ (¬ ((M 33 0 x3.toNatClampNeg) &&& (nI 63)) = nI 0 → ((((M 33 0 x3.toNatClampNeg) &&& (nI 63)) = nI 1 → WP call 2 T_L_law Q (235, [zR 33 0, zR 0 0, zR 16 0, zI x3], []) M) ∧ (¬ ((M 33 0 x3.toNatClampNeg) &&& (nI 63)) = nI 1 → ((((M 33 0 x3.toNatClampNeg) &&& (nI 63)) = nI 2 → WP call 2 T_L_law Q (278, [zR 33 0, zR 0 0, zR 16 0, zI x3], []) M) ∧ (¬ ((M 33 0 x3.toNatClampNeg) &&& (nI 63)) = nI 2 → ((((M 33 0 x3.toNatClampNeg) &&& (nI 63)) = nI 3 → WP call 2 T_L_law Q (341, [zR 33 0, zR 0 0, zR 16 0, zI x3], []) M) ∧ (¬ ((M 33 0 x3.toNatClampNeg) &&& (nI 63)) = nI 3 → ((((M 33 0 x3.toNatClampNeg) &&& (nI 63)) = nI 4 → WP call 2 T_L_law Q (364, [zR 33 0, zR 0 0, zR 16 0, zI x3], []) M) ∧ (¬ ((M 33 0 x3.toNatClampNeg) &&& (nI 63)) = nI 4 → ((((M 33 0 x3.toNatClampNeg) &&& (nI 63)) = nI 5 → WP call 2 T_L_law Q (387, [zR 33 0, zR 0 0, zR 16 0, zI x3], []) M) ∧ (¬ ((M 33 0 x3.toNatClampNeg) &&& (nI 63)) = nI 5 → ((((M 33 0 x3.toNatClampNeg) &&& (nI 63)) = nI 6 → WP call 2 T_L_law Q (400, [zR 33 0, zR 0 0, zR 16 0, zI x3], []) M) ∧ (¬ ((M 33 0 x3.toNatClampNeg) &&& (nI 63)) = nI 6 → ((((M 33 0 x3.toNatClampNeg) &&& (nI 63)) = nI 7 → WP call 2 T_L_law Q (413, [zR 33 0, zR 0 0, zR 16 0, zI x3], []) M) ∧ (¬ ((M 33 0 x3.toNatClampNeg) &&& (nI 63)) = nI 7 → ((((M 33 0 x3.toNatClampNeg) &&& (nI 63)) = nI 8 → WP call 2 T_L_law Q (436, [zR 33 0, zR 0 0, zR 16 0, zI x3], []) M) ∧ (¬ ((M 33 0 x3.toNatClampNeg) &&& (nI 63)) = nI 8 → ((((M 33 0 x3.toNatClampNeg) &&& (nI 63)) = nI 9 → WP call 2 T_L_law Q (469, [zR 33 0, zR 0 0, zR 16 0, zI x3], []) M) ∧ (¬ ((M 33 0 x3.toNatClampNeg) &&& (nI 63)) = nI 9 → ((((M 33 0 x3.toNatClampNeg) &&& (nI 63)) = nI 10 → WP call 2 T_L_law Q (492, [zR 33 0, zR 0 0, zR 16 0, zI x3], []) M) ∧ (¬ ((M 33 0 x3.toNatClampNeg) &&& (nI 63)) = nI 10 → ((((M 33 0 x3.toNatClampNeg) &&& (nI 63)) = nI 11 → WP call 2 T_L_law Q (525, [zR 33 0, zR 0 0, zR 16 0, zI x3], []) M) ∧ (¬ ((M 33 0 x3.toNatClampNeg) &&& (nI 63)) = nI 11 → ((((M 33 0 x3.toNatClampNeg) &&& (nI 63)) = nI 12 → WP call 2 T_L_law Q (548, [zR 33 0, zR 0 0, zR 16 0, zI x3], []) M) ∧ (¬ ((M 33 0 x3.toNatClampNeg) &&& (nI 63)) = nI 12 → ((((M 33 0 x3.toNatClampNeg) &&& (nI 63)) = nI 13 → WP call 2 T_L_law Q (561, [zR 33 0, zR 0 0, zR 16 0, zI x3], []) M) ∧ (¬ ((M 33 0 x3.toNatClampNeg) &&& (nI 63)) = nI 13 → ((((M 33 0 x3.toNatClampNeg) &&& (nI 63)) = nI 14 → WP call 2 T_L_law Q (594, [zR 33 0, zR 0 0, zR 16 0, zI x3], []) M) ∧ (¬ ((M 33 0 x3.toNatClampNeg) &&& (nI 63)) = nI 14 → ((((M 33 0 x3.toNatClampNeg) &&& (nI 63)) = nI 15 → WP call 2 T_L_law Q (627, [zR 33 0, zR 0 0, zR 16 0, zI x3], []) M) ∧ (¬ ((M 33 0 x3.toNatClampNeg) &&& (nI 63)) = nI 15 → ((((M 33 0 x3.toNatClampNeg) &&& (nI 63)) = nI 16 → WP call 2 T_L_law Q (660, [zR 33 0, zR 0 0, zR 16 0, zI x3], []) M) ∧ (¬ ((M 33 0 x3.toNatClampNeg) &&& (nI 63)) = nI 16 → ((((M 33 0 x3.toNatClampNeg) &&& (nI 63)) = nI 17 → WP call 2 T_L_law Q (693, [zR 33 0, zR 0 0, zR 16 0, zI x3], []) M) ∧ (¬ ((M 33 0 x3.toNatClampNeg) &&& (nI 63)) = nI 17 → ((((M 33 0 x3.toNatClampNeg) &&& (nI 63)) = nI 18 → WP call 2 T_L_law Q (726, [zR 33 0, zR 0 0, zR 16 0, zI x3], []) M) ∧ (¬ ((M 33 0 x3.toNatClampNeg) &&& (nI 63)) = nI 18 → ((((M 33 0 x3.toNatClampNeg) &&& (nI 63)) = nI 19 → WP call 2 T_L_law Q (749, [zR 33 0, zR 0 0, zR 16 0, zI x3], []) M) ∧ (¬ ((M 33 0 x3.toNatClampNeg) &&& (nI 63)) = nI 19 → ((((M 33 0 x3.toNatClampNeg) &&& (nI 63)) = nI 20 → WP call 2 T_L_law Q (772, [zR 33 0, zR 0 0, zR 16 0, zI x3], []) M) ∧ (¬ ((M 33 0 x3.toNatClampNeg) &&& (nI 63)) = nI 20 → ((((M 33 0 x3.toNatClampNeg) &&& (nI 63)) = nI 21 → WP call 2 T_L_law Q (795, [zR 33 0, zR 0 0, zR 16 0, zI x3], []) M) ∧ (¬ ((M 33 0 x3.toNatClampNeg) &&& (nI 63)) = nI 21 → ((((M 33 0 x3.toNatClampNeg) &&& (nI 63)) = nI 22 → WP call 2 T_L_law Q (838, [zR 33 0, zR 0 0, zR 16 0, zI x3], []) M) ∧ (¬ ((M 33 0 x3.toNatClampNeg) &&& (nI 63)) = nI 22 → ((((M 33 0 x3.toNatClampNeg) &&& (nI 63)) = nI 23 → WP call 2 T_L_law Q (871, [zR 33 0, zR 0 0, zR 16 0, zI x3], []) M) ∧ (¬ ((M 33 0 x3.toNatClampNeg) &&& (nI 63)) = nI 23 → ((((M 33 0 x3.toNatClampNeg) &&& (nI 63)) = nI 24 → WP call 2 T_L_law Q (904, [zR 33 0, zR 0 0, zR 16 0, zI x3], []) M) ∧ (¬ ((M 33 0 x3.toNatClampNeg) &&& (nI 63)) = nI 24 → ((((M 33 0 x3.toNatClampNeg) &&& (nI 63)) = nI 25 → WP call 2 T_L_law Q (967, [zR 33 0, zR 0 0, zR 16 0, zI x3], []) M) ∧ (¬ ((M 33 0 x3.toNatClampNeg) &&& (nI 63)) = nI 25 → ((((M 33 0 x3.toNatClampNeg) &&& (nI 63)) = nI 26 → WP call 2 T_L_law Q (1010, [zR 33 0, zR 0 0, zR 16 0, zI x3], []) M) ∧ (¬ ((M 33 0 x3.toNatClampNeg) &&& (nI 63)) = nI 26 → ((((M 33 0 x3.toNatClampNeg) &&& (nI 63)) = nI 27 → WP call 2 T_L_law Q (1063, [zR 33 0, zR 0 0, zR 16 0, zI x3], []) M) ∧ (¬ ((M 33 0 x3.toNatClampNeg) &&& (nI 63)) = nI 27 → ((((M 33 0 x3.toNatClampNeg) &&& (nI 63)) = nI 28 → WP call 2 T_L_law Q (1106, [zR 33 0, zR 0 0, zR 16 0, zI x3], []) M) ∧ (¬ ((M 33 0 x3.toNatClampNeg) &&& (nI 63)) = nI 28 → ((((M 33 0 x3.toNatClampNeg) &&& (nI 63)) = nI 29 → WP call 2 T_L_law Q (1129, [zR 33 0, zR 0 0, zR 16 0, zI x3], []) M) ∧ (¬ ((M 33 0 x3.toNatClampNeg) &&& (nI 63)) = nI 29 → ((((M 33 0 x3.toNatClampNeg) &&& (nI 63)) = nI 30 → WP call 2 T_L_law Q (1152, [zR 33 0, zR 0 0, zR 16 0, zI x3], []) M) ∧ (¬ ((M 33 0 x3.toNatClampNeg) &&& (nI 63)) = nI 30 → ((((M 33 0 x3.toNatClampNeg) &&& (nI 63)) = nI 31 → WP call 2 T_L_law Q (1175, [zR 33 0, zR 0 0, zR 16 0, zI x3], []) M) ∧ (¬ ((M 33 0 x3.toNatClampNeg) &&& (nI 63)) = nI 31 → ((((M 33 0 x3.toNatClampNeg) &&& (nI 63)) = nI 32 → WP call 2 T_L_law Q (1208, [zR 33 0, zR 0 0, zR 16 0, zI x3], []) M) ∧ (¬ ((M 33 0 x3.toNatClampNeg) &&& (nI 63)) = nI 32 → ((((M 33 0 x3.toNatClampNeg) &&& (nI 63)) = nI 33 → WP call 2 T_L_law Q (1241, [zR 33 0, zR 0 0, zR 16 0, zI x3], []) M) ∧ (¬ ((M 33 0 x3.toNatClampNeg) &&& (nI 63)) = nI 33 → ((((M 33 0 x3.toNatClampNeg) &&& (nI 63)) = nI 34 → WP call 2 T_L_law Q (1264, [zR 33 0, zR 0 0, zR 16 0, zI x3], []) M) ∧ (¬ ((M 33 0 x3.toNatClampNeg) &&& (nI 63)) = nI 34 → ((((M 33 0 x3.toNatClampNeg) &&& (nI 63)) = nI 35 → WP call 2 T_L_law Q (1287, [zR 33 0, zR 0 0, zR 16 0, zI x3], []) M) ∧ (¬ ((M 33 0 x3.toNatClampNeg) &&& (nI 63)) = nI 35 → WP call 2 T_L_law Q (1300, [zR 33 0, zR 0 0, zR 16 0, zI x3], []) M)))))))))))))))))))))))))))))))))))))))))))))))))))))))))))))))))))))))))
    refine ⟨fun z => ?_, fun z => ?_⟩
    · have h := h.1 z
      refine WP.k hc 4 (?_ : WP call 2 T_L_law Q (196, [zR 33 0, zR 0 0, zR 16 0, zI x3], [zI (nI 1), zI x3, zR 33 0, zR 0 0]) M)
      refine WP.k hc 2 (?_ : vp_in (x3 + (nI 1)) (M 33 1 0).toNatClampNeg ∧ WP call 2 T_L_law Q (198, [zR 33 0, zR 0 0, zR 16 0, zI x3], [zI (M 33 0 ((x3 + (nI 1)).toNatClampNeg)), zR 0 0]) M)
      refine ⟨h.1, ?_⟩
      have h := h.2
      refine WP.k hc 4 (?_ : WP call 2 T_L_law Q (202, [zR 33 0, zR 0 0, zR 16 0, zI x3], [zI (x3 + (nI 2)), zR 33 0, zI (M 33 0 ((x3 + (nI 1)).toNatClampNeg)), zR 0 0]) M)
      refine WP.k hc 1 (?_ : vp_in (x3 + (nI 2)) (M 33 1 0).toNatClampNeg ∧ WP call 2 T_L_law Q (203, [zR 33 0, zR 0 0, zR 16 0, zI x3], [zI (M 33 0 ((x3 + (nI 2)).toNatClampNeg)), zI (M 33 0 ((x3 + (nI 1)).toNatClampNeg)), zR 0 0]) M)
      refine ⟨h.1, ?_⟩
      have h := h.2
      refine WP.k hc 4 (?_ : WP call 2 T_L_law Q (207, [zR 33 0, zR 0 0, zR 16 0, zI x3], [zI (x3 + (nI 3)), zR 33 0, zI (M 33 0 ((x3 + (nI 2)).toNatClampNeg)), zI (M 33 0 ((x3 + (nI 1)).toNatClampNeg)), zR 0 0]) M)
      refine WP.k hc 1 (?_ : vp_in (x3 + (nI 3)) (M 33 1 0).toNatClampNeg ∧ WP call 2 T_L_law Q (208, [zR 33 0, zR 0 0, zR 16 0, zI x3], [zI (M 33 0 ((x3 + (nI 3)).toNatClampNeg)), zI (M 33 0 ((x3 + (nI 2)).toNatClampNeg)), zI (M 33 0 ((x3 + (nI 1)).toNatClampNeg)), zR 0 0]) M)
      refine ⟨h.1, ?_⟩
      have h := h.2
      refine WP.k hc 1 (?_ : call 54 [zR 0 0, zI (M 33 0 ((x3 + (nI 1)).toNatClampNeg)), zI (M 33 0 ((x3 + (nI 2)).toNatClampNeg)), zI (M 33 0 ((x3 + (nI 3)).toNatClampNeg))] M (fun r71 M71 => gO r71 fun v71 => WP call 2 T_L_law Q (211, [zR 33 0, zR 0 0, zR 16 0, zI x3], [zI v71]) M71))
      refine hc _ _ _ _ _ (fun r71 M71 q => gO_m (fun v71 h => ?_) q) h
      refine WP.k hc 4 (?_ : WP call 2 T_L_law Q (215, [zR 33 0, zR 0 0, zR 16 0, zI x3], [zI (nI 1), zI x3, zR 33 0, zR 16 0, zI v71]) M71)
      refine WP.k hc 2 (?_ : vp_in (x3 + (nI 1)) (M71 33 1 0).toNatClampNeg ∧ WP call 2 T_L_law Q (217, [zR 33 0, zR 0 0, zR 16 0, zI x3], [zI (M71 33 0 ((x3 + (nI 1)).toNatClampNeg)), zR 16 0, zI v71]) M71)
      refine ⟨h.1, ?_⟩
      have h := h.2
      refine WP.k hc 4 (?_ : WP call 2 T_L_law Q (221, [zR 33 0, zR 0 0, zR 16 0, zI x3], [zI (x3 + (nI 2)), zR 33 0, zI (M71 33 0 ((x3 + (nI 1)).toNatClampNeg)), zR 16 0, zI v71]) M71)
      refine WP.k hc 1 (?_ : vp_in (x3 + (nI 2)) (M71 33 1 0).toNatClampNeg ∧ WP call 2 T_L_law Q (222, [zR 33 0, zR 0 0, zR 16 0, zI x3], [zI (M71 33 0 ((x3 + (nI 2)).toNatClampNeg)), zI (M71 33 0 ((x3 + (nI 1)).toNatClampNeg)), zR 16 0, zI v71]) M71)
      refine ⟨h.1, ?_⟩
      have h := h.2
      refine WP.k hc 4 (?_ : WP call 2 T_L_law Q (226, [zR 33 0, zR 0 0, zR 16 0, zI x3], [zI (x3 + (nI 3)), zR 33 0, zI (M71 33 0 ((x3 + (nI 2)).toNatClampNeg)), zI (M71 33 0 ((x3 + (nI 1)).toNatClampNeg)), zR 16 0, zI v71]) M71)
      refine WP.k hc 1 (?_ : vp_in (x3 + (nI 3)) (M71 33 1 0).toNatClampNeg ∧ WP call 2 T_L_law Q (227, [zR 33 0, zR 0 0, zR 16 0, zI x3], [zI (M71 33 0 ((x3 + (nI 3)).toNatClampNeg)), zI (M71 33 0 ((x3 + (nI 2)).toNatClampNeg)), zI (M71 33 0 ((x3 + (nI 1)).toNatClampNeg)), zR 16 0, zI v71]) M71)
      refine ⟨h.1, ?_⟩
      have h := h.2
      refine WP.k hc 1 (?_ : call 119 [zR 16 0, zI (M71 33 0 ((x3 + (nI 1)).toNatClampNeg)), zI (M71 33 0 ((x3 + (nI 2)).toNatClampNeg)), zI (M71 33 0 ((x3 + (nI 3)).toNatClampNeg))] M71 (fun r72 M72 => gO r72 fun v72 => WP call 2 T_L_law Q (230, [zR 33 0, zR 0 0, zR 16 0, zI x3], [zI v72, zI v71]) M72))
      refine hc _ _ _ _ _ (fun r72 M72 q => gO_m (fun v72 h => ?_) q) h
      refine WP.k hc 1 (?_ : ((v71 : Int32) = v72 → WP call 2 T_L_law Q (1300, [zR 33 0, zR 0 0, zR 16 0, zI x3], []) M72) ∧ (¬ (v71 : Int32) = v72 → WP call 2 T_L_law Q (233, [zR 33 0, zR 0 0, zR 16 0, zI x3], []) M72))
      refine ⟨fun z => ?_, fun z => ?_⟩
      · have h := h.1 z
        exact WP.k hc 2 h
      · have h := h.2 z
        exact WP.k hc 2 h
    · have h := h.2 z
      refine ⟨fun z => ?_, fun z => ?_⟩
      · have h := h.1 z
        refine WP.k hc 4 (?_ : WP call 2 T_L_law Q (239, [zR 33 0, zR 0 0, zR 16 0, zI x3], [zI (nI 1), zI x3, zR 33 0, zR 0 0]) M)
        refine WP.k hc 2 (?_ : vp_in (x3 + (nI 1)) (M 33 1 0).toNatClampNeg ∧ WP call 2 T_L_law Q (241, [zR 33 0, zR 0 0, zR 16 0, zI x3], [zI (M 33 0 ((x3 + (nI 1)).toNatClampNeg)), zR 0 0]) M)
        refine ⟨h.1, ?_⟩
        have h := h.2
        refine WP.k hc 4 (?_ : WP call 2 T_L_law Q (245, [zR 33 0, zR 0 0, zR 16 0, zI x3], [zI (x3 + (nI 2)), zR 33 0, zI (M 33 0 ((x3 + (nI 1)).toNatClampNeg)), zR 0 0]) M)
        refine WP.k hc 1 (?_ : vp_in (x3 + (nI 2)) (M 33 1 0).toNatClampNeg ∧ WP call 2 T_L_law Q (246, [zR 33 0, zR 0 0, zR 16 0, zI x3], [zI (M 33 0 ((x3 + (nI 2)).toNatClampNeg)), zI (M 33 0 ((x3 + (nI 1)).toNatClampNeg)), zR 0 0]) M)
        refine ⟨h.1, ?_⟩
        have h := h.2
        refine WP.k hc 4 (?_ : WP call 2 T_L_law Q (250, [zR 33 0, zR 0 0, zR 16 0, zI x3], [zI (x3 + (nI 3)), zR 33 0, zI (M 33 0 ((x3 + (nI 2)).toNatClampNeg)), zI (M 33 0 ((x3 + (nI 1)).toNatClampNeg)), zR 0 0]) M)
        refine WP.k hc 1 (?_ : vp_in (x3 + (nI 3)) (M 33 1 0).toNatClampNeg ∧ WP call 2 T_L_law Q (251, [zR 33 0, zR 0 0, zR 16 0, zI x3], [zI (M 33 0 ((x3 + (nI 3)).toNatClampNeg)), zI (M 33 0 ((x3 + (nI 2)).toNatClampNeg)), zI (M 33 0 ((x3 + (nI 1)).toNatClampNeg)), zR 0 0]) M)
        refine ⟨h.1, ?_⟩
        have h := h.2
        refine WP.k hc 1 (?_ : call 55 [zR 0 0, zI (M 33 0 ((x3 + (nI 1)).toNatClampNeg)), zI (M 33 0 ((x3 + (nI 2)).toNatClampNeg)), zI (M 33 0 ((x3 + (nI 3)).toNatClampNeg))] M (fun r69 M69 => gO r69 fun v69 => WP call 2 T_L_law Q (254, [zR 33 0, zR 0 0, zR 16 0, zI x3], [zI v69]) M69))
        refine hc _ _ _ _ _ (fun r69 M69 q => gO_m (fun v69 h => ?_) q) h
        refine WP.k hc 4 (?_ : WP call 2 T_L_law Q (258, [zR 33 0, zR 0 0, zR 16 0, zI x3], [zI (nI 1), zI x3, zR 33 0, zR 16 0, zI v69]) M69)
        refine WP.k hc 2 (?_ : vp_in (x3 + (nI 1)) (M69 33 1 0).toNatClampNeg ∧ WP call 2 T_L_law Q (260, [zR 33 0, zR 0 0, zR 16 0, zI x3], [zI (M69 33 0 ((x3 + (nI 1)).toNatClampNeg)), zR 16 0, zI v69]) M69)
        refine ⟨h.1, ?_⟩
        have h := h.2
        refine WP.k hc 4 (?_ : WP call 2 T_L_law Q (264, [zR 33 0, zR 0 0, zR 16 0, zI x3], [zI (x3 + (nI 2)), zR 33 0, zI (M69 33 0 ((x3 + (nI 1)).toNatClampNeg)), zR 16 0, zI v69]) M69)
        refine WP.k hc 1 (?_ : vp_in (x3 + (nI 2)) (M69 33 1 0).toNatClampNeg ∧ WP call 2 T_L_law Q (265, [zR 33 0, zR 0 0, zR 16 0, zI x3], [zI (M69 33 0 ((x3 + (nI 2)).toNatClampNeg)), zI (M69 33 0 ((x3 + (nI 1)).toNatClampNeg)), zR 16 0, zI v69]) M69)
        refine ⟨h.1, ?_⟩
        have h := h.2
        refine WP.k hc 4 (?_ : WP call 2 T_L_law Q (269, [zR 33 0, zR 0 0, zR 16 0, zI x3], [zI (x3 + (nI 3)), zR 33 0, zI (M69 33 0 ((x3 + (nI 2)).toNatClampNeg)), zI (M69 33 0 ((x3 + (nI 1)).toNatClampNeg)), zR 16 0, zI v69]) M69)
        refine WP.k hc 1 (?_ : vp_in (x3 + (nI 3)) (M69 33 1 0).toNatClampNeg ∧ WP call 2 T_L_law Q (270, [zR 33 0, zR 0 0, zR 16 0, zI x3], [zI (M69 33 0 ((x3 + (nI 3)).toNatClampNeg)), zI (M69 33 0 ((x3 + (nI 2)).toNatClampNeg)), zI (M69 33 0 ((x3 + (nI 1)).toNatClampNeg)), zR 16 0, zI v69]) M69)
        refine ⟨h.1, ?_⟩
        have h := h.2
        refine WP.k hc 1 (?_ : call 120 [zR 16 0, zI (M69 33 0 ((x3 + (nI 1)).toNatClampNeg)), zI (M69 33 0 ((x3 + (nI 2)).toNatClampNeg)), zI (M69 33 0 ((x3 + (nI 3)).toNatClampNeg))] M69 (fun r70 M70 => gO r70 fun v70 => WP call 2 T_L_law Q (273, [zR 33 0, zR 0 0, zR 16 0, zI x3], [zI v70, zI v69]) M70))
        refine hc _ _ _ _ _ (fun r70 M70 q => gO_m (fun v70 h => ?_) q) h
        refine WP.k hc 1 (?_ : ((v69 : Int32) = v70 → WP call 2 T_L_law Q (1300, [zR 33 0, zR 0 0, zR 16 0, zI x3], []) M70) ∧ (¬ (v69 : Int32) = v70 → WP call 2 T_L_law Q (276, [zR 33 0, zR 0 0, zR 16 0, zI x3], []) M70))
        refine ⟨fun z => ?_, fun z => ?_⟩
        · have h := h.1 z
          exact WP.k hc 2 h
        · have h := h.2 z
          exact WP.k hc 2 h
      · have h := h.2 z
        refine ⟨fun z => ?_, fun z => ?_⟩
        · have h := h.1 z
          refine WP.k hc 4 (?_ : WP call 2 T_L_law Q (282, [zR 33 0, zR 0 0, zR 16 0, zI x3], [zI (nI 1), zI x3, zR 33 0, zR 0 0]) M)
          refine WP.k hc 2 (?_ : vp_in (x3 + (nI 1)) (M 33 1 0).toNatClampNeg ∧ WP call 2 T_L_law Q (284, [zR 33 0, zR 0 0, zR 16 0, zI x3], [zI (M 33 0 ((x3 + (nI 1)).toNatClampNeg)), zR 0 0]) M)
          refine ⟨h.1, ?_⟩
          have h := h.2
          refine WP.k hc 4 (?_ : WP call 2 T_L_law Q (288, [zR 33 0, zR 0 0, zR 16 0, zI x3], [zI (x3 + (nI 2)), zR 33 0, zI (M 33 0 ((x3 + (nI 1)).toNatClampNeg)), zR 0 0]) M)
          refine WP.k hc 1 (?_ : vp_in (x3 + (nI 2)) (M 33 1 0).toNatClampNeg ∧ WP call 2 T_L_law Q (289, [zR 33 0, zR 0 0, zR 16 0, zI x3], [zI (M 33 0 ((x3 + (nI 2)).toNatClampNeg)), zI (M 33 0 ((x3 + (nI 1)).toNatClampNeg)), zR 0 0]) M)
          refine ⟨h.1, ?_⟩
          have h := h.2
          refine WP.k hc 4 (?_ : WP call 2 T_L_law Q (293, [zR 33 0, zR 0 0, zR 16 0, zI x3], [zI (x3 + (nI 3)), zR 33 0, zI (M 33 0 ((x3 + (nI 2)).toNatClampNeg)), zI (M 33 0 ((x3 + (nI 1)).toNatClampNeg)), zR 0 0]) M)
          refine WP.k hc 1 (?_ : vp_in (x3 + (nI 3)) (M 33 1 0).toNatClampNeg ∧ WP call 2 T_L_law Q (294, [zR 33 0, zR 0 0, zR 16 0, zI x3], [zI (M 33 0 ((x3 + (nI 3)).toNatClampNeg)), zI (M 33 0 ((x3 + (nI 2)).toNatClampNeg)), zI (M 33 0 ((x3 + (nI 1)).toNatClampNeg)), zR 0 0]) M)
          refine ⟨h.1, ?_⟩
          have h := h.2
          refine WP.k hc 4 (?_ : WP call 2 T_L_law Q (298, [zR 33 0, zR 0 0, zR 16 0, zI x3], [zI (x3 + (nI 4)), zR 33 0, zI (M 33 0 ((x3 + (nI 3)).toNatClampNeg)), zI (M 33 0 ((x3 + (nI 2)).toNatClampNeg)), zI (M 33 0 ((x3 + (nI 1)).toNatClampNeg)), zR 0 0]) M)
          refine WP.k hc 1 (?_ : vp_in (x3 + (nI 4)) (M 33 1 0).toNatClampNeg ∧ WP call 2 T_L_law Q (299, [zR 33 0, zR 0 0, zR 16 0, zI x3], [zI (M 33 0 ((x3 + (nI 4)).toNatClampNeg)), zI (M 33 0 ((x3 + (nI 3)).toNatClampNeg)), zI (M 33 0 ((x3 + (nI 2)).toNatClampNeg)), zI (M 33 0 ((x3 + (nI 1)).toNatClampNeg)), zR 0 0]) M)
          refine ⟨h.1, ?_⟩
          have h := h.2
          refine WP.k hc 4 (?_ : WP call 2 T_L_law Q (303, [zR 33 0, zR 0 0, zR 16 0, zI x3], [zI (x3 + (nI 5)), zR 33 0, zI (M 33 0 ((x3 + (nI 4)).toNatClampNeg)), zI (M 33 0 ((x3 + (nI 3)).toNatClampNeg)), zI (M 33 0 ((x3 + (nI 2)).toNatClampNeg)), zI (M 33 0 ((x3 + (nI 1)).toNatClampNeg)), zR 0 0]) M)
          refine WP.k hc 1 (?_ : vp_in (x3 + (nI 5)) (M 33 1 0).toNatClampNeg ∧ WP call 2 T_L_law Q (304, [zR 33 0, zR 0 0, zR 16 0, zI x3], [zI (M 33 0 ((x3 + (nI 5)).toNatClampNeg)), zI (M 33 0 ((x3 + (nI 4)).toNatClampNeg)), zI (M 33 0 ((x3 + (nI 3)).toNatClampNeg)), zI (M 33 0 ((x3 + (nI 2)).toNatClampNeg)), zI (M 33 0 ((x3 + (nI 1)).toNatClampNeg)), zR 0 0]) M)
          refine ⟨h.1, ?_⟩
          have h := h.2
          refine WP.k hc 1 (?_ : call 56 [zR 0 0, zI (M 33 0 ((x3 + (nI 1)).toNatClampNeg)), zI (M 33 0 ((x3 + (nI 2)).toNatClampNeg)), zI (M 33 0 ((x3 + (nI 3)).toNatClampNeg)), zI (M 33 0 ((x3 + (nI 4)).toNatClampNeg)), zI (M 33 0 ((x3 + (nI 5)).toNatClampNeg))] M (fun r67 M67 => gO r67 fun v67 => WP call 2 T_L_law Q (307, [zR 33 0, zR 0 0, zR 16 0, zI x3], [zI v67]) M67))
          refine hc _ _ _ _ _ (fun r67 M67 q => gO_m (fun v67 h => ?_) q) h
          refine WP.k hc 4 (?_ : WP call 2 T_L_law Q (311, [zR 33 0, zR 0 0, zR 16 0, zI x3], [zI (nI 1), zI x3, zR 33 0, zR 16 0, zI v67]) M67)
          refine WP.k hc 2 (?_ : vp_in (x3 + (nI 1)) (M67 33 1 0).toNatClampNeg ∧ WP call 2 T_L_law Q (313, [zR 33 0, zR 0 0, zR 16 0, zI x3], [zI (M67 33 0 ((x3 + (nI 1)).toNatClampNeg)), zR 16 0, zI v67]) M67)
          refine ⟨h.1, ?_⟩
          have h := h.2
          refine WP.k hc 4 (?_ : WP call 2 T_L_law Q (317, [zR 33 0, zR 0 0, zR 16 0, zI x3], [zI (x3 + (nI 2)), zR 33 0, zI (M67 33 0 ((x3 + (nI 1)).toNatClampNeg)), zR 16 0, zI v67]) M67)
          refine WP.k hc 1 (?_ : vp_in (x3 + (nI 2)) (M67 33 1 0).toNatClampNeg ∧ WP call 2 T_L_law Q (318, [zR 33 0, zR 0 0, zR 16 0, zI x3], [zI (M67 33 0 ((x3 + (nI 2)).toNatClampNeg)), zI (M67 33 0 ((x3 + (nI 1)).toNatClampNeg)), zR 16 0, zI v67]) M67)
          refine ⟨h.1, ?_⟩
          have h := h.2
          refine WP.k hc 4 (?_ : WP call 2 T_L_law Q (322, [zR 33 0, zR 0 0, zR 16 0, zI x3], [zI (x3 + (nI 3)), zR 33 0, zI (M67 33 0 ((x3 + (nI 2)).toNatClampNeg)), zI (M67 33 0 ((x3 + (nI 1)).toNatClampNeg)), zR 16 0, zI v67]) M67)
          refine WP.k hc 1 (?_ : vp_in (x3 + (nI 3)) (M67 33 1 0).toNatClampNeg ∧ WP call 2 T_L_law Q (323, [zR 33 0, zR 0 0, zR 16 0, zI x3], [zI (M67 33 0 ((x3 + (nI 3)).toNatClampNeg)), zI (M67 33 0 ((x3 + (nI 2)).toNatClampNeg)), zI (M67 33 0 ((x3 + (nI 1)).toNatClampNeg)), zR 16 0, zI v67]) M67)
          refine ⟨h.1, ?_⟩
          have h := h.2
          refine WP.k hc 4 (?_ : WP call 2 T_L_law Q (327, [zR 33 0, zR 0 0, zR 16 0, zI x3], [zI (x3 + (nI 4)), zR 33 0, zI (M67 33 0 ((x3 + (nI 3)).toNatClampNeg)), zI (M67 33 0 ((x3 + (nI 2)).toNatClampNeg)), zI (M67 33 0 ((x3 + (nI 1)).toNatClampNeg)), zR 16 0, zI v67]) M67)
          refine WP.k hc 1 (?_ : vp_in (x3 + (nI 4)) (M67 33 1 0).toNatClampNeg ∧ WP call 2 T_L_law Q (328, [zR 33 0, zR 0 0, zR 16 0, zI x3], [zI (M67 33 0 ((x3 + (nI 4)).toNatClampNeg)), zI (M67 33 0 ((x3 + (nI 3)).toNatClampNeg)), zI (M67 33 0 ((x3 + (nI 2)).toNatClampNeg)), zI (M67 33 0 ((x3 + (nI 1)).toNatClampNeg)), zR 16 0, zI v67]) M67)
          refine ⟨h.1, ?_⟩
          have h := h.2
          refine WP.k hc 4 (?_ : WP call 2 T_L_law Q (332, [zR 33 0, zR 0 0, zR 16 0, zI x3], [zI (x3 + (nI 5)), zR 33 0, zI (M67 33 0 ((x3 + (nI 4)).toNatClampNeg)), zI (M67 33 0 ((x3 + (nI 3)).toNatClampNeg)), zI (M67 33 0 ((x3 + (nI 2)).toNatClampNeg)), zI (M67 33 0 ((x3 + (nI 1)).toNatClampNeg)), zR 16 0, zI v67]) M67)
          refine WP.k hc 1 (?_ : vp_in (x3 + (nI 5)) (M67 33 1 0).toNatClampNeg ∧ WP call 2 T_L_law Q (333, [zR 33 0, zR 0 0, zR 16 0, zI x3], [zI (M67 33 0 ((x3 + (nI 5)).toNatClampNeg)), zI (M67 33 0 ((x3 + (nI 4)).toNatClampNeg)), zI (M67 33 0 ((x3 + (nI 3)).toNatClampNeg)), zI (M67 33 0 ((x3 + (nI 2)).toNatClampNeg)), zI (M67 33 0 ((x3 + (nI 1)).toNatClampNeg)), zR 16 0, zI v67]) M67)
          refine ⟨h.1, ?_⟩
          have h := h.2
          refine WP.k hc 1 (?_ : call 122 [zR 16 0, zI (M67 33 0 ((x3 + (nI 1)).toNatClampNeg)), zI (M67 33 0 ((x3 + (nI 2)).toNatClampNeg)), zI (M67 33 0 ((x3 + (nI 3)).toNatClampNeg)), zI (M67 33 0 ((x3 + (nI 4)).toNatClampNeg)), zI (M67 33 0 ((x3 + (nI 5)).toNatClampNeg))] M67 (fun r68 M68 => gO r68 fun v68 => WP call 2 T_L_law Q (336, [zR 33 0, zR 0 0, zR 16 0, zI x3], [zI v68, zI v67]) M68))
          refine hc _ _ _ _ _ (fun r68 M68 q => gO_m (fun v68 h => ?_) q) h
          refine WP.k hc 1 (?_ : ((v67 : Int32) = v68 → WP call 2 T_L_law Q (1300, [zR 33 0, zR 0 0, zR 16 0, zI x3], []) M68) ∧ (¬ (v67 : Int32) = v68 → WP call 2 T_L_law Q (339, [zR 33 0, zR 0 0, zR 16 0, zI x3], []) M68))
          refine ⟨fun z => ?_, fun z => ?_⟩
          · have h := h.1 z
            exact WP.k hc 2 h
          · have h := h.2 z
            exact WP.k hc 2 h
        · have h := h.2 z
          refine ⟨fun z => ?_, fun z => ?_⟩
          · have h := h.1 z
            refine WP.k hc 4 (?_ : WP call 2 T_L_law Q (345, [zR 33 0, zR 0 0, zR 16 0, zI x3], [zI (nI 1), zI x3, zR 33 0, zR 0 0]) M)
            refine WP.k hc 2 (?_ : vp_in (x3 + (nI 1)) (M 33 1 0).toNatClampNeg ∧ WP call 2 T_L_law Q (347, [zR 33 0, zR 0 0, zR 16 0, zI x3], [zI (M 33 0 ((x3 + (nI 1)).toNatClampNeg)), zR 0 0]) M)
            refine ⟨h.1, ?_⟩
            have h := h.2
            refine WP.k hc 1 (?_ : call 57 [zR 0 0, zI (M 33 0 ((x3 + (nI 1)).toNatClampNeg))] M (fun r65 M65 => gO r65 fun v65 => WP call 2 T_L_law Q (350, [zR 33 0, zR 0 0, zR 16 0, zI x3], [zI v65]) M65))
            refine hc _ _ _ _ _ (fun r65 M65 q => gO_m (fun v65 h => ?_) q) h
            refine WP.k hc 4 (?_ : WP call 2 T_L_law Q (354, [zR 33 0, zR 0 0, zR 16 0, zI x3], [zI (nI 1), zI x3, zR 33 0, zR 16 0, zI v65]) M65)
            refine WP.k hc 2 (?_ : vp_in (x3 + (nI 1)) (M65 33 1 0).toNatClampNeg ∧ WP call 2 T_L_law Q (356, [zR 33 0, zR 0 0, zR 16 0, zI x3], [zI (M65 33 0 ((x3 + (nI 1)).toNatClampNeg)), zR 16 0, zI v65]) M65)
            refine ⟨h.1, ?_⟩
            have h := h.2
            refine WP.k hc 1 (?_ : call 123 [zR 16 0, zI (M65 33 0 ((x3 + (nI 1)).toNatClampNeg))] M65 (fun r66 M66 => gO r66 fun v66 => WP call 2 T_L_law Q (359, [zR 33 0, zR 0 0, zR 16 0, zI x3], [zI v66, zI v65]) M66))
            refine hc _ _ _ _ _ (fun r66 M66 q => gO_m (fun v66 h => ?_) q) h
            refine WP.k hc 1 (?_ : ((v65 : Int32) = v66 → WP call 2 T_L_law Q (1300, [zR 33 0, zR 0 0, zR 16 0, zI x3], []) M66) ∧ (¬ (v65 : Int32) = v66 → WP call 2 T_L_law Q (362, [zR 33 0, zR 0 0, zR 16 0, zI x3], []) M66))
            refine ⟨fun z => ?_, fun z => ?_⟩
            · have h := h.1 z
              exact WP.k hc 2 h
            · have h := h.2 z
              exact WP.k hc 2 h
          · have h := h.2 z
            refine ⟨fun z => ?_, fun z => ?_⟩
            · have h := h.1 z
              refine WP.k hc 4 (?_ : WP call 2 T_L_law Q (368, [zR 33 0, zR 0 0, zR 16 0, zI x3], [zI (nI 1), zI x3, zR 33 0, zR 0 0]) M)
              refine WP.k hc 2 (?_ : vp_in (x3 + (nI 1)) (M 33 1 0).toNatClampNeg ∧ WP call 2 T_L_law Q (370, [zR 33 0, zR 0 0, zR 16 0, zI x3], [zI (M 33 0 ((x3 + (nI 1)).toNatClampNeg)), zR 0 0]) M)
              refine ⟨h.1, ?_⟩
              have h := h.2
              refine WP.k hc 1 (?_ : call 58 [zR 0 0, zI (M 33 0 ((x3 + (nI 1)).toNatClampNeg))] M (fun r63 M63 => gO r63 fun v63 => WP call 2 T_L_law Q (373, [zR 33 0, zR 0 0, zR 16 0, zI x3], [zI v63]) M63))
              refine hc _ _ _ _ _ (fun r63 M63 q => gO_m (fun v63 h => ?_) q) h
              refine WP.k hc 4 (?_ : WP call 2 T_L_law Q (377, [zR 33 0, zR 0 0, zR 16 0, zI x3], [zI (nI 1), zI x3, zR 33 0, zR 16 0, zI v63]) M63)
              refine WP.k hc 2 (?_ : vp_in (x3 + (nI 1)) (M63 33 1 0).toNatClampNeg ∧ WP call 2 T_L_law Q (379, [zR 33 0, zR 0 0, zR 16 0, zI x3], [zI (M63 33 0 ((x3 + (nI 1)).toNatClampNeg)), zR 16 0, zI v63]) M63)
              refine ⟨h.1, ?_⟩
              have h := h.2
              refine WP.k hc 1 (?_ : call 124 [zR 16 0, zI (M63 33 0 ((x3 + (nI 1)).toNatClampNeg))] M63 (fun r64 M64 => gO r64 fun v64 => WP call 2 T_L_law Q (382, [zR 33 0, zR 0 0, zR 16 0, zI x3], [zI v64, zI v63]) M64))
              refine hc _ _ _ _ _ (fun r64 M64 q => gO_m (fun v64 h => ?_) q) h
              refine WP.k hc 1 (?_ : ((v63 : Int32) = v64 → WP call 2 T_L_law Q (1300, [zR 33 0, zR 0 0, zR 16 0, zI x3], []) M64) ∧ (¬ (v63 : Int32) = v64 → WP call 2 T_L_law Q (385, [zR 33 0, zR 0 0, zR 16 0, zI x3], []) M64))
              refine ⟨fun z => ?_, fun z => ?_⟩
              · have h := h.1 z
                exact WP.k hc 2 h
              · have h := h.2 z
                exact WP.k hc 2 h
            · have h := h.2 z
              refine ⟨fun z => ?_, fun z => ?_⟩
              · have h := h.1 z
                refine WP.k hc 2 (?_ : call 59 [zR 0 0] M (fun r61 M61 => gO r61 fun v61 => WP call 2 T_L_law Q (391, [zR 33 0, zR 0 0, zR 16 0, zI x3], [zI v61]) M61))
                refine hc _ _ _ _ _ (fun r61 M61 q => gO_m (fun v61 h => ?_) q) h
                refine WP.k hc 2 (?_ : call 136 [zR 16 0] M61 (fun r62 M62 => gO r62 fun v62 => WP call 2 T_L_law Q (395, [zR 33 0, zR 0 0, zR 16 0, zI x3], [zI v62, zI v61]) M62))
                refine hc _ _ _ _ _ (fun r62 M62 q => gO_m (fun v62 h => ?_) q) h
                refine WP.k hc 1 (?_ : ((v61 : Int32) = v62 → WP call 2 T_L_law Q (1300, [zR 33 0, zR 0 0, zR 16 0, zI x3], []) M62) ∧ (¬ (v61 : Int32) = v62 → WP call 2 T_L_law Q (398, [zR 33 0, zR 0 0, zR 16 0, zI x3], []) M62))
                refine ⟨fun z => ?_, fun z => ?_⟩
                · have h := h.1 z
                  exact WP.k hc 2 h
                · have h := h.2 z
                  exact WP.k hc 2 h
              · have h := h.2 z
                refine ⟨fun z => ?_, fun z => ?_⟩
                · have h := h.1 z
                  refine WP.k hc 2 (?_ : call 60 [zR 0 0] M (fun r59 M59 => gO r59 fun v59 => WP call 2 T_L_law Q (404, [zR 33 0, zR 0 0, zR 16 0, zI x3], [zI v59]) M59))
                  refine hc _ _ _ _ _ (fun r59 M59 q => gO_m (fun v59 h => ?_) q) h
                  refine WP.k hc 2 (?_ : call 137 [zR 16 0] M59 (fun r60 M60 => gO r60 fun v60 => WP call 2 T_L_law Q (408, [zR 33 0, zR 0 0, zR 16 0, zI x3], [zI v60, zI v59]) M60))
                  refine hc _ _ _ _ _ (fun r60 M60 q => gO_m (fun v60 h => ?_) q) h
                  refine WP.k hc 1 (?_ : ((v59 : Int32) = v60 → WP call 2 T_L_law Q (1300, [zR 33 0, zR 0 0, zR 16 0, zI x3], []) M60) ∧ (¬ (v59 : Int32) = v60 → WP call 2 T_L_law Q (411, [zR 33 0, zR 0 0, zR 16 0, zI x3], []) M60))
                  refine ⟨fun z => ?_, fun z => ?_⟩
                  · have h := h.1 z
                    exact WP.k hc 2 h
                  · have h := h.2 z
                    exact WP.k hc 2 h
                · have h := h.2 z
                  refine ⟨fun z => ?_, fun z => ?_⟩
                  · have h := h.1 z
                    refine WP.k hc 4 (?_ : WP call 2 T_L_law Q (417, [zR 33 0, zR 0 0, zR 16 0, zI x3], [zI (nI 1), zI x3, zR 33 0, zR 0 0]) M)
                    refine WP.k hc 2 (?_ : vp_in (x3 + (nI 1)) (M 33 1 0).toNatClampNeg ∧ WP call 2 T_L_law Q (419, [zR 33 0, zR 0 0, zR 16 0, zI x3], [zI (M 33 0 ((x3 + (nI 1)).toNatClampNeg)), zR 0 0]) M)
                    refine ⟨h.1, ?_⟩
                    have h := h.2
                    refine WP.k hc 1 (?_ : call 61 [zR 0 0, zI (M 33 0 ((x3 + (nI 1)).toNatClampNeg))] M (fun r57 M57 => gO r57 fun v57 => WP call 2 T_L_law Q (422, [zR 33 0, zR 0 0, zR 16 0, zI x3], [zI v57]) M57))
                    refine hc _ _ _ _ _ (fun r57 M57 q => gO_m (fun v57 h => ?_) q) h
                    refine WP.k hc 4 (?_ : WP call 2 T_L_law Q (426, [zR 33 0, zR 0 0, zR 16 0, zI x3], [zI (nI 1), zI x3, zR 33 0, zR 16 0, zI v57]) M57)
                    refine WP.k hc 2 (?_ : vp_in (x3 + (nI 1)) (M57 33 1 0).toNatClampNeg ∧ WP call 2 T_L_law Q (428, [zR 33 0, zR 0 0, zR 16 0, zI x3], [zI (M57 33 0 ((x3 + (nI 1)).toNatClampNeg)), zR 16 0, zI v57]) M57)
                    refine ⟨h.1, ?_⟩
                    have h := h.2
                    refine WP.k hc 1 (?_ : call 152 [zR 16 0, zI (M57 33 0 ((x3 + (nI 1)).toNatClampNeg))] M57 (fun r58 M58 => gO r58 fun v58 => WP call 2 T_L_law Q (431, [zR 33 0, zR 0 0, zR 16 0, zI x3], [zI v58, zI v57]) M58))
                    refine hc _ _ _ _ _ (fun r58 M58 q => gO_m (fun v58 h => ?_) q) h
                    refine WP.k hc 1 (?_ : ((v57 : Int32) = v58 → WP call 2 T_L_law Q (1300, [zR 33 0, zR 0 0, zR 16 0, zI x3], []) M58) ∧ (¬ (v57 : Int32) = v58 → WP call 2 T_L_law Q (434, [zR 33 0, zR 0 0, zR 16 0, zI x3], []) M58))
                    refine ⟨fun z => ?_, fun z => ?_⟩
                    · have h := h.1 z
                      exact WP.k hc 2 h
                    · have h := h.2 z
                      exact WP.k hc 2 h
                  · have h := h.2 z
                    refine ⟨fun z => ?_, fun z => ?_⟩
                    · have h := h.1 z
                      refine WP.k hc 4 (?_ : WP call 2 T_L_law Q (440, [zR 33 0, zR 0 0, zR 16 0, zI x3], [zI (nI 1), zI x3, zR 33 0, zR 0 0]) M)
                      refine WP.k hc 2 (?_ : vp_in (x3 + (nI 1)) (M 33 1 0).toNatClampNeg ∧ WP call 2 T_L_law Q (442, [zR 33 0, zR 0 0, zR 16 0, zI x3], [zI (M 33 0 ((x3 + (nI 1)).toNatClampNeg)), zR 0 0]) M)
                      refine ⟨h.1, ?_⟩
                      have h := h.2
                      refine WP.k hc 4 (?_ : WP call 2 T_L_law Q (446, [zR 33 0, zR 0 0, zR 16 0, zI x3], [zI (x3 + (nI 2)), zR 33 0, zI (M 33 0 ((x3 + (nI 1)).toNatClampNeg)), zR 0 0]) M)
                      refine WP.k hc 1 (?_ : vp_in (x3 + (nI 2)) (M 33 1 0).toNatClampNeg ∧ WP call 2 T_L_law Q (447, [zR 33 0, zR 0 0, zR 16 0, zI x3], [zI (M 33 0 ((x3 + (nI 2)).toNatClampNeg)), zI (M 33 0 ((x3 + (nI 1)).toNatClampNeg)), zR 0 0]) M)
                      refine ⟨h.1, ?_⟩
                      have h := h.2
                      refine WP.k hc 1 (?_ : call 62 [zR 0 0, zI (M 33 0 ((x3 + (nI 1)).toNatClampNeg)), zI (M 33 0 ((x3 + (nI 2)).toNatClampNeg))] M (fun r55 M55 => gO r55 fun v55 => WP call 2 T_L_law Q (450, [zR 33 0, zR 0 0, zR 16 0, zI x3], [zI v55]) M55))
                      refine hc _ _ _ _ _ (fun r55 M55 q => gO_m (fun v55 h => ?_) q) h
                      refine WP.k hc 4 (?_ : WP call 2 T_L_law Q (454, [zR 33 0, zR 0 0, zR 16 0, zI x3], [zI (nI 1), zI x3, zR 33 0, zR 16 0, zI v55]) M55)
                      refine WP.k hc 2 (?_ : vp_in (x3 + (nI 1)) (M55 33 1 0).toNatClampNeg ∧ WP call 2 T_L_law Q (456, [zR 33 0, zR 0 0, zR 16 0, zI x3], [zI (M55 33 0 ((x3 + (nI 1)).toNatClampNeg)), zR 16 0, zI v55]) M55)
                      refine ⟨h.1, ?_⟩
                      have h := h.2
                      refine WP.k hc 4 (?_ : WP call 2 T_L_law Q (460, [zR 33 0, zR 0 0, zR 16 0, zI x3], [zI (x3 + (nI 2)), zR 33 0, zI (M55 33 0 ((x3 + (nI 1)).toNatClampNeg)), zR 16 0, zI v55]) M55)
                      refine WP.k hc 1 (?_ : vp_in (x3 + (nI 2)) (M55 33 1 0).toNatClampNeg ∧ WP call 2 T_L_law Q (461, [zR 33 0, zR 0 0, zR 16 0, zI x3], [zI (M55 33 0 ((x3 + (nI 2)).toNatClampNeg)), zI (M55 33 0 ((x3 + (nI 1)).toNatClampNeg)), zR 16 0, zI v55]) M55)
                      refine ⟨h.1, ?_⟩
                      have h := h.2
                      refine WP.k hc 1 (?_ : call 153 [zR 16 0, zI (M55 33 0 ((x3 + (nI 1)).toNatClampNeg)), zI (M55 33 0 ((x3 + (nI 2)).toNatClampNeg))] M55 (fun r56 M56 => gO r56 fun v56 => WP call 2 T_L_law Q (464, [zR 33 0, zR 0 0, zR 16 0, zI x3], [zI v56, zI v55]) M56))
                      refine hc _ _ _ _ _ (fun r56 M56 q => gO_m (fun v56 h => ?_) q) h
                      refine WP.k hc 1 (?_ : ((v55 : Int32) = v56 → WP call 2 T_L_law Q (1300, [zR 33 0, zR 0 0, zR 16 0, zI x3], []) M56) ∧ (¬ (v55 : Int32) = v56 → WP call 2 T_L_law Q (467, [zR 33 0, zR 0 0, zR 16 0, zI x3], []) M56))
                      refine ⟨fun z => ?_, fun z => ?_⟩
                      · have h := h.1 z
                        exact WP.k hc 2 h
                      · have h := h.2 z
                        exact WP.k hc 2 h
                    · have h := h.2 z
                      refine ⟨fun z => ?_, fun z => ?_⟩
                      · have h := h.1 z
                        refine WP.k hc 4 (?_ : WP call 2 T_L_law Q (473, [zR 33 0, zR 0 0, zR 16 0, zI x3], [zI (nI 1), zI x3, zR 33 0, zR 0 0]) M)
                        refine WP.k hc 2 (?_ : vp_in (x3 + (nI 1)) (M 33 1 0).toNatClampNeg ∧ WP call 2 T_L_law Q (475, [zR 33 0, zR 0 0, zR 16 0, zI x3], [zI (M 33 0 ((x3 + (nI 1)).toNatClampNeg)), zR 0 0]) M)
                        refine ⟨h.1, ?_⟩
                        have h := h.2
                        refine WP.k hc 1 (?_ : call 63 [zR 0 0, zI (M 33 0 ((x3 + (nI 1)).toNatClampNeg))] M (fun r53 M53 => gO r53 fun v53 => WP call 2 T_L_law Q (478, [zR 33 0, zR 0 0, zR 16 0, zI x3], [zI v53]) M53))
                        refine hc _ _ _ _ _ (fun r53 M53 q => gO_m (fun v53 h => ?_) q) h
                        refine WP.k hc 4 (?_ : WP call 2 T_L_law Q (482, [zR 33 0, zR 0 0, zR 16 0, zI x3], [zI (nI 1), zI x3, zR 33 0, zR 16 0, zI v53]) M53)
                        refine WP.k hc 2 (?_ : vp_in (x3 + (nI 1)) (M53 33 1 0).toNatClampNeg ∧ WP call 2 T_L_law Q (484, [zR 33 0, zR 0 0, zR 16 0, zI x3], [zI (M53 33 0 ((x3 + (nI 1)).toNatClampNeg)), zR 16 0, zI v53]) M53)
                        refine ⟨h.1, ?_⟩
                        have h := h.2
                        refine WP.k hc 1 (?_ : call 154 [zR 16 0, zI (M53 33 0 ((x3 + (nI 1)).toNatClampNeg))] M53 (fun r54 M54 => gO r54 fun v54 => WP call 2 T_L_law Q (487, [zR 33 0, zR 0 0, zR 16 0, zI x3], [zI v54, zI v53]) M54))
                        refine hc _ _ _ _ _ (fun r54 M54 q => gO_m (fun v54 h => ?_) q) h
                        refine WP.k hc 1 (?_ : ((v53 : Int32) = v54 → WP call 2 T_L_law Q (1300, [zR 33 0, zR 0 0, zR 16 0, zI x3], []) M54) ∧ (¬ (v53 : Int32) = v54 → WP call 2 T_L_law Q (490, [zR 33 0, zR 0 0, zR 16 0, zI x3], []) M54))
                        refine ⟨fun z => ?_, fun z => ?_⟩
                        · have h := h.1 z
                          exact WP.k hc 2 h
                        · have h := h.2 z
                          exact WP.k hc 2 h
                      · have h := h.2 z
                        refine ⟨fun z => ?_, fun z => ?_⟩
                        · have h := h.1 z
                          refine WP.k hc 4 (?_ : WP call 2 T_L_law Q (496, [zR 33 0, zR 0 0, zR 16 0, zI x3], [zI (nI 1), zI x3, zR 33 0, zR 0 0]) M)
                          refine WP.k hc 2 (?_ : vp_in (x3 + (nI 1)) (M 33 1 0).toNatClampNeg ∧ WP call 2 T_L_law Q (498, [zR 33 0, zR 0 0, zR 16 0, zI x3], [zI (M 33 0 ((x3 + (nI 1)).toNatClampNeg)), zR 0 0]) M)
                          refine ⟨h.1, ?_⟩
                          have h := h.2
                          refine WP.k hc 4 (?_ : WP call 2 T_L_law Q (502, [zR 33 0, zR 0 0, zR 16 0, zI x3], [zI (x3 + (nI 2)), zR 33 0, zI (M 33 0 ((x3 + (nI 1)).toNatClampNeg)), zR 0 0]) M)
                          refine WP.k hc 1 (?_ : vp_in (x3 + (nI 2)) (M 33 1 0).toNatClampNeg ∧ WP call 2 T_L_law Q (503, [zR 33 0, zR 0 0, zR 16 0, zI x3], [zI (M 33 0 ((x3 + (nI 2)).toNatClampNeg)), zI (M 33 0 ((x3 + (nI 1)).toNatClampNeg)), zR 0 0]) M)
                          refine ⟨h.1, ?_⟩
                          have h := h.2
                          refine WP.k hc 1 (?_ : call 64 [zR 0 0, zI (M 33 0 ((x3 + (nI 1)).toNatClampNeg)), zI (M 33 0 ((x3 + (nI 2)).toNatClampNeg))] M (fun r51 M51 => gO r51 fun v51 => WP call 2 T_L_law Q (506, [zR 33 0, zR 0 0, zR 16 0, zI x3], [zI v51]) M51))
                          refine hc _ _ _ _ _ (fun r51 M51 q => gO_m (fun v51 h => ?_) q) h
                          refine WP.k hc 4 (?_ : WP call 2 T_L_law Q (510, [zR 33 0, zR 0 0, zR 16 0, zI x3], [zI (nI 1), zI x3, zR 33 0, zR 16 0, zI v51]) M51)
                          refine WP.k hc 2 (?_ : vp_in (x3 + (nI 1)) (M51 33 1 0).toNatClampNeg ∧ WP call 2 T_L_law Q (512, [zR 33 0, zR 0 0, zR 16 0, zI x3], [zI (M51 33 0 ((x3 + (nI 1)).toNatClampNeg)), zR 16 0, zI v51]) M51)
                          refine ⟨h.1, ?_⟩
                          have h := h.2
                          refine WP.k hc 4 (?_ : WP call 2 T_L_law Q (516, [zR 33 0, zR 0 0, zR 16 0, zI x3], [zI (x3 + (nI 2)), zR 33 0, zI (M51 33 0 ((x3 + (nI 1)).toNatClampNeg)), zR 16 0, zI v51]) M51)
                          refine WP.k hc 1 (?_ : vp_in (x3 + (nI 2)) (M51 33 1 0).toNatClampNeg ∧ WP call 2 T_L_law Q (517, [zR 33 0, zR 0 0, zR 16 0, zI x3], [zI (M51 33 0 ((x3 + (nI 2)).toNatClampNeg)), zI (M51 33 0 ((x3 + (nI 1)).toNatClampNeg)), zR 16 0, zI v51]) M51)
                          refine ⟨h.1, ?_⟩
                          have h := h.2
                          refine WP.k hc 1 (?_ : call 155 [zR 16 0, zI (M51 33 0 ((x3 + (nI 1)).toNatClampNeg)), zI (M51 33 0 ((x3 + (nI 2)).toNatClampNeg))] M51 (fun r52 M52 => gO r52 fun v52 => WP call 2 T_L_law Q (520, [zR 33 0, zR 0 0, zR 16 0, zI x3], [zI v52, zI v51]) M52))
                          refine hc _ _ _ _ _ (fun r52 M52 q => gO_m (fun v52 h => ?_) q) h
                          refine WP.k hc 1 (?_ : ((v51 : Int32) = v52 → WP call 2 T_L_law Q (1300, [zR 33 0, zR 0 0, zR 16 0, zI x3], []) M52) ∧ (¬ (v51 : Int32) = v52 → WP call 2 T_L_law Q (523, [zR 33 0, zR 0 0, zR 16 0, zI x3], []) M52))
                          refine ⟨fun z => ?_, fun z => ?_⟩
                          · have h := h.1 z
                            exact WP.k hc 2 h
                          · have h := h.2 z
                            exact WP.k hc 2 h
                        · have h := h.2 z
                          refine ⟨fun z => ?_, fun z => ?_⟩
                          · have h := h.1 z
                            refine WP.k hc 4 (?_ : WP call 2 T_L_law Q (529, [zR 33 0, zR 0 0, zR 16 0, zI x3], [zI (nI 1), zI x3, zR 33 0, zR 0 0]) M)
                            refine WP.k hc 2 (?_ : vp_in (x3 + (nI 1)) (M 33 1 0).toNatClampNeg ∧ WP call 2 T_L_law Q (531, [zR 33 0, zR 0 0, zR 16 0, zI x3], [zI (M 33 0 ((x3 + (nI 1)).toNatClampNeg)), zR 0 0]) M)
                            refine ⟨h.1, ?_⟩
                            have h := h.2
                            refine WP.k hc 1 (?_ : call 65 [zR 0 0, zI (M 33 0 ((x3 + (nI 1)).toNatClampNeg))] M (fun r49 M49 => gO r49 fun v49 => WP call 2 T_L_law Q (534, [zR 33 0, zR 0 0, zR 16 0, zI x3], [zI v49]) M49))
                            refine hc _ _ _ _ _ (fun r49 M49 q => gO_m (fun v49 h => ?_) q) h
                            refine WP.k hc 4 (?_ : WP call 2 T_L_law Q (538, [zR 33 0, zR 0 0, zR 16 0, zI x3], [zI (nI 1), zI x3, zR 33 0, zR 16 0, zI v49]) M49)
                            refine WP.k hc 2 (?_ : vp_in (x3 + (nI 1)) (M49 33 1 0).toNatClampNeg ∧ WP call 2 T_L_law Q (540, [zR 33 0, zR 0 0, zR 16 0, zI x3], [zI (M49 33 0 ((x3 + (nI 1)).toNatClampNeg)), zR 16 0, zI v49]) M49)
                            refine ⟨h.1, ?_⟩
                            have h := h.2
                            refine WP.k hc 1 (?_ : call 156 [zR 16 0, zI (M49 33 0 ((x3 + (nI 1)).toNatClampNeg))] M49 (fun r50 M50 => gO r50 fun v50 => WP call 2 T_L_law Q (543, [zR 33 0, zR 0 0, zR 16 0, zI x3], [zI v50, zI v49]) M50))
                            refine hc _ _ _ _ _ (fun r50 M50 q => gO_m (fun v50 h => ?_) q) h
                            refine WP.k hc 1 (?_ : ((v49 : Int32) = v50 → WP call 2 T_L_law Q (1300, [zR 33 0, zR 0 0, zR 16 0, zI x3], []) M50) ∧ (¬ (v49 : Int32) = v50 → WP call 2 T_L_law Q (546, [zR 33 0, zR 0 0, zR 16 0, zI x3], []) M50))
                            refine ⟨fun z => ?_, fun z => ?_⟩
                            · have h := h.1 z
                              exact WP.k hc 2 h
                            · have h := h.2 z
                              exact WP.k hc 2 h
                          · have h := h.2 z
                            refine ⟨fun z => ?_, fun z => ?_⟩
                            · have h := h.1 z
                              refine WP.k hc 2 (?_ : call 66 [zR 0 0] M (fun r47 M47 => gO r47 fun v47 => WP call 2 T_L_law Q (552, [zR 33 0, zR 0 0, zR 16 0, zI x3], [zI v47]) M47))
                              refine hc _ _ _ _ _ (fun r47 M47 q => gO_m (fun v47 h => ?_) q) h
                              refine WP.k hc 2 (?_ : call 157 [zR 16 0] M47 (fun r48 M48 => gO r48 fun v48 => WP call 2 T_L_law Q (556, [zR 33 0, zR 0 0, zR 16 0, zI x3], [zI v48, zI v47]) M48))
                              refine hc _ _ _ _ _ (fun r48 M48 q => gO_m (fun v48 h => ?_) q) h
                              refine WP.k hc 1 (?_ : ((v47 : Int32) = v48 → WP call 2 T_L_law Q (1300, [zR 33 0, zR 0 0, zR 16 0, zI x3], []) M48) ∧ (¬ (v47 : Int32) = v48 → WP call 2 T_L_law Q (559, [zR 33 0, zR 0 0, zR 16 0, zI x3], []) M48))
                              refine ⟨fun z => ?_, fun z => ?_⟩
                              · have h := h.1 z
                                exact WP.k hc 2 h
                              · have h := h.2 z
                                exact WP.k hc 2 h
                            · have h := h.2 z
                              refine ⟨fun z => ?_, fun z => ?_⟩
                              · have h := h.1 z
                                refine WP.k hc 4 (?_ : WP call 2 T_L_law Q (565, [zR 33 0, zR 0 0, zR 16 0, zI x3], [zI (nI 1), zI x3, zR 33 0, zR 0 0]) M)
                                refine WP.k hc 2 (?_ : vp_in (x3 + (nI 1)) (M 33 1 0).toNatClampNeg ∧ WP call 2 T_L_law Q (567, [zR 33 0, zR 0 0, zR 16 0, zI x3], [zI (M 33 0 ((x3 + (nI 1)).toNatClampNeg)), zR 0 0]) M)
                                refine ⟨h.1, ?_⟩
                                have h := h.2
                                refine WP.k hc 4 (?_ : WP call 2 T_L_law Q (571, [zR 33 0, zR 0 0, zR 16 0, zI x3], [zI (x3 + (nI 2)), zR 33 0, zI (M 33 0 ((x3 + (nI 1)).toNatClampNeg)), zR 0 0]) M)
                                refine WP.k hc 1 (?_ : vp_in (x3 + (nI 2)) (M 33 1 0).toNatClampNeg ∧ WP call 2 T_L_law Q (572, [zR 33 0, zR 0 0, zR 16 0, zI x3], [zI (M 33 0 ((x3 + (nI 2)).toNatClampNeg)), zI (M 33 0 ((x3 + (nI 1)).toNatClampNeg)), zR 0 0]) M)
                                refine ⟨h.1, ?_⟩
                                have h := h.2
                                refine WP.k hc 1 (?_ : call 67 [zR 0 0, zI (M 33 0 ((x3 + (nI 1)).toNatClampNeg)), zI (M 33 0 ((x3 + (nI 2)).toNatClampNeg))] M (fun r45 M45 => gO r45 fun v45 => WP call 2 T_L_law Q (575, [zR 33 0, zR 0 0, zR 16 0, zI x3], [zI v45]) M45))
                                refine hc _ _ _ _ _ (fun r45 M45 q => gO_m (fun v45 h => ?_) q) h
                                refine WP.k hc 4 (?_ : WP call 2 T_L_law Q (579, [zR 33 0, zR 0 0, zR 16 0, zI x3], [zI (nI 1), zI x3, zR 33 0, zR 16 0, zI v45]) M45)
                                refine WP.k hc 2 (?_ : vp_in (x3 + (nI 1)) (M45 33 1 0).toNatClampNeg ∧ WP call 2 T_L_law Q (581, [zR 33 0, zR 0 0, zR 16 0, zI x3], [zI (M45 33 0 ((x3 + (nI 1)).toNatClampNeg)), zR 16 0, zI v45]) M45)
                                refine ⟨h.1, ?_⟩
                                have h := h.2
                                refine WP.k hc 4 (?_ : WP call 2 T_L_law Q (585, [zR 33 0, zR 0 0, zR 16 0, zI x3], [zI (x3 + (nI 2)), zR 33 0, zI (M45 33 0 ((x3 + (nI 1)).toNatClampNeg)), zR 16 0, zI v45]) M45)
                                refine WP.k hc 1 (?_ : vp_in (x3 + (nI 2)) (M45 33 1 0).toNatClampNeg ∧ WP call 2 T_L_law Q (586, [zR 33 0, zR 0 0, zR 16 0, zI x3], [zI (M45 33 0 ((x3 + (nI 2)).toNatClampNeg)), zI (M45 33 0 ((x3 + (nI 1)).toNatClampNeg)), zR 16 0, zI v45]) M45)
                                refine ⟨h.1, ?_⟩
                                have h := h.2
                                refine WP.k hc 1 (?_ : call 158 [zR 16 0, zI (M45 33 0 ((x3 + (nI 1)).toNatClampNeg)), zI (M45 33 0 ((x3 + (nI 2)).toNatClampNeg))] M45 (fun r46 M46 => gO r46 fun v46 => WP call 2 T_L_law Q (589, [zR 33 0, zR 0 0, zR 16 0, zI x3], [zI v46, zI v45]) M46))
                                refine hc _ _ _ _ _ (fun r46 M46 q => gO_m (fun v46 h => ?_) q) h
                                refine WP.k hc 1 (?_ : ((v45 : Int32) = v46 → WP call 2 T_L_law Q (1300, [zR 33 0, zR 0 0, zR 16 0, zI x3], []) M46) ∧ (¬ (v45 : Int32) = v46 → WP call 2 T_L_law Q (592, [zR 33 0, zR 0 0, zR 16 0, zI x3], []) M46))
                                refine ⟨fun z => ?_, fun z => ?_⟩
                                · have h := h.1 z
                                  exact WP.k hc 2 h
                                · have h := h.2 z
                                  exact WP.k hc 2 h
                              · have h := h.2 z
                                refine ⟨fun z => ?_, fun z => ?_⟩
                                · have h := h.1 z
                                  refine WP.k hc 4 (?_ : WP call 2 T_L_law Q (598, [zR 33 0, zR 0 0, zR 16 0, zI x3], [zI (nI 1), zI x3, zR 33 0, zR 0 0]) M)
                                  refine WP.k hc 2 (?_ : vp_in (x3 + (nI 1)) (M 33 1 0).toNatClampNeg ∧ WP call 2 T_L_law Q (600, [zR 33 0, zR 0 0, zR 16 0, zI x3], [zI (M 33 0 ((x3 + (nI 1)).toNatClampNeg)), zR 0 0]) M)
                                  refine ⟨h.1, ?_⟩
                                  have h := h.2
                                  refine WP.k hc 4 (?_ : WP call 2 T_L_law Q (604, [zR 33 0, zR 0 0, zR 16 0, zI x3], [zI (x3 + (nI 2)), zR 33 0, zI (M 33 0 ((x3 + (nI 1)).toNatClampNeg)), zR 0 0]) M)
                                  refine WP.k hc 1 (?_ : vp_in (x3 + (nI 2)) (M 33 1 0).toNatClampNeg ∧ WP call 2 T_L_law Q (605, [zR 33 0, zR 0 0, zR 16 0, zI x3], [zI (M 33 0 ((x3 + (nI 2)).toNatClampNeg)), zI (M 33 0 ((x3 + (nI 1)).toNatClampNeg)), zR 0 0]) M)
                                  refine ⟨h.1, ?_⟩
                                  have h := h.2
                                  refine WP.k hc 1 (?_ : call 68 [zR 0 0, zI (M 33 0 ((x3 + (nI 1)).toNatClampNeg)), zI (M 33 0 ((x3 + (nI 2)).toNatClampNeg))] M (fun r43 M43 => gO r43 fun v43 => WP call 2 T_L_law Q (608, [zR 33 0, zR 0 0, zR 16 0, zI x3], [zI v43]) M43))
                                  refine hc _ _ _ _ _ (fun r43 M43 q => gO_m (fun v43 h => ?_) q) h
                                  refine WP.k hc 4 (?_ : WP call 2 T_L_law Q (612, [zR 33 0, zR 0 0, zR 16 0, zI x3], [zI (nI 1), zI x3, zR 33 0, zR 16 0, zI v43]) M43)
                                  refine WP.k hc 2 (?_ : vp_in (x3 + (nI 1)) (M43 33 1 0).toNatClampNeg ∧ WP call 2 T_L_law Q (614, [zR 33 0, zR 0 0, zR 16 0, zI x3], [zI (M43 33 0 ((x3 + (nI 1)).toNatClampNeg)), zR 16 0, zI v43]) M43)
                                  refine ⟨h.1, ?_⟩
                                  have h := h.2
                                  refine WP.k hc 4 (?_ : WP call 2 T_L_law Q (618, [zR 33 0, zR 0 0, zR 16 0, zI x3], [zI (x3 + (nI 2)), zR 33 0, zI (M43 33 0 ((x3 + (nI 1)).toNatClampNeg)), zR 16 0, zI v43]) M43)
                                  refine WP.k hc 1 (?_ : vp_in (x3 + (nI 2)) (M43 33 1 0).toNatClampNeg ∧ WP call 2 T_L_law Q (619, [zR 33 0, zR 0 0, zR 16 0, zI x3], [zI (M43 33 0 ((x3 + (nI 2)).toNatClampNeg)), zI (M43 33 0 ((x3 + (nI 1)).toNatClampNeg)), zR 16 0, zI v43]) M43)
                                  refine ⟨h.1, ?_⟩
                                  have h := h.2
                                  refine WP.k hc 1 (?_ : call 160 [zR 16 0, zI (M43 33 0 ((x3 + (nI 1)).toNatClampNeg)), zI (M43 33 0 ((x3 + (nI 2)).toNatClampNeg))] M43 (fun r44 M44 => gO r44 fun v44 => WP call 2 T_L_law Q (622, [zR 33 0, zR 0 0, zR 16 0, zI x3], [zI v44, zI v43]) M44))
                                  refine hc _ _ _ _ _ (fun r44 M44 q => gO_m (fun v44 h => ?_) q) h
                                  refine WP.k hc 1 (?_ : ((v43 : Int32) = v44 → WP call 2 T_L_law Q (1300, [zR 33 0, zR 0 0, zR 16 0, zI x3], []) M44) ∧ (¬ (v43 : Int32) = v44 → WP call 2 T_L_law Q (625, [zR 33 0, zR 0 0, zR 16 0, zI x3], []) M44))
                                  refine ⟨fun z => ?_, fun z => ?_⟩
                                  · have h := h.1 z
                                    exact WP.k hc 2 h
                                  · have h := h.2 z
                                    exact WP.k hc 2 h
                                · have h := h.2 z
                                  refine ⟨fun z => ?_, fun z => ?_⟩
                                  · have h := h.1 z
                                    refine WP.k hc 4 (?_ : WP call 2 T_L_law Q (631, [zR 33 0, zR 0 0, zR 16 0, zI x3], [zI (nI 1), zI x3, zR 33 0, zR 0 0]) M)
                                    refine WP.k hc 2 (?_ : vp_in (x3 + (nI 1)) (M 33 1 0).toNatClampNeg ∧ WP call 2 T_L_law Q (633, [zR 33 0, zR 0 0, zR 16 0, zI x3], [zI (M 33 0 ((x3 + (nI 1)).toNatClampNeg)), zR 0 0]) M)
                                    refine ⟨h.1, ?_⟩
                                    have h := h.2
                                    refine WP.k hc 4 (?_ : WP call 2 T_L_law Q (637, [zR 33 0, zR 0 0, zR 16 0, zI x3], [zI (x3 + (nI 2)), zR 33 0, zI (M 33 0 ((x3 + (nI 1)).toNatClampNeg)), zR 0 0]) M)
                                    refine WP.k hc 1 (?_ : vp_in (x3 + (nI 2)) (M 33 1 0).toNatClampNeg ∧ WP call 2 T_L_law Q (638, [zR 33 0, zR 0 0, zR 16 0, zI x3], [zI (M 33 0 ((x3 + (nI 2)).toNatClampNeg)), zI (M 33 0 ((x3 + (nI 1)).toNatClampNeg)), zR 0 0]) M)
                                    refine ⟨h.1, ?_⟩
                                    have h := h.2
                                    refine WP.k hc 1 (?_ : call 69 [zR 0 0, zI (M 33 0 ((x3 + (nI 1)).toNatClampNeg)), zI (M 33 0 ((x3 + (nI 2)).toNatClampNeg))] M (fun r41 M41 => gO r41 fun v41 => WP call 2 T_L_law Q (641, [zR 33 0, zR 0 0, zR 16 0, zI x3], [zI v41]) M41))
                                    refine hc _ _ _ _ _ (fun r41 M41 q => gO_m (fun v41 h => ?_) q) h
                                    refine WP.k hc 4 (?_ : WP call 2 T_L_law Q (645, [zR 33 0, zR 0 0, zR 16 0, zI x3], [zI (nI 1), zI x3, zR 33 0, zR 16 0, zI v41]) M41)
                                    refine WP.k hc 2 (?_ : vp_in (x3 + (nI 1)) (M41 33 1 0).toNatClampNeg ∧ WP call 2 T_L_law Q (647, [zR 33 0, zR 0 0, zR 16 0, zI x3], [zI (M41 33 0 ((x3 + (nI 1)).toNatClampNeg)), zR 16 0, zI v41]) M41)
                                    refine ⟨h.1, ?_⟩
                                    have h := h.2
                                    refine WP.k hc 4 (?_ : WP call 2 T_L_law Q (651, [zR 33 0, zR 0 0, zR 16 0, zI x3], [zI (x3 + (nI 2)), zR 33 0, zI (M41 33 0 ((x3 + (nI 1)).toNatClampNeg)), zR 16 0, zI v41]) M41)
                                    refine WP.k hc 1 (?_ : vp_in (x3 + (nI 2)) (M41 33 1 0).toNatClampNeg ∧ WP call 2 T_L_law Q (652, [zR 33 0, zR 0 0, zR 16 0, zI x3], [zI (M41 33 0 ((x3 + (nI 2)).toNatClampNeg)), zI (M41 33 0 ((x3 + (nI 1)).toNatClampNeg)), zR 16 0, zI v41]) M41)
                                    refine ⟨h.1, ?_⟩
                                    have h := h.2
                                    refine WP.k hc 1 (?_ : call 162 [zR 16 0, zI (M41 33 0 ((x3 + (nI 1)).toNatClampNeg)), zI (M41 33 0 ((x3 + (nI 2)).toNatClampNeg))] M41 (fun r42 M42 => gO r42 fun v42 => WP call 2 T_L_law Q (655, [zR 33 0, zR 0 0, zR 16 0, zI x3], [zI v42, zI v41]) M42))
                                    refine hc _ _ _ _ _ (fun r42 M42 q => gO_m (fun v42 h => ?_) q) h
                                    refine WP.k hc 1 (?_ : ((v41 : Int32) = v42 → WP call 2 T_L_law Q (1300, [zR 33 0, zR 0 0, zR 16 0, zI x3], []) M42) ∧ (¬ (v41 : Int32) = v42 → WP call 2 T_L_law Q (658, [zR 33 0, zR 0 0, zR 16 0, zI x3], []) M42))
                                    refine ⟨fun z => ?_, fun z => ?_⟩
                                    · have h := h.1 z
                                      exact WP.k hc 2 h
                                    · have h := h.2 z
                                      exact WP.k hc 2 h
                                  · have h := h.2 z
                                    refine ⟨fun z => ?_, fun z => ?_⟩
                                    · have h := h.1 z
                                      refine WP.k hc 4 (?_ : WP call 2 T_L_law Q (664, [zR 33 0, zR 0 0, zR 16 0, zI x3], [zI (nI 1), zI x3, zR 33 0, zR 0 0]) M)
                                      refine WP.k hc 2 (?_ : vp_in (x3 + (nI 1)) (M 33 1 0).toNatClampNeg ∧ WP call 2 T_L_law Q (666, [zR 33 0, zR 0 0, zR 16 0, zI x3], [zI (M 33 0 ((x3 + (nI 1)).toNatClampNeg)), zR 0 0]) M)
                                      refine ⟨h.1, ?_⟩
                                      have h := h.2
                                      refine WP.k hc 4 (?_ : WP call 2 T_L_law Q (670, [zR 33 0, zR 0 0, zR 16 0, zI x3], [zI (x3 + (nI 2)), zR 33 0, zI (M 33 0 ((x3 + (nI 1)).toNatClampNeg)), zR 0 0]) M)
                                      refine WP.k hc 1 (?_ : vp_in (x3 + (nI 2)) (M 33 1 0).toNatClampNeg ∧ WP call 2 T_L_law Q (671, [zR 33 0, zR 0 0, zR 16 0, zI x3], [zI (M 33 0 ((x3 + (nI 2)).toNatClampNeg)), zI (M 33 0 ((x3 + (nI 1)).toNatClampNeg)), zR 0 0]) M)
                                      refine ⟨h.1, ?_⟩
                                      have h := h.2
                                      refine WP.k hc 1 (?_ : call 70 [zR 0 0, zI (M 33 0 ((x3 + (nI 1)).toNatClampNeg)), zI (M 33 0 ((x3 + (nI 2)).toNatClampNeg))] M (fun r39 M39 => gO r39 fun v39 => WP call 2 T_L_law Q (674, [zR 33 0, zR 0 0, zR 16 0, zI x3], [zI v39]) M39))
                                      refine hc _ _ _ _ _ (fun r39 M39 q => gO_m (fun v39 h => ?_) q) h
                                      refine WP.k hc 4 (?_ : WP call 2 T_L_law Q (678, [zR 33 0, zR 0 0, zR 16 0, zI x3], [zI (nI 1), zI x3, zR 33 0, zR 16 0, zI v39]) M39)
                                      refine WP.k hc 2 (?_ : vp_in (x3 + (nI 1)) (M39 33 1 0).toNatClampNeg ∧ WP call 2 T_L_law Q (680, [zR 33 0, zR 0 0, zR 16 0, zI x3], [zI (M39 33 0 ((x3 + (nI 1)).toNatClampNeg)), zR 16 0, zI v39]) M39)
                                      refine ⟨h.1, ?_⟩
                                      have h := h.2
                                      refine WP.k hc 4 (?_ : WP call 2 T_L_law Q (684, [zR 33 0, zR 0 0, zR 16 0, zI x3], [zI (x3 + (nI 2)), zR 33 0, zI (M39 33 0 ((x3 + (nI 1)).toNatClampNeg)), zR 16 0, zI v39]) M39)
                                      refine WP.k hc 1 (?_ : vp_in (x3 + (nI 2)) (M39 33 1 0).toNatClampNeg ∧ WP call 2 T_L_law Q (685, [zR 33 0, zR 0 0, zR 16 0, zI x3], [zI (M39 33 0 ((x3 + (nI 2)).toNatClampNeg)), zI (M39 33 0 ((x3 + (nI 1)).toNatClampNeg)), zR 16 0, zI v39]) M39)
                                      refine ⟨h.1, ?_⟩
                                      have h := h.2
                                      refine WP.k hc 1 (?_ : call 163 [zR 16 0, zI (M39 33 0 ((x3 + (nI 1)).toNatClampNeg)), zI (M39 33 0 ((x3 + (nI 2)).toNatClampNeg))] M39 (fun r40 M40 => gO r40 fun v40 => WP call 2 T_L_law Q (688, [zR 33 0, zR 0 0, zR 16 0, zI x3], [zI v40, zI v39]) M40))
                                      refine hc _ _ _ _ _ (fun r40 M40 q => gO_m (fun v40 h => ?_) q) h
                                      refine WP.k hc 1 (?_ : ((v39 : Int32) = v40 → WP call 2 T_L_law Q (1300, [zR 33 0, zR 0 0, zR 16 0, zI x3], []) M40) ∧ (¬ (v39 : Int32) = v40 → WP call 2 T_L_law Q (691, [zR 33 0, zR 0 0, zR 16 0, zI x3], []) M40))
                                      refine ⟨fun z => ?_, fun z => ?_⟩
                                      · have h := h.1 z
                                        exact WP.k hc 2 h
                                      · have h := h.2 z
                                        exact WP.k hc 2 h
                                    · have h := h.2 z
                                      refine ⟨fun z => ?_, fun z => ?_⟩
                                      · have h := h.1 z
                                        refine WP.k hc 4 (?_ : WP call 2 T_L_law Q (697, [zR 33 0, zR 0 0, zR 16 0, zI x3], [zI (nI 1), zI x3, zR 33 0, zR 0 0]) M)
                                        refine WP.k hc 2 (?_ : vp_in (x3 + (nI 1)) (M 33 1 0).toNatClampNeg ∧ WP call 2 T_L_law Q (699, [zR 33 0, zR 0 0, zR 16 0, zI x3], [zI (M 33 0 ((x3 + (nI 1)).toNatClampNeg)), zR 0 0]) M)
                                        refine ⟨h.1, ?_⟩
                                        have h := h.2
                                        refine WP.k hc 4 (?_ : WP call 2 T_L_law Q (703, [zR 33 0, zR 0 0, zR 16 0, zI x3], [zI (x3 + (nI 2)), zR 33 0, zI (M 33 0 ((x3 + (nI 1)).toNatClampNeg)), zR 0 0]) M)
                                        refine WP.k hc 1 (?_ : vp_in (x3 + (nI 2)) (M 33 1 0).toNatClampNeg ∧ WP call 2 T_L_law Q (704, [zR 33 0, zR 0 0, zR 16 0, zI x3], [zI (M 33 0 ((x3 + (nI 2)).toNatClampNeg)), zI (M 33 0 ((x3 + (nI 1)).toNatClampNeg)), zR 0 0]) M)
                                        refine ⟨h.1, ?_⟩
                                        have h := h.2
                                        refine WP.k hc 1 (?_ : call 71 [zR 0 0, zI (M 33 0 ((x3 + (nI 1)).toNatClampNeg)), zI (M 33 0 ((x3 + (nI 2)).toNatClampNeg))] M (fun r37 M37 => gO r37 fun v37 => WP call 2 T_L_law Q (707, [zR 33 0, zR 0 0, zR 16 0, zI x3], [zI v37]) M37))
                                        refine hc _ _ _ _ _ (fun r37 M37 q => gO_m (fun v37 h => ?_) q) h
                                        refine WP.k hc 4 (?_ : WP call 2 T_L_law Q (711, [zR 33 0, zR 0 0, zR 16 0, zI x3], [zI (nI 1), zI x3, zR 33 0, zR 16 0, zI v37]) M37)
                                        refine WP.k hc 2 (?_ : vp_in (x3 + (nI 1)) (M37 33 1 0).toNatClampNeg ∧ WP call 2 T_L_law Q (713, [zR 33 0, zR 0 0, zR 16 0, zI x3], [zI (M37 33 0 ((x3 + (nI 1)).toNatClampNeg)), zR 16 0, zI v37]) M37)
                                        refine ⟨h.1, ?_⟩
                                        have h := h.2
                                        refine WP.k hc 4 (?_ : WP call 2 T_L_law Q (717, [zR 33 0, zR 0 0, zR 16 0, zI x3], [zI (x3 + (nI 2)), zR 33 0, zI (M37 33 0 ((x3 + (nI 1)).toNatClampNeg)), zR 16 0, zI v37]) M37)
                                        refine WP.k hc 1 (?_ : vp_in (x3 + (nI 2)) (M37 33 1 0).toNatClampNeg ∧ WP call 2 T_L_law Q (718, [zR 33 0, zR 0 0, zR 16 0, zI x3], [zI (M37 33 0 ((x3 + (nI 2)).toNatClampNeg)), zI (M37 33 0 ((x3 + (nI 1)).toNatClampNeg)), zR 16 0, zI v37]) M37)
                                        refine ⟨h.1, ?_⟩
                                        have h := h.2
                                        refine WP.k hc 1 (?_ : call 164 [zR 16 0, zI (M37 33 0 ((x3 + (nI 1)).toNatClampNeg)), zI (M37 33 0 ((x3 + (nI 2)).toNatClampNeg))] M37 (fun r38 M38 => gO r38 fun v38 => WP call 2 T_L_law Q (721, [zR 33 0, zR 0 0, zR 16 0, zI x3], [zI v38, zI v37]) M38))
                                        refine hc _ _ _ _ _ (fun r38 M38 q => gO_m (fun v38 h => ?_) q) h
                                        refine WP.k hc 1 (?_ : ((v37 : Int32) = v38 → WP call 2 T_L_law Q (1300, [zR 33 0, zR 0 0, zR 16 0, zI x3], []) M38) ∧ (¬ (v37 : Int32) = v38 → WP call 2 T_L_law Q (724, [zR 33 0, zR 0 0, zR 16 0, zI x3], []) M38))
                                        refine ⟨fun z => ?_, fun z => ?_⟩
                                        · have h := h.1 z
                                          exact WP.k hc 2 h
                                        · have h := h.2 z
                                          exact WP.k hc 2 h
                                      · have h := h.2 z
                                        refine ⟨fun z => ?_, fun z => ?_⟩
                                        · have h := h.1 z
                                          refine WP.k hc 4 (?_ : WP call 2 T_L_law Q (730, [zR 33 0, zR 0 0, zR 16 0, zI x3], [zI (nI 1), zI x3, zR 33 0, zR 0 0]) M)
                                          refine WP.k hc 2 (?_ : vp_in (x3 + (nI 1)) (M 33 1 0).toNatClampNeg ∧ WP call 2 T_L_law Q (732, [zR 33 0, zR 0 0, zR 16 0, zI x3], [zI (M 33 0 ((x3 + (nI 1)).toNatClampNeg)), zR 0 0]) M)
                                          refine ⟨h.1, ?_⟩
                                          have h := h.2
                                          refine WP.k hc 1 (?_ : call 72 [zR 0 0, zI (M 33 0 ((x3 + (nI 1)).toNatClampNeg))] M (fun r35 M35 => gO r35 fun v35 => WP call 2 T_L_law Q (735, [zR 33 0, zR 0 0, zR 16 0, zI x3], [zI v35]) M35))
                                          refine hc _ _ _ _ _ (fun r35 M35 q => gO_m (fun v35 h => ?_) q) h
                                          refine WP.k hc 4 (?_ : WP call 2 T_L_law Q (739, [zR 33 0, zR 0 0, zR 16 0, zI x3], [zI (nI 1), zI x3, zR 33 0, zR 16 0, zI v35]) M35)
                                          refine WP.k hc 2 (?_ : vp_in (x3 + (nI 1)) (M35 33 1 0).toNatClampNeg ∧ WP call 2 T_L_law Q (741, [zR 33 0, zR 0 0, zR 16 0, zI x3], [zI (M35 33 0 ((x3 + (nI 1)).toNatClampNeg)), zR 16 0, zI v35]) M35)
                                          refine ⟨h.1, ?_⟩
                                          have h := h.2
                                          refine WP.k hc 1 (?_ : call 165 [zR 16 0, zI (M35 33 0 ((x3 + (nI 1)).toNatClampNeg))] M35 (fun r36 M36 => gO r36 fun v36 => WP call 2 T_L_law Q (744, [zR 33 0, zR 0 0, zR 16 0, zI x3], [zI v36, zI v35]) M36))
                                          refine hc _ _ _ _ _ (fun r36 M36 q => gO_m (fun v36 h => ?_) q) h
                                          refine WP.k hc 1 (?_ : ((v35 : Int32) = v36 → WP call 2 T_L_law Q (1300, [zR 33 0, zR 0 0, zR 16 0, zI x3], []) M36) ∧ (¬ (v35 : Int32) = v36 → WP call 2 T_L_law Q (747, [zR 33 0, zR 0 0, zR 16 0, zI x3], []) M36))
                                          refine ⟨fun z => ?_, fun z => ?_⟩
                                          · have h := h.1 z
                                            exact WP.k hc 2 h
                                          · have h := h.2 z
                                            exact WP.k hc 2 h
                                        · have h := h.2 z
                                          refine ⟨fun z => ?_, fun z => ?_⟩
                                          · have h := h.1 z
                                            refine WP.k hc 4 (?_ : WP call 2 T_L_law Q (753, [zR 33 0, zR 0 0, zR 16 0, zI x3], [zI (nI 1), zI x3, zR 33 0, zR 0 0]) M)
                                            refine WP.k hc 2 (?_ : vp_in (x3 + (nI 1)) (M 33 1 0).toNatClampNeg ∧ WP call 2 T_L_law Q (755, [zR 33 0, zR 0 0, zR 16 0, zI x3], [zI (M 33 0 ((x3 + (nI 1)).toNatClampNeg)), zR 0 0]) M)
                                            refine ⟨h.1, ?_⟩
                                            have h := h.2
                                            refine WP.k hc 1 (?_ : call 73 [zR 0 0, zI (M 33 0 ((x3 + (nI 1)).toNatClampNeg))] M (fun r33 M33 => gO r33 fun v33 => WP call 2 T_L_law Q (758, [zR 33 0, zR 0 0, zR 16 0, zI x3], [zI v33]) M33))
                                            refine hc _ _ _ _ _ (fun r33 M33 q => gO_m (fun v33 h => ?_) q) h
                                            refine WP.k hc 4 (?_ : WP call 2 T_L_law Q (762, [zR 33 0, zR 0 0, zR 16 0, zI x3], [zI (nI 1), zI x3, zR 33 0, zR 16 0, zI v33]) M33)
                                            refine WP.k hc 2 (?_ : vp_in (x3 + (nI 1)) (M33 33 1 0).toNatClampNeg ∧ WP call 2 T_L_law Q (764, [zR 33 0, zR 0 0, zR 16 0, zI x3], [zI (M33 33 0 ((x3 + (nI 1)).toNatClampNeg)), zR 16 0, zI v33]) M33)
                                            refine ⟨h.1, ?_⟩
                                            have h := h.2
                                            refine WP.k hc 1 (?_ : call 166 [zR 16 0, zI (M33 33 0 ((x3 + (nI 1)).toNatClampNeg))] M33 (fun r34 M34 => gO r34 fun v34 => WP call 2 T_L_law Q (767, [zR 33 0, zR 0 0, zR 16 0, zI x3], [zI v34, zI v33]) M34))
                                            refine hc _ _ _ _ _ (fun r34 M34 q => gO_m (fun v34 h => ?_) q) h
                                            refine WP.k hc 1 (?_ : ((v33 : Int32) = v34 → WP call 2 T_L_law Q (1300, [zR 33 0, zR 0 0, zR 16 0, zI x3], []) M34) ∧ (¬ (v33 : Int32) = v34 → WP call 2 T_L_law Q (770, [zR 33 0, zR 0 0, zR 16 0, zI x3], []) M34))
                                            refine ⟨fun z => ?_, fun z => ?_⟩
                                            · have h := h.1 z
                                              exact WP.k hc 2 h
                                            · have h := h.2 z
                                              exact WP.k hc 2 h
                                          · have h := h.2 z
                                            refine ⟨fun z => ?_, fun z => ?_⟩
                                            · have h := h.1 z
                                              refine WP.k hc 4 (?_ : WP call 2 T_L_law Q (776, [zR 33 0, zR 0 0, zR 16 0, zI x3], [zI (nI 1), zI x3, zR 33 0, zR 0 0]) M)
                                              refine WP.k hc 2 (?_ : vp_in (x3 + (nI 1)) (M 33 1 0).toNatClampNeg ∧ WP call 2 T_L_law Q (778, [zR 33 0, zR 0 0, zR 16 0, zI x3], [zI (M 33 0 ((x3 + (nI 1)).toNatClampNeg)), zR 0 0]) M)
                                              refine ⟨h.1, ?_⟩
                                              have h := h.2
                                              refine WP.k hc 1 (?_ : call 74 [zR 0 0, zI (M 33 0 ((x3 + (nI 1)).toNatClampNeg))] M (fun r31 M31 => gO r31 fun v31 => WP call 2 T_L_law Q (781, [zR 33 0, zR 0 0, zR 16 0, zI x3], [zI v31]) M31))
                                              refine hc _ _ _ _ _ (fun r31 M31 q => gO_m (fun v31 h => ?_) q) h
                                              refine WP.k hc 4 (?_ : WP call 2 T_L_law Q (785, [zR 33 0, zR 0 0, zR 16 0, zI x3], [zI (nI 1), zI x3, zR 33 0, zR 16 0, zI v31]) M31)
                                              refine WP.k hc 2 (?_ : vp_in (x3 + (nI 1)) (M31 33 1 0).toNatClampNeg ∧ WP call 2 T_L_law Q (787, [zR 33 0, zR 0 0, zR 16 0, zI x3], [zI (M31 33 0 ((x3 + (nI 1)).toNatClampNeg)), zR 16 0, zI v31]) M31)
                                              refine ⟨h.1, ?_⟩
                                              have h := h.2
                                              refine WP.k hc 1 (?_ : call 167 [zR 16 0, zI (M31 33 0 ((x3 + (nI 1)).toNatClampNeg))] M31 (fun r32 M32 => gO r32 fun v32 => WP call 2 T_L_law Q (790, [zR 33 0, zR 0 0, zR 16 0, zI x3], [zI v32, zI v31]) M32))
                                              refine hc _ _ _ _ _ (fun r32 M32 q => gO_m (fun v32 h => ?_) q) h
                                              refine WP.k hc 1 (?_ : ((v31 : Int32) = v32 → WP call 2 T_L_law Q (1300, [zR 33 0, zR 0 0, zR 16 0, zI x3], []) M32) ∧ (¬ (v31 : Int32) = v32 → WP call 2 T_L_law Q (793, [zR 33 0, zR 0 0, zR 16 0, zI x3], []) M32))
                                              refine ⟨fun z => ?_, fun z => ?_⟩
                                              · have h := h.1 z
                                                exact WP.k hc 2 h
                                              · have h := h.2 z
                                                exact WP.k hc 2 h
                                            · have h := h.2 z
                                              refine ⟨fun z => ?_, fun z => ?_⟩
                                              · have h := h.1 z
                                                refine WP.k hc 4 (?_ : WP call 2 T_L_law Q (799, [zR 33 0, zR 0 0, zR 16 0, zI x3], [zI (nI 1), zI x3, zR 33 0, zR 0 0]) M)
                                                refine WP.k hc 2 (?_ : vp_in (x3 + (nI 1)) (M 33 1 0).toNatClampNeg ∧ WP call 2 T_L_law Q (801, [zR 33 0, zR 0 0, zR 16 0, zI x3], [zI (M 33 0 ((x3 + (nI 1)).toNatClampNeg)), zR 0 0]) M)
                                                refine ⟨h.1, ?_⟩
                                                have h := h.2
                                                refine WP.k hc 4 (?_ : WP call 2 T_L_law Q (805, [zR 33 0, zR 0 0, zR 16 0, zI x3], [zI (x3 + (nI 2)), zR 33 0, zI (M 33 0 ((x3 + (nI 1)).toNatClampNeg)), zR 0 0]) M)
                                                refine WP.k hc 1 (?_ : vp_in (x3 + (nI 2)) (M 33 1 0).toNatClampNeg ∧ WP call 2 T_L_law Q (806, [zR 33 0, zR 0 0, zR 16 0, zI x3], [zI (M 33 0 ((x3 + (nI 2)).toNatClampNeg)), zI (M 33 0 ((x3 + (nI 1)).toNatClampNeg)), zR 0 0]) M)
                                                refine ⟨h.1, ?_⟩
                                                have h := h.2
                                                refine WP.k hc 4 (?_ : WP call 2 T_L_law Q (810, [zR 33 0, zR 0 0, zR 16 0, zI x3], [zI (x3 + (nI 3)), zR 33 0, zI (M 33 0 ((x3 + (nI 2)).toNatClampNeg)), zI (M 33 0 ((x3 + (nI 1)).toNatClampNeg)), zR 0 0]) M)
                                                refine WP.k hc 1 (?_ : vp_in (x3 + (nI 3)) (M 33 1 0).toNatClampNeg ∧ WP call 2 T_L_law Q (811, [zR 33 0, zR 0 0, zR 16 0, zI x3], [zI (M 33 0 ((x3 + (nI 3)).toNatClampNeg)), zI (M 33 0 ((x3 + (nI 2)).toNatClampNeg)), zI (M 33 0 ((x3 + (nI 1)).toNatClampNeg)), zR 0 0]) M)
                                                refine ⟨h.1, ?_⟩
                                                have h := h.2
                                                refine WP.k hc 1 (?_ : call 75 [zR 0 0, zI (M 33 0 ((x3 + (nI 1)).toNatClampNeg)), zI (M 33 0 ((x3 + (nI 2)).toNatClampNeg)), zI (M 33 0 ((x3 + (nI 3)).toNatClampNeg))] M (fun r29 M29 => gO r29 fun v29 => WP call 2 T_L_law Q (814, [zR 33 0, zR 0 0, zR 16 0, zI x3], [zI v29]) M29))
                                                refine hc _ _ _ _ _ (fun r29 M29 q => gO_m (fun v29 h => ?_) q) h
                                                refine WP.k hc 4 (?_ : WP call 2 T_L_law Q (818, [zR 33 0, zR 0 0, zR 16 0, zI x3], [zI (nI 1), zI x3, zR 33 0, zR 16 0, zI v29]) M29)
                                                refine WP.k hc 2 (?_ : vp_in (x3 + (nI 1)) (M29 33 1 0).toNatClampNeg ∧ WP call 2 T_L_law Q (820, [zR 33 0, zR 0 0, zR 16 0, zI x3], [zI (M29 33 0 ((x3 + (nI 1)).toNatClampNeg)), zR 16 0, zI v29]) M29)
                                                refine ⟨h.1, ?_⟩
                                                have h := h.2
                                                refine WP.k hc 4 (?_ : WP call 2 T_L_law Q (824, [zR 33 0, zR 0 0, zR 16 0, zI x3], [zI (x3 + (nI 2)), zR 33 0, zI (M29 33 0 ((x3 + (nI 1)).toNatClampNeg)), zR 16 0, zI v29]) M29)
                                                refine WP.k hc 1 (?_ : vp_in (x3 + (nI 2)) (M29 33 1 0).toNatClampNeg ∧ WP call 2 T_L_law Q (825, [zR 33 0, zR 0 0, zR 16 0, zI x3], [zI (M29 33 0 ((x3 + (nI 2)).toNatClampNeg)), zI (M29 33 0 ((x3 + (nI 1)).toNatClampNeg)), zR 16 0, zI v29]) M29)
                                                refine ⟨h.1, ?_⟩
                                                have h := h.2
                                                refine WP.k hc 4 (?_ : WP call 2 T_L_law Q (829, [zR 33 0, zR 0 0, zR 16 0, zI x3], [zI (x3 + (nI 3)), zR 33 0, zI (M29 33 0 ((x3 + (nI 2)).toNatClampNeg)), zI (M29 33 0 ((x3 + (nI 1)).toNatClampNeg)), zR 16 0, zI v29]) M29)
                                                refine WP.k hc 1 (?_ : vp_in (x3 + (nI 3)) (M29 33 1 0).toNatClampNeg ∧ WP call 2 T_L_law Q (830, [zR 33 0, zR 0 0, zR 16 0, zI x3], [zI (M29 33 0 ((x3 + (nI 3)).toNatClampNeg)), zI (M29 33 0 ((x3 + (nI 2)).toNatClampNeg)), zI (M29 33 0 ((x3 + (nI 1)).toNatClampNeg)), zR 16 0, zI v29]) M29)
                                                refine ⟨h.1, ?_⟩
                                                have h := h.2
                                                refine WP.k hc 1 (?_ : call 169 [zR 16 0, zI (M29 33 0 ((x3 + (nI 1)).toNatClampNeg)), zI (M29 33 0 ((x3 + (nI 2)).toNatClampNeg)), zI (M29 33 0 ((x3 + (nI 3)).toNatClampNeg))] M29 (fun r30 M30 => gO r30 fun v30 => WP call 2 T_L_law Q (833, [zR 33 0, zR 0 0, zR 16 0, zI x3], [zI v30, zI v29]) M30))
                                                refine hc _ _ _ _ _ (fun r30 M30 q => gO_m (fun v30 h => ?_) q) h
                                                refine WP.k hc 1 (?_ : ((v29 : Int32) = v30 → WP call 2 T_L_law Q (1300, [zR 33 0, zR 0 0, zR 16 0, zI x3], []) M30) ∧ (¬ (v29 : Int32) = v30 → WP call 2 T_L_law Q (836, [zR 33 0, zR 0 0, zR 16 0, zI x3], []) M30))
                                                refine ⟨fun z => ?_, fun z => ?_⟩
                                                · have h := h.1 z
                                                  exact WP.k hc 2 h
                                                · have h := h.2 z
                                                  exact WP.k hc 2 h
                                              · have h := h.2 z
                                                refine ⟨fun z => ?_, fun z => ?_⟩
                                                · have h := h.1 z
                                                  refine WP.k hc 4 (?_ : WP call 2 T_L_law Q (842, [zR 33 0, zR 0 0, zR 16 0, zI x3], [zI (nI 1), zI x3, zR 33 0, zR 0 0]) M)
                                                  refine WP.k hc 2 (?_ : vp_in (x3 + (nI 1)) (M 33 1 0).toNatClampNeg ∧ WP call 2 T_L_law Q (844, [zR 33 0, zR 0 0, zR 16 0, zI x3], [zI (M 33 0 ((x3 + (nI 1)).toNatClampNeg)), zR 0 0]) M)
                                                  refine ⟨h.1, ?_⟩
                                                  have h := h.2
                                                  refine WP.k hc 4 (?_ : WP call 2 T_L_law Q (848, [zR 33 0, zR 0 0, zR 16 0, zI x3], [zI (x3 + (nI 2)), zR 33 0, zI (M 33 0 ((x3 + (nI 1)).toNatClampNeg)), zR 0 0]) M)
                                                  refine WP.k hc 1 (?_ : vp_in (x3 + (nI 2)) (M 33 1 0).toNatClampNeg ∧ WP call 2 T_L_law Q (849, [zR 33 0, zR 0 0, zR 16 0, zI x3], [zI (M 33 0 ((x3 + (nI 2)).toNatClampNeg)), zI (M 33 0 ((x3 + (nI 1)).toNatClampNeg)), zR 0 0]) M)
                                                  refine ⟨h.1, ?_⟩
                                                  have h := h.2
                                                  refine WP.k hc 1 (?_ : call 76 [zR 0 0, zI (M 33 0 ((x3 + (nI 1)).toNatClampNeg)), zI (M 33 0 ((x3 + (nI 2)).toNatClampNeg))] M (fun r27 M27 => gO r27 fun v27 => WP call 2 T_L_law Q (852, [zR 33 0, zR 0 0, zR 16 0, zI x3], [zI v27]) M27))
                                                  refine hc _ _ _ _ _ (fun r27 M27 q => gO_m (fun v27 h => ?_) q) h
                                                  refine WP.k hc 4 (?_ : WP call 2 T_L_law Q (856, [zR 33 0, zR 0 0, zR 16 0, zI x3], [zI (nI 1), zI x3, zR 33 0, zR 16 0, zI v27]) M27)
                                                  refine WP.k hc 2 (?_ : vp_in (x3 + (nI 1)) (M27 33 1 0).toNatClampNeg ∧ WP call 2 T_L_law Q (858, [zR 33 0, zR 0 0, zR 16 0, zI x3], [zI (M27 33 0 ((x3 + (nI 1)).toNatClampNeg)), zR 16 0, zI v27]) M27)
                                                  refine ⟨h.1, ?_⟩
                                                  have h := h.2
                                                  refine WP.k hc 4 (?_ : WP call 2 T_L_law Q (862, [zR 33 0, zR 0 0, zR 16 0, zI x3], [zI (x3 + (nI 2)), zR 33 0, zI (M27 33 0 ((x3 + (nI 1)).toNatClampNeg)), zR 16 0, zI v27]) M27)
                                                  refine WP.k hc 1 (?_ : vp_in (x3 + (nI 2)) (M27 33 1 0).toNatClampNeg ∧ WP call 2 T_L_law Q (863, [zR 33 0, zR 0 0, zR 16 0, zI x3], [zI (M27 33 0 ((x3 + (nI 2)).toNatClampNeg)), zI (M27 33 0 ((x3 + (nI 1)).toNatClampNeg)), zR 16 0, zI v27]) M27)
                                                  refine ⟨h.1, ?_⟩
                                                  have h := h.2
                                                  refine WP.k hc 1 (?_ : call 170 [zR 16 0, zI (M27 33 0 ((x3 + (nI 1)).toNatClampNeg)), zI (M27 33 0 ((x3 + (nI 2)).toNatClampNeg))] M27 (fun r28 M28 => gO r28 fun v28 => WP call 2 T_L_law Q (866, [zR 33 0, zR 0 0, zR 16 0, zI x3], [zI v28, zI v27]) M28))
                                                  refine hc _ _ _ _ _ (fun r28 M28 q => gO_m (fun v28 h => ?_) q) h
                                                  refine WP.k hc 1 (?_ : ((v27 : Int32) = v28 → WP call 2 T_L_law Q (1300, [zR 33 0, zR 0 0, zR 16 0, zI x3], []) M28) ∧ (¬ (v27 : Int32) = v28 → WP call 2 T_L_law Q (869, [zR 33 0, zR 0 0, zR 16 0, zI x3], []) M28))
                                                  refine ⟨fun z => ?_, fun z => ?_⟩
                                                  · have h := h.1 z
                                                    exact WP.k hc 2 h
                                                  · have h := h.2 z
                                                    exact WP.k hc 2 h
                                                · have h := h.2 z
                                                  refine ⟨fun z => ?_, fun z => ?_⟩
                                                  · have h := h.1 z
                                                    refine WP.k hc 4 (?_ : WP call 2 T_L_law Q (875, [zR 33 0, zR 0 0, zR 16 0, zI x3], [zI (nI 1), zI x3, zR 33 0, zR 0 0]) M)
                                                    refine WP.k hc 2 (?_ : vp_in (x3 + (nI 1)) (M 33 1 0).toNatClampNeg ∧ WP call 2 T_L_law Q (877, [zR 33 0, zR 0 0, zR 16 0, zI x3], [zI (M 33 0 ((x3 + (nI 1)).toNatClampNeg)), zR 0 0]) M)
                                                    refine ⟨h.1, ?_⟩
                                                    have h := h.2
                                                    refine WP.k hc 4 (?_ : WP call 2 T_L_law Q (881, [zR 33 0, zR 0 0, zR 16 0, zI x3], [zI (x3 + (nI 2)), zR 33 0, zI (M 33 0 ((x3 + (nI 1)).toNatClampNeg)), zR 0 0]) M)
                                                    refine WP.k hc 1 (?_ : vp_in (x3 + (nI 2)) (M 33 1 0).toNatClampNeg ∧ WP call 2 T_L_law Q (882, [zR 33 0, zR 0 0, zR 16 0, zI x3], [zI (M 33 0 ((x3 + (nI 2)).toNatClampNeg)), zI (M 33 0 ((x3 + (nI 1)).toNatClampNeg)), zR 0 0]) M)
                                                    refine ⟨h.1, ?_⟩
                                                    have h := h.2
                                                    refine WP.k hc 1 (?_ : call 77 [zR 0 0, zI (M 33 0 ((x3 + (nI 1)).toNatClampNeg)), zI (M 33 0 ((x3 + (nI 2)).toNatClampNeg))] M (fun r25 M25 => gO r25 fun v25 => WP call 2 T_L_law Q (885, [zR 33 0, zR 0 0, zR 16 0, zI x3], [zI v25]) M25))
                                                    refine hc _ _ _ _ _ (fun r25 M25 q => gO_m (fun v25 h => ?_) q) h
                                                    refine WP.k hc 4 (?_ : WP call 2 T_L_law Q (889, [zR 33 0, zR 0 0, zR 16 0, zI x3], [zI (nI 1), zI x3, zR 33 0, zR 16 0, zI v25]) M25)
                                                    refine WP.k hc 2 (?_ : vp_in (x3 + (nI 1)) (M25 33 1 0).toNatClampNeg ∧ WP call 2 T_L_law Q (891, [zR 33 0, zR 0 0, zR 16 0, zI x3], [zI (M25 33 0 ((x3 + (nI 1)).toNatClampNeg)), zR 16 0, zI v25]) M25)
                                                    refine ⟨h.1, ?_⟩
                                                    have h := h.2
                                                    refine WP.k hc 4 (?_ : WP call 2 T_L_law Q (895, [zR 33 0, zR 0 0, zR 16 0, zI x3], [zI (x3 + (nI 2)), zR 33 0, zI (M25 33 0 ((x3 + (nI 1)).toNatClampNeg)), zR 16 0, zI v25]) M25)
                                                    refine WP.k hc 1 (?_ : vp_in (x3 + (nI 2)) (M25 33 1 0).toNatClampNeg ∧ WP call 2 T_L_law Q (896, [zR 33 0, zR 0 0, zR 16 0, zI x3], [zI (M25 33 0 ((x3 + (nI 2)).toNatClampNeg)), zI (M25 33 0 ((x3 + (nI 1)).toNatClampNeg)), zR 16 0, zI v25]) M25)
                                                    refine ⟨h.1, ?_⟩
                                                    have h := h.2
                                                    refine WP.k hc 1 (?_ : call 171 [zR 16 0, zI (M25 33 0 ((x3 + (nI 1)).toNatClampNeg)), zI (M25 33 0 ((x3 + (nI 2)).toNatClampNeg))] M25 (fun r26 M26 => gO r26 fun v26 => WP call 2 T_L_law Q (899, [zR 33 0, zR 0 0, zR 16 0, zI x3], [zI v26, zI v25]) M26))
                                                    refine hc _ _ _ _ _ (fun r26 M26 q => gO_m (fun v26 h => ?_) q) h
                                                    refine WP.k hc 1 (?_ : ((v25 : Int32) = v26 → WP call 2 T_L_law Q (1300, [zR 33 0, zR 0 0, zR 16 0, zI x3], []) M26) ∧ (¬ (v25 : Int32) = v26 → WP call 2 T_L_law Q (902, [zR 33 0, zR 0 0, zR 16 0, zI x3], []) M26))
                                                    refine ⟨fun z => ?_, fun z => ?_⟩
                                                    · have h := h.1 z
                                                      exact WP.k hc 2 h
                                                    · have h := h.2 z
                                                      exact WP.k hc 2 h
                                                  · have h := h.2 z
                                                    refine ⟨fun z => ?_, fun z => ?_⟩
                                                    · have h := h.1 z
                                                      refine WP.k hc 4 (?_ : WP call 2 T_L_law Q (908, [zR 33 0, zR 0 0, zR 16 0, zI x3], [zI (nI 1), zI x3, zR 33 0, zR 0 0]) M)
                                                      refine WP.k hc 2 (?_ : vp_in (x3 + (nI 1)) (M 33 1 0).toNatClampNeg ∧ WP call 2 T_L_law Q (910, [zR 33 0, zR 0 0, zR 16 0, zI x3], [zI (M 33 0 ((x3 + (nI 1)).toNatClampNeg)), zR 0 0]) M)
                                                      refine ⟨h.1, ?_⟩
                                                      have h := h.2
                                                      refine WP.k hc 4 (?_ : WP call 2 T_L_law Q (914, [zR 33 0, zR 0 0, zR 16 0, zI x3], [zI (x3 + (nI 2)), zR 33 0, zI (M 33 0 ((x3 + (nI 1)).toNatClampNeg)), zR 0 0]) M)
                                                      refine WP.k hc 1 (?_ : vp_in (x3 + (nI 2)) (M 33 1 0).toNatClampNeg ∧ WP call 2 T_L_law Q (915, [zR 33 0, zR 0 0, zR 16 0, zI x3], [zI (M 33 0 ((x3 + (nI 2)).toNatClampNeg)), zI (M 33 0 ((x3 + (nI 1)).toNatClampNeg)), zR 0 0]) M)
                                                      refine ⟨h.1, ?_⟩
                                                      have h := h.2
                                                      refine WP.k hc 4 (?_ : WP call 2 T_L_law Q (919, [zR 33 0, zR 0 0, zR 16 0, zI x3], [zI (x3 + (nI 3)), zR 33 0, zI (M 33 0 ((x3 + (nI 2)).toNatClampNeg)), zI (M 33 0 ((x3 + (nI 1)).toNatClampNeg)), zR 0 0]) M)
                                                      refine WP.k hc 1 (?_ : vp_in (x3 + (nI 3)) (M 33 1 0).toNatClampNeg ∧ WP call 2 T_L_law Q (920, [zR 33 0, zR 0 0, zR 16 0, zI x3], [zI (M 33 0 ((x3 + (nI 3)).toNatClampNeg)), zI (M 33 0 ((x3 + (nI 2)).toNatClampNeg)), zI (M 33 0 ((x3 + (nI 1)).toNatClampNeg)), zR 0 0]) M)
                                                      refine ⟨h.1, ?_⟩
                                                      have h := h.2
                                                      refine WP.k hc 4 (?_ : WP call 2 T_L_law Q (924, [zR 33 0, zR 0 0, zR 16 0, zI x3], [zI (x3 + (nI 4)), zR 33 0, zI (M 33 0 ((x3 + (nI 3)).toNatClampNeg)), zI (M 33 0 ((x3 + (nI 2)).toNatClampNeg)), zI (M 33 0 ((x3 + (nI 1)).toNatClampNeg)), zR 0 0]) M)
                                                      refine WP.k hc 1 (?_ : vp_in (x3 + (nI 4)) (M 33 1 0).toNatClampNeg ∧ WP call 2 T_L_law Q (925, [zR 33 0, zR 0 0, zR 16 0, zI x3], [zI (M 33 0 ((x3 + (nI 4)).toNatClampNeg)), zI (M 33 0 ((x3 + (nI 3)).toNatClampNeg)), zI (M 33 0 ((x3 + (nI 2)).toNatClampNeg)), zI (M 33 0 ((x3 + (nI 1)).toNatClampNeg)), zR 0 0]) M)
                                                      refine ⟨h.1, ?_⟩
                                                      have h := h.2
                                                      refine WP.k hc 4 (?_ : WP call 2 T_L_law Q (929, [zR 33 0, zR 0 0, zR 16 0, zI x3], [zI (x3 + (nI 5)), zR 33 0, zI (M 33 0 ((x3 + (nI 4)).toNatClampNeg)), zI (M 33 0 ((x3 + (nI 3)).toNatClampNeg)), zI (M 33 0 ((x3 + (nI 2)).toNatClampNeg)), zI (M 33 0 ((x3 + (nI 1)).toNatClampNeg)), zR 0 0]) M)
                                                      refine WP.k hc 1 (?_ : vp_in (x3 + (nI 5)) (M 33 1 0).toNatClampNeg ∧ WP call 2 T_L_law Q (930, [zR 33 0, zR 0 0, zR 16 0, zI x3], [zI (M 33 0 ((x3 + (nI 5)).toNatClampNeg)), zI (M 33 0 ((x3 + (nI 4)).toNatClampNeg)), zI (M 33 0 ((x3 + (nI 3)).toNatClampNeg)), zI (M 33 0 ((x3 + (nI 2)).toNatClampNeg)), zI (M 33 0 ((x3 + (nI 1)).toNatClampNeg)), zR 0 0]) M)
                                                      refine ⟨h.1, ?_⟩
                                                      have h := h.2
                                                      refine WP.k hc 1 (?_ : call 78 [zR 0 0, zI (M 33 0 ((x3 + (nI 1)).toNatClampNeg)), zI (M 33 0 ((x3 + (nI 2)).toNatClampNeg)), zI (M 33 0 ((x3 + (nI 3)).toNatClampNeg)), zI (M 33 0 ((x3 + (nI 4)).toNatClampNeg)), zI (M 33 0 ((x3 + (nI 5)).toNatClampNeg))] M (fun r23 M23 => gO r23 fun v23 => WP call 2 T_L_law Q (933, [zR 33 0, zR 0 0, zR 16 0, zI x3], [zI v23]) M23))
                                                      refine hc _ _ _ _ _ (fun r23 M23 q => gO_m (fun v23 h => ?_) q) h
                                                      refine WP.k hc 4 (?_ : WP call 2 T_L_law Q (937, [zR 33 0, zR 0 0, zR 16 0, zI x3], [zI (nI 1), zI x3, zR 33 0, zR 16 0, zI v23]) M23)
                                                      refine WP.k hc 2 (?_ : vp_in (x3 + (nI 1)) (M23 33 1 0).toNatClampNeg ∧ WP call 2 T_L_law Q (939, [zR 33 0, zR 0 0, zR 16 0, zI x3], [zI (M23 33 0 ((x3 + (nI 1)).toNatClampNeg)), zR 16 0, zI v23]) M23)
                                                      refine ⟨h.1, ?_⟩
                                                      have h := h.2
                                                      refine WP.k hc 4 (?_ : WP call 2 T_L_law Q (943, [zR 33 0, zR 0 0, zR 16 0, zI x3], [zI (x3 + (nI 2)), zR 33 0, zI (M23 33 0 ((x3 + (nI 1)).toNatClampNeg)), zR 16 0, zI v23]) M23)
                                                      refine WP.k hc 1 (?_ : vp_in (x3 + (nI 2)) (M23 33 1 0).toNatClampNeg ∧ WP call 2 T_L_law Q (944, [zR 33 0, zR 0 0, zR 16 0, zI x3], [zI (M23 33 0 ((x3 + (nI 2)).toNatClampNeg)), zI (M23 33 0 ((x3 + (nI 1)).toNatClampNeg)), zR 16 0, zI v23]) M23)
                                                      refine ⟨h.1, ?_⟩
                                                      have h := h.2
                                                      refine WP.k hc 4 (?_ : WP call 2 T_L_law Q (948, [zR 33 0, zR 0 0, zR 16 0, zI x3], [zI (x3 + (nI 3)), zR 33 0, zI (M23 33 0 ((x3 + (nI 2)).toNatClampNeg)), zI (M23 33 0 ((x3 + (nI 1)).toNatClampNeg)), zR 16 0, zI v23]) M23)
                                                      refine WP.k hc 1 (?_ : vp_in (x3 + (nI 3)) (M23 33 1 0).toNatClampNeg ∧ WP call 2 T_L_law Q (949, [zR 33 0, zR 0 0, zR 16 0, zI x3], [zI (M23 33 0 ((x3 + (nI 3)).toNatClampNeg)), zI (M23 33 0 ((x3 + (nI 2)).toNatClampNeg)), zI (M23 33 0 ((x3 + (nI 1)).toNatClampNeg)), zR 16 0, zI v23]) M23)
                                                      refine ⟨h.1, ?_⟩
                                                      have h := h.2
                                                      refine WP.k hc 4 (?_ : WP call 2 T_L_law Q (953, [zR 33 0, zR 0 0, zR 16 0, zI x3], [zI (x3 + (nI 4)), zR 33 0, zI (M23 33 0 ((x3 + (nI 3)).toNatClampNeg)), zI (M23 33 0 ((x3 + (nI 2)).toNatClampNeg)), zI (M23 33 0 ((x3 + (nI 1)).toNatClampNeg)), zR 16 0, zI v23]) M23)
                                                      refine WP.k hc 1 (?_ : vp_in (x3 + (nI 4)) (M23 33 1 0).toNatClampNeg ∧ WP call 2 T_L_law Q (954, [zR 33 0, zR 0 0, zR 16 0, zI x3], [zI (M23 33 0 ((x3 + (nI 4)).toNatClampNeg)), zI (M23 33 0 ((x3 + (nI 3)).toNatClampNeg)), zI (M23 33 0 ((x3 + (nI 2)).toNatClampNeg)), zI (M23 33 0 ((x3 + (nI 1)).toNatClampNeg)), zR 16 0, zI v23]) M23)
                                                      refine ⟨h.1, ?_⟩
                                                      have h := h.2
                                                      refine WP.k hc 4 (?_ : WP call 2 T_L_law Q (958, [zR 33 0, zR 0 0, zR 16 0, zI x3], [zI (x3 + (nI 5)), zR 33 0, zI (M23 33 0 ((x3 + (nI 4)).toNatClampNeg)), zI (M23 33 0 ((x3 + (nI 3)).toNatClampNeg)), zI (M23 33 0 ((x3 + (nI 2)).toNatClampNeg)), zI (M23 33 0 ((x3 + (nI 1)).toNatClampNeg)), zR 16 0, zI v23]) M23)
                                                      refine WP.k hc 1 (?_ : vp_in (x3 + (nI 5)) (M23 33 1 0).toNatClampNeg ∧ WP call 2 T_L_law Q (959, [zR 33 0, zR 0 0, zR 16 0, zI x3], [zI (M23 33 0 ((x3 + (nI 5)).toNatClampNeg)), zI (M23 33 0 ((x3 + (nI 4)).toNatClampNeg)), zI (M23 33 0 ((x3 + (nI 3)).toNatClampNeg)), zI (M23 33 0 ((x3 + (nI 2)).toNatClampNeg)), zI (M23 33 0 ((x3 + (nI 1)).toNatClampNeg)), zR 16 0, zI v23]) M23)
                                                      refine ⟨h.1, ?_⟩
                                                      have h := h.2
                                                      refine WP.k hc 1 (?_ : call 173 [zR 16 0, zI (M23 33 0 ((x3 + (nI 1)).toNatClampNeg)), zI (M23 33 0 ((x3 + (nI 2)).toNatClampNeg)), zI (M23 33 0 ((x3 + (nI 3)).toNatClampNeg)), zI (M23 33 0 ((x3 + (nI 4)).toNatClampNeg)), zI (M23 33 0 ((x3 + (nI 5)).toNatClampNeg))] M23 (fun r24 M24 => gO r24 fun v24 => WP call 2 T_L_law Q (962, [zR 33 0, zR 0 0, zR 16 0, zI x3], [zI v24, zI v23]) M24))
                                                      refine hc _ _ _ _ _ (fun r24 M24 q => gO_m (fun v24 h => ?_) q) h
                                                      refine WP.k hc 1 (?_ : ((v23 : Int32) = v24 → WP call 2 T_L_law Q (1300, [zR 33 0, zR 0 0, zR 16 0, zI x3], []) M24) ∧ (¬ (v23 : Int32) = v24 → WP call 2 T_L_law Q (965, [zR 33 0, zR 0 0, zR 16 0, zI x3], []) M24))
                                                      refine ⟨fun z => ?_, fun z => ?_⟩
                                                      · have h := h.1 z
                                                        exact WP.k hc 2 h
                                                      · have h := h.2 z
                                                        exact WP.k hc 2 h
                                                    · have h := h.2 z
                                                      refine ⟨fun z => ?_, fun z => ?_⟩
                                                      · have h := h.1 z
                                                        refine WP.k hc 4 (?_ : WP call 2 T_L_law Q (971, [zR 33 0, zR 0 0, zR 16 0, zI x3], [zI (nI 1), zI x3, zR 33 0, zR 0 0]) M)
                                                        refine WP.k hc 2 (?_ : vp_in (x3 + (nI 1)) (M 33 1 0).toNatClampNeg ∧ WP call 2 T_L_law Q (973, [zR 33 0, zR 0 0, zR 16 0, zI x3], [zI (M 33 0 ((x3 + (nI 1)).toNatClampNeg)), zR 0 0]) M)
                                                        refine ⟨h.1, ?_⟩
                                                        have h := h.2
                                                        refine WP.k hc 4 (?_ : WP call 2 T_L_law Q (977, [zR 33 0, zR 0 0, zR 16 0, zI x3], [zI (x3 + (nI 2)), zR 33 0, zI (M 33 0 ((x3 + (nI 1)).toNatClampNeg)), zR 0 0]) M)
                                                        refine WP.k hc 1 (?_ : vp_in (x3 + (nI 2)) (M 33 1 0).toNatClampNeg ∧ WP call 2 T_L_law Q (978, [zR 33 0, zR 0 0, zR 16 0, zI x3], [zI (M 33 0 ((x3 + (nI 2)).toNatClampNeg)), zI (M 33 0 ((x3 + (nI 1)).toNatClampNeg)), zR 0 0]) M)
                                                        refine ⟨h.1, ?_⟩
                                                        have h := h.2
                                                        refine WP.k hc 4 (?_ : WP call 2 T_L_law Q (982, [zR 33 0, zR 0 0, zR 16 0, zI x3], [zI (x3 + (nI 3)), zR 33 0, zI (M 33 0 ((x3 + (nI 2)).toNatClampNeg)), zI (M 33 0 ((x3 + (nI 1)).toNatClampNeg)), zR 0 0]) M)
                                                        refine WP.k hc 1 (?_ : vp_in (x3 + (nI 3)) (M 33 1 0).toNatClampNeg ∧ WP call 2 T_L_law Q (983, [zR 33 0, zR 0 0, zR 16 0, zI x3], [zI (M 33 0 ((x3 + (nI 3)).toNatClampNeg)), zI (M 33 0 ((x3 + (nI 2)).toNatClampNeg)), zI (M 33 0 ((x3 + (nI 1)).toNatClampNeg)), zR 0 0]) M)
                                                        refine ⟨h.1, ?_⟩
                                                        have h := h.2
                                                        refine WP.k hc 1 (?_ : call 79 [zR 0 0, zI (M 33 0 ((x3 + (nI 1)).toNatClampNeg)), zI (M 33 0 ((x3 + (nI 2)).toNatClampNeg)), zI (M 33 0 ((x3 + (nI 3)).toNatClampNeg))] M (fun r21 M21 => gO r21 fun v21 => WP call 2 T_L_law Q (986, [zR 33 0, zR 0 0, zR 16 0, zI x3], [zI v21]) M21))
                                                        refine hc _ _ _ _ _ (fun r21 M21 q => gO_m (fun v21 h => ?_) q) h
                                                        refine WP.k hc 4 (?_ : WP call 2 T_L_law Q (990, [zR 33 0, zR 0 0, zR 16 0, zI x3], [zI (nI 1), zI x3, zR 33 0, zR 16 0, zI v21]) M21)
                                                        refine WP.k hc 2 (?_ : vp_in (x3 + (nI 1)) (M21 33 1 0).toNatClampNeg ∧ WP call 2 T_L_law Q (992, [zR 33 0, zR 0 0, zR 16 0, zI x3], [zI (M21 33 0 ((x3 + (nI 1)).toNatClampNeg)), zR 16 0, zI v21]) M21)
                                                        refine ⟨h.1, ?_⟩
                                                        have h := h.2
                                                        refine WP.k hc 4 (?_ : WP call 2 T_L_law Q (996, [zR 33 0, zR 0 0, zR 16 0, zI x3], [zI (x3 + (nI 2)), zR 33 0, zI (M21 33 0 ((x3 + (nI 1)).toNatClampNeg)), zR 16 0, zI v21]) M21)
                                                        refine WP.k hc 1 (?_ : vp_in (x3 + (nI 2)) (M21 33 1 0).toNatClampNeg ∧ WP call 2 T_L_law Q (997, [zR 33 0, zR 0 0, zR 16 0, zI x3], [zI (M21 33 0 ((x3 + (nI 2)).toNatClampNeg)), zI (M21 33 0 ((x3 + (nI 1)).toNatClampNeg)), zR 16 0, zI v21]) M21)
                                                        refine ⟨h.1, ?_⟩
                                                        have h := h.2
                                                        refine WP.k hc 4 (?_ : WP call 2 T_L_law Q (1001, [zR 33 0, zR 0 0, zR 16 0, zI x3], [zI (x3 + (nI 3)), zR 33 0, zI (M21 33 0 ((x3 + (nI 2)).toNatClampNeg)), zI (M21 33 0 ((x3 + (nI 1)).toNatClampNeg)), zR 16 0, zI v21]) M21)
                                                        refine WP.k hc 1 (?_ : vp_in (x3 + (nI 3)) (M21 33 1 0).toNatClampNeg ∧ WP call 2 T_L_law Q (1002, [zR 33 0, zR 0 0, zR 16 0, zI x3], [zI (M21 33 0 ((x3 + (nI 3)).toNatClampNeg)), zI (M21 33 0 ((x3 + (nI 2)).toNatClampNeg)), zI (M21 33 0 ((x3 + (nI 1)).toNatClampNeg)), zR 16 0, zI v21]) M21)
                                                        refine ⟨h.1, ?_⟩
                                                        have h := h.2
                                                        refine WP.k hc 1 (?_ : call 174 [zR 16 0, zI (M21 33 0 ((x3 + (nI 1)).toNatClampNeg)), zI (M21 33 0 ((x3 + (nI 2)).toNatClampNeg)), zI (M21 33 0 ((x3 + (nI 3)).toNatClampNeg))] M21 (fun r22 M22 => gO r22 fun v22 => WP call 2 T_L_law Q (1005, [zR 33 0, zR 0 0, zR 16 0, zI x3], [zI v22, zI v21]) M22))
                                                        refine hc _ _ _ _ _ (fun r22 M22 q => gO_m (fun v22 h => ?_) q) h
                                                        refine WP.k hc 1 (?_ : ((v21 : Int32) = v22 → WP call 2 T_L_law Q (1300, [zR 33 0, zR 0 0, zR 16 0, zI x3], []) M22) ∧ (¬ (v21 : Int32) = v22 → WP call 2 T_L_law Q (1008, [zR 33 0, zR 0 0, zR 16 0, zI x3], []) M22))
                                                        refine ⟨fun z => ?_, fun z => ?_⟩
                                                        · have h := h.1 z
                                                          exact WP.k hc 2 h
                                                        · have h := h.2 z
                                                          exact WP.k hc 2 h
                                                      · have h := h.2 z
                                                        refine ⟨fun z => ?_, fun z => ?_⟩
                                                        · have h := h.1 z
                                                          refine WP.k hc 4 (?_ : WP call 2 T_L_law Q (1014, [zR 33 0, zR 0 0, zR 16 0, zI x3], [zI (nI 1), zI x3, zR 33 0, zR 0 0]) M)
                                                          refine WP.k hc 2 (?_ : vp_in (x3 + (nI 1)) (M 33 1 0).toNatClampNeg ∧ WP call 2 T_L_law Q (1016, [zR 33 0, zR 0 0, zR 16 0, zI x3], [zI (M 33 0 ((x3 + (nI 1)).toNatClampNeg)), zR 0 0]) M)
                                                          refine ⟨h.1, ?_⟩
                                                          have h := h.2
                                                          refine WP.k hc 4 (?_ : WP call 2 T_L_law Q (1020, [zR 33 0, zR 0 0, zR 16 0, zI x3], [zI (x3 + (nI 2)), zR 33 0, zI (M 33 0 ((x3 + (nI 1)).toNatClampNeg)), zR 0 0]) M)
                                                          refine WP.k hc 1 (?_ : vp_in (x3 + (nI 2)) (M 33 1 0).toNatClampNeg ∧ WP call 2 T_L_law Q (1021, [zR 33 0, zR 0 0, zR 16 0, zI x3], [zI (M 33 0 ((x3 + (nI 2)).toNatClampNeg)), zI (M 33 0 ((x3 + (nI 1)).toNatClampNeg)), zR 0 0]) M)
                                                          refine ⟨h.1, ?_⟩
                                                          have h := h.2
                                                          refine WP.k hc 4 (?_ : WP call 2 T_L_law Q (1025, [zR 33 0, zR 0 0, zR 16 0, zI x3], [zI (x3 + (nI 3)), zR 33 0, zI (M 33 0 ((x3 + (nI 2)).toNatClampNeg)), zI (M 33 0 ((x3 + (nI 1)).toNatClampNeg)), zR 0 0]) M)
                                                          refine WP.k hc 1 (?_ : vp_in (x3 + (nI 3)) (M 33 1 0).toNatClampNeg ∧ WP call 2 T_L_law Q (1026, [zR 33 0, zR 0 0, zR 16 0, zI x3], [zI (M 33 0 ((x3 + (nI 3)).toNatClampNeg)), zI (M 33 0 ((x3 + (nI 2)).toNatClampNeg)), zI (M 33 0 ((x3 + (nI 1)).toNatClampNeg)), zR 0 0]) M)
                                                          refine ⟨h.1, ?_⟩
                                                          have h := h.2
                                                          refine WP.k hc 4 (?_ : WP call 2 T_L_law Q (1030, [zR 33 0, zR 0 0, zR 16 0, zI x3], [zI (x3 + (nI 4)), zR 33 0, zI (M 33 0 ((x3 + (nI 3)).toNatClampNeg)), zI (M 33 0 ((x3 + (nI 2)).toNatClampNeg)), zI (M 33 0 ((x3 + (nI 1)).toNatClampNeg)), zR 0 0]) M)
                                                          refine WP.k hc 1 (?_ : vp_in (x3 + (nI 4)) (M 33 1 0).toNatClampNeg ∧ WP call 2 T_L_law Q (1031, [zR 33 0, zR 0 0, zR 16 0, zI x3], [zI (M 33 0 ((x3 + (nI 4)).toNatClampNeg)), zI (M 33 0 ((x3 + (nI 3)).toNatClampNeg)), zI (M 33 0 ((x3 + (nI 2)).toNatClampNeg)), zI (M 33 0 ((x3 + (nI 1)).toNatClampNeg)), zR 0 0]) M)
                                                          refine ⟨h.1, ?_⟩
                                                          have h := h.2
                                                          refine WP.k hc 1 (?_ : call 80 [zR 0 0, zI (M 33 0 ((x3 + (nI 1)).toNatClampNeg)), zI (M 33 0 ((x3 + (nI 2)).toNatClampNeg)), zI (M 33 0 ((x3 + (nI 3)).toNatClampNeg)), zI (M 33 0 ((x3 + (nI 4)).toNatClampNeg))] M (fun r19 M19 => gO r19 fun v19 => WP call 2 T_L_law Q (1034, [zR 33 0, zR 0 0, zR 16 0, zI x3], [zI v19]) M19))
                                                          refine hc _ _ _ _ _ (fun r19 M19 q => gO_m (fun v19 h => ?_) q) h
                                                          refine WP.k hc 4 (?_ : WP call 2 T_L_law Q (1038, [zR 33 0, zR 0 0, zR 16 0, zI x3], [zI (nI 1), zI x3, zR 33 0, zR 16 0, zI v19]) M19)
                                                          refine WP.k hc 2 (?_ : vp_in (x3 + (nI 1)) (M19 33 1 0).toNatClampNeg ∧ WP call 2 T_L_law Q (1040, [zR 33 0, zR 0 0, zR 16 0, zI x3], [zI (M19 33 0 ((x3 + (nI 1)).toNatClampNeg)), zR 16 0, zI v19]) M19)
                                                          refine ⟨h.1, ?_⟩
                                                          have h := h.2
                                                          refine WP.k hc 4 (?_ : WP call 2 T_L_law Q (1044, [zR 33 0, zR 0 0, zR 16 0, zI x3], [zI (x3 + (nI 2)), zR 33 0, zI (M19 33 0 ((x3 + (nI 1)).toNatClampNeg)), zR 16 0, zI v19]) M19)
                                                          refine WP.k hc 1 (?_ : vp_in (x3 + (nI 2)) (M19 33 1 0).toNatClampNeg ∧ WP call 2 T_L_law Q (1045, [zR 33 0, zR 0 0, zR 16 0, zI x3], [zI (M19 33 0 ((x3 + (nI 2)).toNatClampNeg)), zI (M19 33 0 ((x3 + (nI 1)).toNatClampNeg)), zR 16 0, zI v19]) M19)
                                                          refine ⟨h.1, ?_⟩
                                                          have h := h.2
                                                          refine WP.k hc 4 (?_ : WP call 2 T_L_law Q (1049, [zR 33 0, zR 0 0, zR 16 0, zI x3], [zI (x3 + (nI 3)), zR 33 0, zI (M19 33 0 ((x3 + (nI 2)).toNatClampNeg)), zI (M19 33 0 ((x3 + (nI 1)).toNatClampNeg)), zR 16 0, zI v19]) M19)
                                                          refine WP.k hc 1 (?_ : vp_in (x3 + (nI 3)) (M19 33 1 0).toNatClampNeg ∧ WP call 2 T_L_law Q (1050, [zR 33 0, zR 0 0, zR 16 0, zI x3], [zI (M19 33 0 ((x3 + (nI 3)).toNatClampNeg)), zI (M19 33 0 ((x3 + (nI 2)).toNatClampNeg)), zI (M19 33 0 ((x3 + (nI 1)).toNatClampNeg)), zR 16 0, zI v19]) M19)
                                                          refine ⟨h.1, ?_⟩
                                                          have h := h.2
                                                          refine WP.k hc 4 (?_ : WP call 2 T_L_law Q (1054, [zR 33 0, zR 0 0, zR 16 0, zI x3], [zI (x3 + (nI 4)), zR 33 0, zI (M19 33 0 ((x3 + (nI 3)).toNatClampNeg)), zI (M19 33 0 ((x3 + (nI 2)).toNatClampNeg)), zI (M19 33 0 ((x3 + (nI 1)).toNatClampNeg)), zR 16 0, zI v19]) M19)
                                                          refine WP.k hc 1 (?_ : vp_in (x3 + (nI 4)) (M19 33 1 0).toNatClampNeg ∧ WP call 2 T_L_law Q (1055, [zR 33 0, zR 0 0, zR 16 0, zI x3], [zI (M19 33 0 ((x3 + (nI 4)).toNatClampNeg)), zI (M19 33 0 ((x3 + (nI 3)).toNatClampNeg)), zI (M19 33 0 ((x3 + (nI 2)).toNatClampNeg)), zI (M19 33 0 ((x3 + (nI 1)).toNatClampNeg)), zR 16 0, zI v19]) M19)
                                                          refine ⟨h.1, ?_⟩
                                                          have h := h.2
                                                          refine WP.k hc 1 (?_ : call 175 [zR 16 0, zI (M19 33 0 ((x3 + (nI 1)).toNatClampNeg)), zI (M19 33 0 ((x3 + (nI 2)).toNatClampNeg)), zI (M19 33 0 ((x3 + (nI 3)).toNatClampNeg)), zI (M19 33 0 ((x3 + (nI 4)).toNatClampNeg))] M19 (fun r20 M20 => gO r20 fun v20 => WP call 2 T_L_law Q (1058, [zR 33 0, zR 0 0, zR 16 0, zI x3], [zI v20, zI v19]) M20))
                                                          refine hc _ _ _ _ _ (fun r20 M20 q => gO_m (fun v20 h => ?_) q) h
                                                          refine WP.k hc 1 (?_ : ((v19 : Int32) = v20 → WP call 2 T_L_law Q (1300, [zR 33 0, zR 0 0, zR 16 0, zI x3], []) M20) ∧ (¬ (v19 : Int32) = v20 → WP call 2 T_L_law Q (1061, [zR 33 0, zR 0 0, zR 16 0, zI x3], []) M20))
                                                          refine ⟨fun z => ?_, fun z => ?_⟩
                                                          · have h := h.1 z
                                                            exact WP.k hc 2 h
                                                          · have h := h.2 z
                                                            exact WP.k hc 2 h
                                                        · have h := h.2 z
                                                          refine ⟨fun z => ?_, fun z => ?_⟩
                                                          · have h := h.1 z
                                                            refine WP.k hc 4 (?_ : WP call 2 T_L_law Q (1067, [zR 33 0, zR 0 0, zR 16 0, zI x3], [zI (nI 1), zI x3, zR 33 0, zR 0 0]) M)
                                                            refine WP.k hc 2 (?_ : vp_in (x3 + (nI 1)) (M 33 1 0).toNatClampNeg ∧ WP call 2 T_L_law Q (1069, [zR 33 0, zR 0 0, zR 16 0, zI x3], [zI (M 33 0 ((x3 + (nI 1)).toNatClampNeg)), zR 0 0]) M)
                                                            refine ⟨h.1, ?_⟩
                                                            have h := h.2
                                                            refine WP.k hc 4 (?_ : WP call 2 T_L_law Q (1073, [zR 33 0, zR 0 0, zR 16 0, zI x3], [zI (x3 + (nI 2)), zR 33 0, zI (M 33 0 ((x3 + (nI 1)).toNatClampNeg)), zR 0 0]) M)
                                                            refine WP.k hc 1 (?_ : vp_in (x3 + (nI 2)) (M 33 1 0).toNatClampNeg ∧ WP call 2 T_L_law Q (1074, [zR 33 0, zR 0 0, zR 16 0, zI x3], [zI (M 33 0 ((x3 + (nI 2)).toNatClampNeg)), zI (M 33 0 ((x3 + (nI 1)).toNatClampNeg)), zR 0 0]) M)
                                                            refine ⟨h.1, ?_⟩
                                                            have h := h.2
                                                            refine WP.k hc 4 (?_ : WP call 2 T_L_law Q (1078, [zR 33 0, zR 0 0, zR 16 0, zI x3], [zI (x3 + (nI 3)), zR 33 0, zI (M 33 0 ((x3 + (nI 2)).toNatClampNeg)), zI (M 33 0 ((x3 + (nI 1)).toNatClampNeg)), zR 0 0]) M)
                                                            refine WP.k hc 1 (?_ : vp_in (x3 + (nI 3)) (M 33 1 0).toNatClampNeg ∧ WP call 2 T_L_law Q (1079, [zR 33 0, zR 0 0, zR 16 0, zI x3], [zI (M 33 0 ((x3 + (nI 3)).toNatClampNeg)), zI (M 33 0 ((x3 + (nI 2)).toNatClampNeg)), zI (M 33 0 ((x3 + (nI 1)).toNatClampNeg)), zR 0 0]) M)
                                                            refine ⟨h.1, ?_⟩
                                                            have h := h.2
                                                            refine WP.k hc 1 (?_ : call 81 [zR 0 0, zI (M 33 0 ((x3 + (nI 1)).toNatClampNeg)), zI (M 33 0 ((x3 + (nI 2)).toNatClampNeg)), zI (M 33 0 ((x3 + (nI 3)).toNatClampNeg))] M (fun r17 M17 => gO r17 fun v17 => WP call 2 T_L_law Q (1082, [zR 33 0, zR 0 0, zR 16 0, zI x3], [zI v17]) M17))
                                                            refine hc _ _ _ _ _ (fun r17 M17 q => gO_m (fun v17 h => ?_) q) h
                                                            refine WP.k hc 4 (?_ : WP call 2 T_L_law Q (1086, [zR 33 0, zR 0 0, zR 16 0, zI x3], [zI (nI 1), zI x3, zR 33 0, zR 16 0, zI v17]) M17)
                                                            refine WP.k hc 2 (?_ : vp_in (x3 + (nI 1)) (M17 33 1 0).toNatClampNeg ∧ WP call 2 T_L_law Q (1088, [zR 33 0, zR 0 0, zR 16 0, zI x3], [zI (M17 33 0 ((x3 + (nI 1)).toNatClampNeg)), zR 16 0, zI v17]) M17)
                                                            refine ⟨h.1, ?_⟩
                                                            have h := h.2
                                                            refine WP.k hc 4 (?_ : WP call 2 T_L_law Q (1092, [zR 33 0, zR 0 0, zR 16 0, zI x3], [zI (x3 + (nI 2)), zR 33 0, zI (M17 33 0 ((x3 + (nI 1)).toNatClampNeg)), zR 16 0, zI v17]) M17)
                                                            refine WP.k hc 1 (?_ : vp_in (x3 + (nI 2)) (M17 33 1 0).toNatClampNeg ∧ WP call 2 T_L_law Q (1093, [zR 33 0, zR 0 0, zR 16 0, zI x3], [zI (M17 33 0 ((x3 + (nI 2)).toNatClampNeg)), zI (M17 33 0 ((x3 + (nI 1)).toNatClampNeg)), zR 16 0, zI v17]) M17)
                                                            refine ⟨h.1, ?_⟩
                                                            have h := h.2
                                                            refine WP.k hc 4 (?_ : WP call 2 T_L_law Q (1097, [zR 33 0, zR 0 0, zR 16 0, zI x3], [zI (x3 + (nI 3)), zR 33 0, zI (M17 33 0 ((x3 + (nI 2)).toNatClampNeg)), zI (M17 33 0 ((x3 + (nI 1)).toNatClampNeg)), zR 16 0, zI v17]) M17)
                                                            refine WP.k hc 1 (?_ : vp_in (x3 + (nI 3)) (M17 33 1 0).toNatClampNeg ∧ WP call 2 T_L_law Q (1098, [zR 33 0, zR 0 0, zR 16 0, zI x3], [zI (M17 33 0 ((x3 + (nI 3)).toNatClampNeg)), zI (M17 33 0 ((x3 + (nI 2)).toNatClampNeg)), zI (M17 33 0 ((x3 + (nI 1)).toNatClampNeg)), zR 16 0, zI v17]) M17)
                                                            refine ⟨h.1, ?_⟩
                                                            have h := h.2
                                                            refine WP.k hc 1 (?_ : call 176 [zR 16 0, zI (M17 33 0 ((x3 + (nI 1)).toNatClampNeg)), zI (M17 33 0 ((x3 + (nI 2)).toNatClampNeg)), zI (M17 33 0 ((x3 + (nI 3)).toNatClampNeg))] M17 (fun r18 M18 => gO r18 fun v18 => WP call 2 T_L_law Q (1101, [zR 33 0, zR 0 0, zR 16 0, zI x3], [zI v18, zI v17]) M18))
                                                            refine hc _ _ _ _ _ (fun r18 M18 q => gO_m (fun v18 h => ?_) q) h
                                                            refine WP.k hc 1 (?_ : ((v17 : Int32) = v18 → WP call 2 T_L_law Q (1300, [zR 33 0, zR 0 0, zR 16 0, zI x3], []) M18) ∧ (¬ (v17 : Int32) = v18 → WP call 2 T_L_law Q (1104, [zR 33 0, zR 0 0, zR 16 0, zI x3], []) M18))
                                                            refine ⟨fun z => ?_, fun z => ?_⟩
                                                            · have h := h.1 z
                                                              exact WP.k hc 2 h
                                                            · have h := h.2 z
                                                              exact WP.k hc 2 h
                                                          · have h := h.2 z
                                                            refine ⟨fun z => ?_, fun z => ?_⟩
                                                            · have h := h.1 z
                                                              refine WP.k hc 4 (?_ : WP call 2 T_L_law Q (1110, [zR 33 0, zR 0 0, zR 16 0, zI x3], [zI (nI 1), zI x3, zR 33 0, zR 0 0]) M)
                                                              refine WP.k hc 2 (?_ : vp_in (x3 + (nI 1)) (M 33 1 0).toNatClampNeg ∧ WP call 2 T_L_law Q (1112, [zR 33 0, zR 0 0, zR 16 0, zI x3], [zI (M 33 0 ((x3 + (nI 1)).toNatClampNeg)), zR 0 0]) M)
                                                              refine ⟨h.1, ?_⟩
                                                              have h := h.2
                                                              refine WP.k hc 1 (?_ : call 82 [zR 0 0, zI (M 33 0 ((x3 + (nI 1)).toNatClampNeg))] M (fun r15 M15 => gO r15 fun v15 => WP call 2 T_L_law Q (1115, [zR 33 0, zR 0 0, zR 16 0, zI x3], [zI v15]) M15))
                                                              refine hc _ _ _ _ _ (fun r15 M15 q => gO_m (fun v15 h => ?_) q) h
                                                              refine WP.k hc 4 (?_ : WP call 2 T_L_law Q (1119, [zR 33 0, zR 0 0, zR 16 0, zI x3], [zI (nI 1), zI x3, zR 33 0, zR 16 0, zI v15]) M15)
                                                              refine WP.k hc 2 (?_ : vp_in (x3 + (nI 1)) (M15 33 1 0).toNatClampNeg ∧ WP call 2 T_L_law Q (1121, [zR 33 0, zR 0 0, zR 16 0, zI x3], [zI (M15 33 0 ((x3 + (nI 1)).toNatClampNeg)), zR 16 0, zI v15]) M15)
                                                              refine ⟨h.1, ?_⟩
                                                              have h := h.2
                                                              refine WP.k hc 1 (?_ : call 177 [zR 16 0, zI (M15 33 0 ((x3 + (nI 1)).toNatClampNeg))] M15 (fun r16 M16 => gO r16 fun v16 => WP call 2 T_L_law Q (1124, [zR 33 0, zR 0 0, zR 16 0, zI x3], [zI v16, zI v15]) M16))
                                                              refine hc _ _ _ _ _ (fun r16 M16 q => gO_m (fun v16 h => ?_) q) h
                                                              refine WP.k hc 1 (?_ : ((v15 : Int32) = v16 → WP call 2 T_L_law Q (1300, [zR 33 0, zR 0 0, zR 16 0, zI x3], []) M16) ∧ (¬ (v15 : Int32) = v16 → WP call 2 T_L_law Q (1127, [zR 33 0, zR 0 0, zR 16 0, zI x3], []) M16))
                                                              refine ⟨fun z => ?_, fun z => ?_⟩
                                                              · have h := h.1 z
                                                                exact WP.k hc 2 h
                                                              · have h := h.2 z
                                                                exact WP.k hc 2 h
                                                            · have h := h.2 z
                                                              refine ⟨fun z => ?_, fun z => ?_⟩
                                                              · have h := h.1 z
                                                                refine WP.k hc 4 (?_ : WP call 2 T_L_law Q (1133, [zR 33 0, zR 0 0, zR 16 0, zI x3], [zI (nI 1), zI x3, zR 33 0, zR 0 0]) M)
                                                                refine WP.k hc 2 (?_ : vp_in (x3 + (nI 1)) (M 33 1 0).toNatClampNeg ∧ WP call 2 T_L_law Q (1135, [zR 33 0, zR 0 0, zR 16 0, zI x3], [zI (M 33 0 ((x3 + (nI 1)).toNatClampNeg)), zR 0 0]) M)
                                                                refine ⟨h.1, ?_⟩
                                                                have h := h.2
                                                                refine WP.k hc 1 (?_ : call 83 [zR 0 0, zI (M 33 0 ((x3 + (nI 1)).toNatClampNeg))] M (fun r13 M13 => gO r13 fun v13 => WP call 2 T_L_law Q (1138, [zR 33 0, zR 0 0, zR 16 0, zI x3], [zI v13]) M13))
                                                                refine hc _ _ _ _ _ (fun r13 M13 q => gO_m (fun v13 h => ?_) q) h
                                                                refine WP.k hc 4 (?_ : WP call 2 T_L_law Q (1142, [zR 33 0, zR 0 0, zR 16 0, zI x3], [zI (nI 1), zI x3, zR 33 0, zR 16 0, zI v13]) M13)
                                                                refine WP.k hc 2 (?_ : vp_in (x3 + (nI 1)) (M13 33 1 0).toNatClampNeg ∧ WP call 2 T_L_law Q (1144, [zR 33 0, zR 0 0, zR 16 0, zI x3], [zI (M13 33 0 ((x3 + (nI 1)).toNatClampNeg)), zR 16 0, zI v13]) M13)
                                                                refine ⟨h.1, ?_⟩
                                                                have h := h.2
                                                                refine WP.k hc 1 (?_ : call 178 [zR 16 0, zI (M13 33 0 ((x3 + (nI 1)).toNatClampNeg))] M13 (fun r14 M14 => gO r14 fun v14 => WP call 2 T_L_law Q (1147, [zR 33 0, zR 0 0, zR 16 0, zI x3], [zI v14, zI v13]) M14))
                                                                refine hc _ _ _ _ _ (fun r14 M14 q => gO_m (fun v14 h => ?_) q) h
                                                                refine WP.k hc 1 (?_ : ((v13 : Int32) = v14 → WP call 2 T_L_law Q (1300, [zR 33 0, zR 0 0, zR 16 0, zI x3], []) M14) ∧ (¬ (v13 : Int32) = v14 → WP call 2 T_L_law Q (1150, [zR 33 0, zR 0 0, zR 16 0, zI x3], []) M14))
                                                                refine ⟨fun z => ?_, fun z => ?_⟩
                                                                · have h := h.1 z
                                                                  exact WP.k hc 2 h
                                                                · have h := h.2 z
                                                                  exact WP.k hc 2 h
                                                              · have h := h.2 z
                                                                refine ⟨fun z => ?_, fun z => ?_⟩
                                                                · have h := h.1 z
                                                                  refine WP.k hc 4 (?_ : WP call 2 T_L_law Q (1156, [zR 33 0, zR 0 0, zR 16 0, zI x3], [zI (nI 1), zI x3, zR 33 0, zR 0 0]) M)
                                                                  refine WP.k hc 2 (?_ : vp_in (x3 + (nI 1)) (M 33 1 0).toNatClampNeg ∧ WP call 2 T_L_law Q (1158, [zR 33 0, zR 0 0, zR 16 0, zI x3], [zI (M 33 0 ((x3 + (nI 1)).toNatClampNeg)), zR 0 0]) M)
                                                                  refine ⟨h.1, ?_⟩
                                                                  have h := h.2
                                                                  refine WP.k hc 1 (?_ : call 84 [zR 0 0, zI (M 33 0 ((x3 + (nI 1)).toNatClampNeg))] M (fun r11 M11 => gO r11 fun v11 => WP call 2 T_L_law Q (1161, [zR 33 0, zR 0 0, zR 16 0, zI x3], [zI v11]) M11))
                                                                  refine hc _ _ _ _ _ (fun r11 M11 q => gO_m (fun v11 h => ?_) q) h
                                                                  refine WP.k hc 4 (?_ : WP call 2 T_L_law Q (1165, [zR 33 0, zR 0 0, zR 16 0, zI x3], [zI (nI 1), zI x3, zR 33 0, zR 16 0, zI v11]) M11)
                                                                  refine WP.k hc 2 (?_ : vp_in (x3 + (nI 1)) (M11 33 1 0).toNatClampNeg ∧ WP call 2 T_L_law Q (1167, [zR 33 0, zR 0 0, zR 16 0, zI x3], [zI (M11 33 0 ((x3 + (nI 1)).toNatClampNeg)), zR 16 0, zI v11]) M11)
                                                                  refine ⟨h.1, ?_⟩
                                                                  have h := h.2
                                                                  refine WP.k hc 1 (?_ : call 180 [zR 16 0, zI (M11 33 0 ((x3 + (nI 1)).toNatClampNeg))] M11 (fun r12 M12 => gO r12 fun v12 => WP call 2 T_L_law Q (1170, [zR 33 0, zR 0 0, zR 16 0, zI x3], [zI v12, zI v11]) M12))
                                                                  refine hc _ _ _ _ _ (fun r12 M12 q => gO_m (fun v12 h => ?_) q) h
                                                                  refine WP.k hc 1 (?_ : ((v11 : Int32) = v12 → WP call 2 T_L_law Q (1300, [zR 33 0, zR 0 0, zR 16 0, zI x3], []) M12) ∧ (¬ (v11 : Int32) = v12 → WP call 2 T_L_law Q (1173, [zR 33 0, zR 0 0, zR 16 0, zI x3], []) M12))
                                                                  refine ⟨fun z => ?_, fun z => ?_⟩
                                                                  · have h := h.1 z
                                                                    exact WP.k hc 2 h
                                                                  · have h := h.2 z
                                                                    exact WP.k hc 2 h
                                                                · have h := h.2 z
                                                                  refine ⟨fun z => ?_, fun z => ?_⟩
                                                                  · have h := h.1 z
                                                                    refine WP.k hc 4 (?_ : WP call 2 T_L_law Q (1179, [zR 33 0, zR 0 0, zR 16 0, zI x3], [zI (nI 1), zI x3, zR 33 0, zR 0 0]) M)
                                                                    refine WP.k hc 2 (?_ : vp_in (x3 + (nI 1)) (M 33 1 0).toNatClampNeg ∧ WP call 2 T_L_law Q (1181, [zR 33 0, zR 0 0, zR 16 0, zI x3], [zI (M 33 0 ((x3 + (nI 1)).toNatClampNeg)), zR 0 0]) M)
                                                                    refine ⟨h.1, ?_⟩
                                                                    have h := h.2
                                                                    refine WP.k hc 4 (?_ : WP call 2 T_L_law Q (1185, [zR 33 0, zR 0 0, zR 16 0, zI x3], [zI (x3 + (nI 2)), zR 33 0, zI (M 33 0 ((x3 + (nI 1)).toNatClampNeg)), zR 0 0]) M)
                                                                    refine WP.k hc 1 (?_ : vp_in (x3 + (nI 2)) (M 33 1 0).toNatClampNeg ∧ WP call 2 T_L_law Q (1186, [zR 33 0, zR 0 0, zR 16 0, zI x3], [zI (M 33 0 ((x3 + (nI 2)).toNatClampNeg)), zI (M 33 0 ((x3 + (nI 1)).toNatClampNeg)), zR 0 0]) M)
                                                                    refine ⟨h.1, ?_⟩
                                                                    have h := h.2
                                                                    refine WP.k hc 1 (?_ : call 85 [zR 0 0, zI (M 33 0 ((x3 + (nI 1)).toNatClampNeg)), zI (M 33 0 ((x3 + (nI 2)).toNatClampNeg))] M (fun r9 M9 => gO r9 fun v9 => WP call 2 T_L_law Q (1189, [zR 33 0, zR 0 0, zR 16 0, zI x3], [zI v9]) M9))
                                                                    refine hc _ _ _ _ _ (fun r9 M9 q => gO_m (fun v9 h => ?_) q) h
                                                                    refine WP.k hc 4 (?_ : WP call 2 T_L_law Q (1193, [zR 33 0, zR 0 0, zR 16 0, zI x3], [zI (nI 1), zI x3, zR 33 0, zR 16 0, zI v9]) M9)
                                                                    refine WP.k hc 2 (?_ : vp_in (x3 + (nI 1)) (M9 33 1 0).toNatClampNeg ∧ WP call 2 T_L_law Q (1195, [zR 33 0, zR 0 0, zR 16 0, zI x3], [zI (M9 33 0 ((x3 + (nI 1)).toNatClampNeg)), zR 16 0, zI v9]) M9)
                                                                    refine ⟨h.1, ?_⟩
                                                                    have h := h.2
                                                                    refine WP.k hc 4 (?_ : WP call 2 T_L_law Q (1199, [zR 33 0, zR 0 0, zR 16 0, zI x3], [zI (x3 + (nI 2)), zR 33 0, zI (M9 33 0 ((x3 + (nI 1)).toNatClampNeg)), zR 16 0, zI v9]) M9)
                                                                    refine WP.k hc 1 (?_ : vp_in (x3 + (nI 2)) (M9 33 1 0).toNatClampNeg ∧ WP call 2 T_L_law Q (1200, [zR 33 0, zR 0 0, zR 16 0, zI x3], [zI (M9 33 0 ((x3 + (nI 2)).toNatClampNeg)), zI (M9 33 0 ((x3 + (nI 1)).toNatClampNeg)), zR 16 0, zI v9]) M9)
                                                                    refine ⟨h.1, ?_⟩
                                                                    have h := h.2
                                                                    refine WP.k hc 1 (?_ : call 181 [zR 16 0, zI (M9 33 0 ((x3 + (nI 1)).toNatClampNeg)), zI (M9 33 0 ((x3 + (nI 2)).toNatClampNeg))] M9 (fun r10 M10 => gO r10 fun v10 => WP call 2 T_L_law Q (1203, [zR 33 0, zR 0 0, zR 16 0, zI x3], [zI v10, zI v9]) M10))
                                                                    refine hc _ _ _ _ _ (fun r10 M10 q => gO_m (fun v10 h => ?_) q) h
                                                                    refine WP.k hc 1 (?_ : ((v9 : Int32) = v10 → WP call 2 T_L_law Q (1300, [zR 33 0, zR 0 0, zR 16 0, zI x3], []) M10) ∧ (¬ (v9 : Int32) = v10 → WP call 2 T_L_law Q (1206, [zR 33 0, zR 0 0, zR 16 0, zI x3], []) M10))
                                                                    refine ⟨fun z => ?_, fun z => ?_⟩
                                                                    · have h := h.1 z
                                                                      exact WP.k hc 2 h
                                                                    · have h := h.2 z
                                                                      exact WP.k hc 2 h
                                                                  · have h := h.2 z
                                                                    refine ⟨fun z => ?_, fun z => ?_⟩
                                                                    · have h := h.1 z
                                                                      refine WP.k hc 4 (?_ : WP call 2 T_L_law Q (1212, [zR 33 0, zR 0 0, zR 16 0, zI x3], [zI (nI 1), zI x3, zR 33 0, zR 0 0]) M)
                                                                      refine WP.k hc 2 (?_ : vp_in (x3 + (nI 1)) (M 33 1 0).toNatClampNeg ∧ WP call 2 T_L_law Q (1214, [zR 33 0, zR 0 0, zR 16 0, zI x3], [zI (M 33 0 ((x3 + (nI 1)).toNatClampNeg)), zR 0 0]) M)
                                                                      refine ⟨h.1, ?_⟩
                                                                      have h := h.2
                                                                      refine WP.k hc 4 (?_ : WP call 2 T_L_law Q (1218, [zR 33 0, zR 0 0, zR 16 0, zI x3], [zI (x3 + (nI 2)), zR 33 0, zI (M 33 0 ((x3 + (nI 1)).toNatClampNeg)), zR 0 0]) M)
                                                                      refine WP.k hc 1 (?_ : vp_in (x3 + (nI 2)) (M 33 1 0).toNatClampNeg ∧ WP call 2 T_L_law Q (1219, [zR 33 0, zR 0 0, zR 16 0, zI x3], [zI (M 33 0 ((x3 + (nI 2)).toNatClampNeg)), zI (M 33 0 ((x3 + (nI 1)).toNatClampNeg)), zR 0 0]) M)
                                                                      refine ⟨h.1, ?_⟩
                                                                      have h := h.2
                                                                      refine WP.k hc 1 (?_ : call 86 [zR 0 0, zI (M 33 0 ((x3 + (nI 1)).toNatClampNeg)), zI (M 33 0 ((x3 + (nI 2)).toNatClampNeg))] M (fun r7 M7 => gO r7 fun v7 => WP call 2 T_L_law Q (1222, [zR 33 0, zR 0 0, zR 16 0, zI x3], [zI v7]) M7))
                                                                      refine hc _ _ _ _ _ (fun r7 M7 q => gO_m (fun v7 h => ?_) q) h
                                                                      refine WP.k hc 4 (?_ : WP call 2 T_L_law Q (1226, [zR 33 0, zR 0 0, zR 16 0, zI x3], [zI (nI 1), zI x3, zR 33 0, zR 16 0, zI v7]) M7)
                                                                      refine WP.k hc 2 (?_ : vp_in (x3 + (nI 1)) (M7 33 1 0).toNatClampNeg ∧ WP call 2 T_L_law Q (1228, [zR 33 0, zR 0 0, zR 16 0, zI x3], [zI (M7 33 0 ((x3 + (nI 1)).toNatClampNeg)), zR 16 0, zI v7]) M7)
                                                                      refine ⟨h.1, ?_⟩
                                                                      have h := h.2
                                                                      refine WP.k hc 4 (?_ : WP call 2 T_L_law Q (1232, [zR 33 0, zR 0 0, zR 16 0, zI x3], [zI (x3 + (nI 2)), zR 33 0, zI (M7 33 0 ((x3 + (nI 1)).toNatClampNeg)), zR 16 0, zI v7]) M7)
                                                                      refine WP.k hc 1 (?_ : vp_in (x3 + (nI 2)) (M7 33 1 0).toNatClampNeg ∧ WP call 2 T_L_law Q (1233, [zR 33 0, zR 0 0, zR 16 0, zI x3], [zI (M7 33 0 ((x3 + (nI 2)).toNatClampNeg)), zI (M7 33 0 ((x3 + (nI 1)).toNatClampNeg)), zR 16 0, zI v7]) M7)
                                                                      refine ⟨h.1, ?_⟩
                                                                      have h := h.2
                                                                      refine WP.k hc 1 (?_ : call 187 [zR 16 0, zI (M7 33 0 ((x3 + (nI 1)).toNatClampNeg)), zI (M7 33 0 ((x3 + (nI 2)).toNatClampNeg))] M7 (fun r8 M8 => gO r8 fun v8 => WP call 2 T_L_law Q (1236, [zR 33 0, zR 0 0, zR 16 0, zI x3], [zI v8, zI v7]) M8))
                                                                      refine hc _ _ _ _ _ (fun r8 M8 q => gO_m (fun v8 h => ?_) q) h
                                                                      refine WP.k hc 1 (?_ : ((v7 : Int32) = v8 → WP call 2 T_L_law Q (1300, [zR 33 0, zR 0 0, zR 16 0, zI x3], []) M8) ∧ (¬ (v7 : Int32) = v8 → WP call 2 T_L_law Q (1239, [zR 33 0, zR 0 0, zR 16 0, zI x3], []) M8))
                                                                      refine ⟨fun z => ?_, fun z => ?_⟩
                                                                      · have h := h.1 z
                                                                        exact WP.k hc 2 h
                                                                      · have h := h.2 z
                                                                        exact WP.k hc 2 h
                                                                    · have h := h.2 z
                                                                      refine ⟨fun z => ?_, fun z => ?_⟩
                                                                      · have h := h.1 z
                                                                        refine WP.k hc 4 (?_ : WP call 2 T_L_law Q (1245, [zR 33 0, zR 0 0, zR 16 0, zI x3], [zI (nI 1), zI x3, zR 33 0, zR 0 0]) M)
                                                                        refine WP.k hc 2 (?_ : vp_in (x3 + (nI 1)) (M 33 1 0).toNatClampNeg ∧ WP call 2 T_L_law Q (1247, [zR 33 0, zR 0 0, zR 16 0, zI x3], [zI (M 33 0 ((x3 + (nI 1)).toNatClampNeg)), zR 0 0]) M)
                                                                        refine ⟨h.1, ?_⟩
                                                                        have h := h.2
                                                                        refine WP.k hc 1 (?_ : call 87 [zR 0 0, zI (M 33 0 ((x3 + (nI 1)).toNatClampNeg))] M (fun r5 M5 => gO r5 fun v5 => WP call 2 T_L_law Q (1250, [zR 33 0, zR 0 0, zR 16 0, zI x3], [zI v5]) M5))
                                                                        refine hc _ _ _ _ _ (fun r5 M5 q => gO_m (fun v5 h => ?_) q) h
                                                                        refine WP.k hc 4 (?_ : WP call 2 T_L_law Q (1254, [zR 33 0, zR 0 0, zR 16 0, zI x3], [zI (nI 1), zI x3, zR 33 0, zR 16 0, zI v5]) M5)
                                                                        refine WP.k hc 2 (?_ : vp_in (x3 + (nI 1)) (M5 33 1 0).toNatClampNeg ∧ WP call 2 T_L_law Q (1256, [zR 33 0, zR 0 0, zR 16 0, zI x3], [zI (M5 33 0 ((x3 + (nI 1)).toNatClampNeg)), zR 16 0, zI v5]) M5)
                                                                        refine ⟨h.1, ?_⟩
                                                                        have h := h.2
                                                                        refine WP.k hc 1 (?_ : call 188 [zR 16 0, zI (M5 33 0 ((x3 + (nI 1)).toNatClampNeg))] M5 (fun r6 M6 => gO r6 fun v6 => WP call 2 T_L_law Q (1259, [zR 33 0, zR 0 0, zR 16 0, zI x3], [zI v6, zI v5]) M6))
                                                                        refine hc _ _ _ _ _ (fun r6 M6 q => gO_m (fun v6 h => ?_) q) h
                                                                        refine WP.k hc 1 (?_ : ((v5 : Int32) = v6 → WP call 2 T_L_law Q (1300, [zR 33 0, zR 0 0, zR 16 0, zI x3], []) M6) ∧ (¬ (v5 : Int32) = v6 → WP call 2 T_L_law Q (1262, [zR 33 0, zR 0 0, zR 16 0, zI x3], []) M6))
                                                                        refine ⟨fun z => ?_, fun z => ?_⟩
                                                                        · have h := h.1 z
                                                                          exact WP.k hc 2 h
                                                                        · have h := h.2 z
                                                                          exact WP.k hc 2 h
                                                                      · have h := h.2 z
                                                                        refine ⟨fun z => ?_, fun z => ?_⟩
                                                                        · have h := h.1 z
                                                                          refine WP.k hc 4 (?_ : WP call 2 T_L_law Q (1268, [zR 33 0, zR 0 0, zR 16 0, zI x3], [zI (nI 1), zI x3, zR 33 0, zR 0 0]) M)
                                                                          refine WP.k hc 2 (?_ : vp_in (x3 + (nI 1)) (M 33 1 0).toNatClampNeg ∧ WP call 2 T_L_law Q (1270, [zR 33 0, zR 0 0, zR 16 0, zI x3], [zI (M 33 0 ((x3 + (nI 1)).toNatClampNeg)), zR 0 0]) M)
                                                                          refine ⟨h.1, ?_⟩
                                                                          have h := h.2
                                                                          refine WP.k hc 1 (?_ : call 88 [zR 0 0, zI (M 33 0 ((x3 + (nI 1)).toNatClampNeg))] M (fun r3 M3 => gO r3 fun v3 => WP call 2 T_L_law Q (1273, [zR 33 0, zR 0 0, zR 16 0, zI x3], [zI v3]) M3))
                                                                          refine hc _ _ _ _ _ (fun r3 M3 q => gO_m (fun v3 h => ?_) q) h
                                                                          refine WP.k hc 4 (?_ : WP call 2 T_L_law Q (1277, [zR 33 0, zR 0 0, zR 16 0, zI x3], [zI (nI 1), zI x3, zR 33 0, zR 16 0, zI v3]) M3)
                                                                          refine WP.k hc 2 (?_ : vp_in (x3 + (nI 1)) (M3 33 1 0).toNatClampNeg ∧ WP call 2 T_L_law Q (1279, [zR 33 0, zR 0 0, zR 16 0, zI x3], [zI (M3 33 0 ((x3 + (nI 1)).toNatClampNeg)), zR 16 0, zI v3]) M3)
                                                                          refine ⟨h.1, ?_⟩
                                                                          have h := h.2
                                                                          refine WP.k hc 1 (?_ : call 190 [zR 16 0, zI (M3 33 0 ((x3 + (nI 1)).toNatClampNeg))] M3 (fun r4 M4 => gO r4 fun v4 => WP call 2 T_L_law Q (1282, [zR 33 0, zR 0 0, zR 16 0, zI x3], [zI v4, zI v3]) M4))
                                                                          refine hc _ _ _ _ _ (fun r4 M4 q => gO_m (fun v4 h => ?_) q) h
                                                                          refine WP.k hc 1 (?_ : ((v3 : Int32) = v4 → WP call 2 T_L_law Q (1300, [zR 33 0, zR 0 0, zR 16 0, zI x3], []) M4) ∧ (¬ (v3 : Int32) = v4 → WP call 2 T_L_law Q (1285, [zR 33 0, zR 0 0, zR 16 0, zI x3], []) M4))
                                                                          refine ⟨fun z => ?_, fun z => ?_⟩
                                                                          · have h := h.1 z
                                                                            exact WP.k hc 2 h
                                                                          · have h := h.2 z
                                                                            exact WP.k hc 2 h
                                                                        · have h := h.2 z
                                                                          refine ⟨fun z => ?_, fun z => ?_⟩
                                                                          · have h := h.1 z
                                                                            refine WP.k hc 2 (?_ : call 89 [zR 0 0] M (fun r1 M1 => gO r1 fun v1 => WP call 2 T_L_law Q (1291, [zR 33 0, zR 0 0, zR 16 0, zI x3], [zI v1]) M1))
                                                                            refine hc _ _ _ _ _ (fun r1 M1 q => gO_m (fun v1 h => ?_) q) h
                                                                            refine WP.k hc 2 (?_ : call 191 [zR 16 0] M1 (fun r2 M2 => gO r2 fun v2 => WP call 2 T_L_law Q (1295, [zR 33 0, zR 0 0, zR 16 0, zI x3], [zI v2, zI v1]) M2))
                                                                            refine hc _ _ _ _ _ (fun r2 M2 q => gO_m (fun v2 h => ?_) q) h
                                                                            refine WP.k hc 1 (?_ : ((v1 : Int32) = v2 → WP call 2 T_L_law Q (1300, [zR 33 0, zR 0 0, zR 16 0, zI x3], []) M2) ∧ (¬ (v1 : Int32) = v2 → WP call 2 T_L_law Q (1298, [zR 33 0, zR 0 0, zR 16 0, zI x3], []) M2))
                                                                            refine ⟨fun z => ?_, fun z => ?_⟩
                                                                            · have h := h.1 z
                                                                              exact WP.k hc 2 h
                                                                            · have h := h.2 z
                                                                              exact WP.k hc 2 h
                                                                          · have h := h.2 z
                                                                            exact WP.k hc 2 h
