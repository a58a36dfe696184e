/-! WORDS OF THE CONSTRUCTORS -/
theorem wm_oi : Cond.instanceMethod objectInit ∈ gtb := gtb_of (by decide +kernel) rfl
theorem wm_oc : Cond.code objectInit ⟨#[0xb1]⟩ 1 none ∈ gtb := gtb_of (by decide +kernel) rfl
theorem wm_ai : Cond.arrayClass .int ∈ gtb := gtb_of (by decide +kernel) rfl
theorem wm_az : Cond.arrayClass .boolean ∈ gtb := gtb_of (by decide +kernel) rfl
theorem wm_o0 : Cond.methodLink RX0 3 objectInit ∈ gtb := gtb_of (by decide +kernel) rfl
theorem wm_o1 : Cond.methodLink RX1 3 objectInit ∈ gtb := gtb_of (by decide +kernel) rfl
theorem wm_o2 : Cond.methodLink RX2 3 objectInit ∈ gtb := gtb_of (by decide +kernel) rfl
theorem wm_o3 : Cond.methodLink RX3 3 objectInit ∈ gtb := gtb_of (by decide +kernel) rfl
theorem wm_o4 : Cond.methodLink RX4 1 objectInit ∈ gtb := gtb_of (by decide +kernel) rfl
theorem wm_o5 : Cond.methodLink RX5 1 objectInit ∈ gtb := gtb_of (by decide +kernel) rfl
theorem wm_n0 : Cond.instantiable RX0 3 ∈ gtb := gtb_of (by decide +kernel) rfl
theorem wm_n1 : Cond.instantiable RX1 3 ∈ gtb := gtb_of (by decide +kernel) rfl
theorem wm_n2 : Cond.instantiable RX2 5 ∈ gtb := gtb_of (by decide +kernel) rfl
theorem wm_n3 : Cond.instantiable RX3 12 ∈ gtb := gtb_of (by decide +kernel) rfl
theorem wm_n4 : Cond.instantiable RX4 9 ∈ gtb := gtb_of (by decide +kernel) rfl
theorem wm_n5 : Cond.instantiable RX5 24 ∈ gtb := gtb_of (by decide +kernel) rfl
theorem wm_i0 : Cond.initialized RX0 ∈ gtb := gtb_of (by decide +kernel) rfl
theorem wm_i1 : Cond.initialized RX1 ∈ gtb := gtb_of (by decide +kernel) rfl
theorem wm_i2 : Cond.initialized RX2 ∈ gtb := gtb_of (by decide +kernel) rfl
theorem wm_i3 : Cond.initialized RX3 ∈ gtb := gtb_of (by decide +kernel) rfl
theorem wm_i4 : Cond.initialized RX4 ∈ gtb := gtb_of (by decide +kernel) rfl
theorem wm_i5 : Cond.initialized RX5 ∈ gtb := gtb_of (by decide +kernel) rfl
theorem wm_c0 : Cond.code (yIN RX0) prog_2_method_1_code 2 none ∈ gtb := gtb_of (by decide +kernel) rfl
theorem wm_c1 : Cond.code (yIN RX1) prog_3_method_1_code 1 none ∈ gtb := gtb_of (by decide +kernel) rfl
theorem wm_c2 : Cond.code (yIN RX2) prog_4_method_1_code 1 none ∈ gtb := gtb_of (by decide +kernel) rfl
theorem wm_c3 : Cond.code (yIN RX3) prog_5_method_1_code 1 none ∈ gtb := gtb_of (by decide +kernel) rfl
theorem wm_c4 : Cond.code (yIN RX4) prog_1_method_1_code 2 none ∈ gtb := gtb_of (by decide +kernel) rfl
theorem wm_c5 : Cond.code (yIN RX5) prog_7_method_1_code 2 none ∈ gtb := gtb_of (by decide +kernel) rfl
theorem wm_m0 : Cond.instanceMethod (yIN RX0) ∈ gtb := gtb_of (by decide +kernel) rfl
theorem wm_m1 : Cond.instanceMethod (yIN RX1) ∈ gtb := gtb_of (by decide +kernel) rfl
theorem wm_m2 : Cond.instanceMethod (yIN RX2) ∈ gtb := gtb_of (by decide +kernel) rfl
theorem wm_m3 : Cond.instanceMethod (yIN RX3) ∈ gtb := gtb_of (by decide +kernel) rfl
theorem wm_m4 : Cond.instanceMethod (yIN RX4) ∈ gtb := gtb_of (by decide +kernel) rfl
theorem wm_m5 : Cond.instanceMethod (yIN RX5) ∈ gtb := gtb_of (by decide +kernel) rfl
theorem wm_k41 : Cond.classLink RX4 9 RX1 ∈ gtb := gtb_of (by decide +kernel) rfl
theorem wm_k42 : Cond.classLink RX4 16 RX2 ∈ gtb := gtb_of (by decide +kernel) rfl
theorem wm_k43 : Cond.classLink RX4 23 RX3 ∈ gtb := gtb_of (by decide +kernel) rfl
theorem wm_k40 : Cond.classLink RX4 37 RX0 ∈ gtb := gtb_of (by decide +kernel) rfl
theorem wm_k03 : Cond.classLink RX0 9 RX3 ∈ gtb := gtb_of (by decide +kernel) rfl
theorem wm_kL4 : Cond.classLink RL 7 RX4 ∈ gtb := gtb_of (by decide +kernel) rfl
theorem wm_kL5 : Cond.classLink RL 10 RX5 ∈ gtb := gtb_of (by decide +kernel) rfl
theorem wm_l40 : Cond.methodLink RX4 39 (yIN RX0) ∈ gtb := gtb_of (by decide +kernel) rfl
theorem wm_lL4 : Cond.methodLink RL 9 (yIN RX4) ∈ gtb := gtb_of (by decide +kernel) rfl
theorem wm_lL5 : Cond.methodLink RL 12 (yIN RX5) ∈ gtb := gtb_of (by decide +kernel) rfl
theorem wm_k5 : Cond.constant RX5 50 (-1000000) ∈ gtb := gtb_of (by decide +kernel) rfl
theorem wf_1_0 : Cond.fieldLink (ownS 1) 9 (ownS 1) (clsT 1 0).2.1 (clsT 1 0).2.2.1 ∈ gtb := gtb_of (by decide +kernel) rfl
theorem wf_1_1 : Cond.fieldLink (ownS 1) 15 (ownS 1) (clsT 1 1).2.1 (clsT 1 1).2.2.1 ∈ gtb := gtb_of (by decide +kernel) rfl
theorem wf_2_0 : Cond.fieldLink (ownS 2) 9 (ownS 2) (clsT 2 0).2.1 (clsT 2 0).2.2.1 ∈ gtb := gtb_of (by decide +kernel) rfl
theorem wf_3_0 : Cond.fieldLink (ownS 3) 9 (ownS 3) (clsT 3 0).2.1 (clsT 3 0).2.2.1 ∈ gtb := gtb_of (by decide +kernel) rfl
theorem wf_3_1 : Cond.fieldLink (ownS 3) 15 (ownS 3) (clsT 3 1).2.1 (clsT 3 1).2.2.1 ∈ gtb := gtb_of (by decide +kernel) rfl
theorem wf_3_2 : Cond.fieldLink (ownS 3) 18 (ownS 3) (clsT 3 2).2.1 (clsT 3 2).2.2.1 ∈ gtb := gtb_of (by decide +kernel) rfl
theorem wf_3_3 : Cond.fieldLink (ownS 3) 21 (ownS 3) (clsT 3 3).2.1 (clsT 3 3).2.2.1 ∈ gtb := gtb_of (by decide +kernel) rfl
theorem wf_3_4 : Cond.fieldLink (ownS 3) 24 (ownS 3) (clsT 3 4).2.1 (clsT 3 4).2.2.1 ∈ gtb := gtb_of (by decide +kernel) rfl
theorem wf_0_0 : Cond.fieldLink (ownS 0) 11 (ownS 0) (clsT 0 0).2.1 (clsT 0 0).2.2.1 ∈ gtb := gtb_of (by decide +kernel) rfl
theorem wf_4_0 : Cond.fieldLink (ownS 4) 11 (ownS 4) (clsT 4 0).2.1 (clsT 4 0).2.2.1 ∈ gtb := gtb_of (by decide +kernel) rfl
theorem wf_4_1 : Cond.fieldLink (ownS 4) 19 (ownS 4) (clsT 4 1).2.1 (clsT 4 1).2.2.1 ∈ gtb := gtb_of (by decide +kernel) rfl
theorem wf_4_2 : Cond.fieldLink (ownS 4) 26 (ownS 4) (clsT 4 2).2.1 (clsT 4 2).2.2.1 ∈ gtb := gtb_of (by decide +kernel) rfl
theorem wf_4_3 : Cond.fieldLink (ownS 4) 30 (ownS 4) (clsT 4 3).2.1 (clsT 4 3).2.2.1 ∈ gtb := gtb_of (by decide +kernel) rfl
theorem wf_4_4 : Cond.fieldLink (ownS 4) 33 (ownS 4) (clsT 4 4).2.1 (clsT 4 4).2.2.1 ∈ gtb := gtb_of (by decide +kernel) rfl
theorem wf_4_5 : Cond.fieldLink (ownS 4) 40 (ownS 4) (clsT 4 5).2.1 (clsT 4 5).2.2.1 ∈ gtb := gtb_of (by decide +kernel) rfl
theorem wf_4_6 : Cond.fieldLink (ownS 4) 44 (ownS 4) (clsT 4 6).2.1 (clsT 4 6).2.2.1 ∈ gtb := gtb_of (by decide +kernel) rfl
theorem wf_5_0 : Cond.fieldLink (ownS 5) 7 (ownS 5) (clsT 5 0).2.1 (clsT 5 0).2.2.1 ∈ gtb := gtb_of (by decide +kernel) rfl
theorem wf_5_1 : Cond.fieldLink (ownS 5) 13 (ownS 5) (clsT 5 1).2.1 (clsT 5 1).2.2.1 ∈ gtb := gtb_of (by decide +kernel) rfl
theorem wf_5_2 : Cond.fieldLink (ownS 5) 16 (ownS 5) (clsT 5 2).2.1 (clsT 5 2).2.2.1 ∈ gtb := gtb_of (by decide +kernel) rfl
theorem wf_5_3 : Cond.fieldLink (ownS 5) 19 (ownS 5) (clsT 5 3).2.1 (clsT 5 3).2.2.1 ∈ gtb := gtb_of (by decide +kernel) rfl
theorem wf_5_5 : Cond.fieldLink (ownS 5) 22 (ownS 5) (clsT 5 5).2.1 (clsT 5 5).2.2.1 ∈ gtb := gtb_of (by decide +kernel) rfl
theorem wf_5_14 : Cond.fieldLink (ownS 5) 25 (ownS 5) (clsT 5 14).2.1 (clsT 5 14).2.2.1 ∈ gtb := gtb_of (by decide +kernel) rfl
theorem wf_5_15 : Cond.fieldLink (ownS 5) 28 (ownS 5) (clsT 5 15).2.1 (clsT 5 15).2.2.1 ∈ gtb := gtb_of (by decide +kernel) rfl
theorem wf_5_16 : Cond.fieldLink (ownS 5) 31 (ownS 5) (clsT 5 16).2.1 (clsT 5 16).2.2.1 ∈ gtb := gtb_of (by decide +kernel) rfl
theorem wf_5_17 : Cond.fieldLink (ownS 5) 34 (ownS 5) (clsT 5 17).2.1 (clsT 5 17).2.2.1 ∈ gtb := gtb_of (by decide +kernel) rfl
theorem wf_5_19 : Cond.fieldLink (ownS 5) 37 (ownS 5) (clsT 5 19).2.1 (clsT 5 19).2.2.1 ∈ gtb := gtb_of (by decide +kernel) rfl
theorem wf_5_20 : Cond.fieldLink (ownS 5) 40 (ownS 5) (clsT 5 20).2.1 (clsT 5 20).2.2.1 ∈ gtb := gtb_of (by decide +kernel) rfl
theorem wf_5_21 : Cond.fieldLink (ownS 5) 44 (ownS 5) (clsT 5 21).2.1 (clsT 5 21).2.2.1 ∈ gtb := gtb_of (by decide +kernel) rfl
theorem wf_5_22 : Cond.fieldLink (ownS 5) 47 (ownS 5) (clsT 5 22).2.1 (clsT 5 22).2.2.1 ∈ gtb := gtb_of (by decide +kernel) rfl
abbrev df_0 : List Value := [.null, .int 0, .int 0]
theorem dv_0 : ∀ j, j < clsN 0 → defaultValue (clsY 0 j) = vp_V df_0 j := by
  intro j hj
  match j, hj with
  | 0, _ => rfl
  | 1, _ => rfl
  | 2, _ => rfl
  | n + 3, h => exact absurd (show n + 3 < 3 from h) (by omega)
theorem nh_0 : ownS 0 ≠ "java/lang/invoke/MethodHandle" ∧ ownS 0 ≠ "java/lang/invoke/VarHandle" := by decide +kernel
abbrev df_1 : List Value := [.null, .int 0, .int 0]
theorem dv_1 : ∀ j, j < clsN 1 → defaultValue (clsY 1 j) = vp_V df_1 j := by
  intro j hj
  match j, hj with
  | 0, _ => rfl
  | 1, _ => rfl
  | 2, _ => rfl
  | n + 3, h => exact absurd (show n + 3 < 3 from h) (by omega)
theorem nh_1 : ownS 1 ≠ "java/lang/invoke/MethodHandle" ∧ ownS 1 ≠ "java/lang/invoke/VarHandle" := by decide +kernel
abbrev df_2 : List Value := [.null, .int 0, .int 0, .int 0, .int 0]
theorem dv_2 : ∀ j, j < clsN 2 → defaultValue (clsY 2 j) = vp_V df_2 j := by
  intro j hj
  match j, hj with
  | 0, _ => rfl
  | 1, _ => rfl
  | 2, _ => rfl
  | 3, _ => rfl
  | 4, _ => rfl
  | n + 5, h => exact absurd (show n + 5 < 5 from h) (by omega)
theorem nh_2 : ownS 2 ≠ "java/lang/invoke/MethodHandle" ∧ ownS 2 ≠ "java/lang/invoke/VarHandle" := by decide +kernel
abbrev df_3 : List Value := [.null, .null, .null, .null, .null, .int 0, .int 0, .int 0, .int 0, .int 0, .int 0, .int 0]
theorem dv_3 : ∀ j, j < clsN 3 → defaultValue (clsY 3 j) = vp_V df_3 j := by
  intro j hj
  match j, hj with
  | 0, _ => rfl
  | 1, _ => rfl
  | 2, _ => rfl
  | 3, _ => rfl
  | 4, _ => rfl
  | 5, _ => rfl
  | 6, _ => rfl
  | 7, _ => rfl
  | 8, _ => rfl
  | 9, _ => rfl
  | 10, _ => rfl
  | 11, _ => rfl
  | n + 12, h => exact absurd (show n + 12 < 12 from h) (by omega)
theorem nh_3 : ownS 3 ≠ "java/lang/invoke/MethodHandle" ∧ ownS 3 ≠ "java/lang/invoke/VarHandle" := by decide +kernel
abbrev df_4 : List Value := [.null, .null, .null, .null, .null, .null, .null, .int 0, .int 0]
theorem dv_4 : ∀ j, j < clsN 4 → defaultValue (clsY 4 j) = vp_V df_4 j := by
  intro j hj
  match j, hj with
  | 0, _ => rfl
  | 1, _ => rfl
  | 2, _ => rfl
  | 3, _ => rfl
  | 4, _ => rfl
  | 5, _ => rfl
  | 6, _ => rfl
  | 7, _ => rfl
  | 8, _ => rfl
  | n + 9, h => exact absurd (show n + 9 < 9 from h) (by omega)
theorem nh_4 : ownS 4 ≠ "java/lang/invoke/MethodHandle" ∧ ownS 4 ≠ "java/lang/invoke/VarHandle" := by decide +kernel
abbrev df_5 : List Value := [.null, .null, .null, .null, .int 0, .null, .int 0, .int 0, .int 0, .int 0, .int 0, .int 0, .int 0, .int 0, .null, .null, .null, .null, .int 0, .null, .null, .null, .null, .int 0]
theorem dv_5 : ∀ j, j < clsN 5 → defaultValue (clsY 5 j) = vp_V df_5 j := by
  intro j hj
  match j, hj with
  | 0, _ => rfl
  | 1, _ => rfl
  | 2, _ => rfl
  | 3, _ => rfl
  | 4, _ => rfl
  | 5, _ => rfl
  | 6, _ => rfl
  | 7, _ => rfl
  | 8, _ => rfl
  | 9, _ => rfl
  | 10, _ => rfl
  | 11, _ => rfl
  | 12, _ => rfl
  | 13, _ => rfl
  | 14, _ => rfl
  | 15, _ => rfl
  | 16, _ => rfl
  | 17, _ => rfl
  | 18, _ => rfl
  | 19, _ => rfl
  | 20, _ => rfl
  | 21, _ => rfl
  | 22, _ => rfl
  | 23, _ => rfl
  | n + 24, h => exact absurd (show n + 24 < 24 from h) (by omega)
theorem nh_5 : ownS 5 ≠ "java/lang/invoke/MethodHandle" ∧ ownS 5 ≠ "java/lang/invoke/VarHandle" := by decide +kernel
