theorem dr1_0 : decode prog_3_method_1_code 0 = .ok (.aload_n 0, 1) := by decide +kernel
theorem dr1_1 : decode prog_3_method_1_code 1 = .ok (.invokespecial 3, 3) := by decide +kernel
theorem dr1_4 : decode prog_3_method_1_code 4 = .ok (.aload_n 0, 1) := by decide +kernel
theorem dr1_5 : decode prog_3_method_1_code 5 = .ok (.bipush 40, 2) := by decide +kernel
theorem dr1_7 : decode prog_3_method_1_code 7 = .ok (.newarray .int, 2) := by decide +kernel
theorem dr1_9 : decode prog_3_method_1_code 9 = .ok (.putfield 9, 3) := by decide +kernel
theorem dr1_12 : decode prog_3_method_1_code 12 = .ok (.aload_n 0, 1) := by decide +kernel
theorem dr1_13 : decode prog_3_method_1_code 13 = .ok (.iconst (-1), 1) := by decide +kernel
theorem dr1_14 : decode prog_3_method_1_code 14 = .ok (.putfield 15, 3) := by decide +kernel
theorem dr1_17 : decode prog_3_method_1_code 17 = .ok (.return_, 1) := by decide +kernel
set_option maxHeartbeats 4000000 in
set_option maxRecDepth 100000 in
theorem ci_Row (l : Launch) (D : va_G) (C : CI4) : MetI l D C (yIN RX1) (.code (yIN RX1) prog_3_method_1_code 1 none) { frames := 1, cells := 1, slots := 40, locals := 12 } 1 df_1 (wRow C) 1 40 := by
  intro h0 sz
  refine Met.ofW (cc := prog_3_method_1_code) (maxL := 1) (ret := none) (by decide +kernel) rfl ?_
  intro p e s m args below meth c s₁ B hml hv
  obtain ⟨rfl, hsz, hP, hK, hN⟩ := hv
  have hx := B.exec
  have hb := B.bytes
  have hr := B.returns
  have hts0 := atoms_spec (ws := Cond.code (yIN RX1) prog_3_method_1_code 1 none :: gtb) B.pre
  have hts : ∀ w ∈ gtb, w.before [Value.ref h0].toArray s = true := fun w hw => hts0 w (List.mem_cons_of_mem _ hw)
  have hown : s.vm.findClass (ownS 1) = some m.cls := findClass_of_methodNamed B.named
  have hlocks := B.notSynchronized
  have hin : meth.name = "<init>" := (name_of_methodNamed B.named B.method).1
  subst hsz
  have hD : va_D (va_A [(h0, .inr (1, df_1))] s.heap.size) [(h0, .inr (1, df_1))] := D_nd.mpr ⟨by simp, fun q hq => by rw [List.mem_singleton.mp hq]; exact va_A.in (k := 0) (ws := [(h0, .inr (1, df_1))]) rfl⟩
  generalize hAe : va_A [(h0, .inr (1, df_1))] s.heap.size = A at hD ⊢
  have hA : ∀ q : Nat, s.heap.size ≤ q → A q := fun q h => by rw [← hAe]; exact Or.inr h
  have hS : va_S A s.heap s.heap [] := va_S.rf
  have hl := lv_entry ([.ref h0]) (n := 1) (Nat.le_of_ble_eq_true rfl)
  rw [lg_entry_eq]
  generalize (lg_sl ([.ref h0]) ++ List.replicate (1 - (lg_sl ([.ref h0])).length) Slot.unset).toArray = ls at hl ⊢
  have hl : lv_has ls 1 [(0, .ref h0)] := hl
  refine lv_aload_n hx hb dr1_0 rfl (lv_at hl 0 rfl) ?_
  refine W.objInit hx hb hown (hts _ wm_o1) (hts _ wm_oi) (hts _ wm_oc) rfl (by rw [hml]; exact hl.1) rfl dr1_1 (Nat.le_of_ble_eq_true rfl) (Nat.le_of_ble_eq_true rfl) ?_
  refine W.eq (g2 := F0 m 4 ls []) rfl ?_
  refine lv_aload_n hx hb dr1_4 rfl (lv_at hl 0 rfl) ?_
  refine lv_bipush (v := nI 40) hx hb dr1_5 (by decide) ?_
  refine arr_f (ci := 1) (k := 0) (N := 40) hx hb hown hts hK hin hP hD hS hA (by omega) (by decide) ⟨rfl, rfl⟩ wf_1_0 (by decide +kernel) (Nat.le_of_ble_eq_true rfl) rfl (by omega) wm_ai ⟨(Nat.le_of_ble_eq_true rfl), (Nat.le_of_ble_eq_true rfl)⟩ dr1_7 dr1_9 (fun q0 H locs hP hD hS => ?_)
  have hP : va_P D vwCl [(h0, .inr (1, [.ref q0, .int 0, .int 0])), (q0, .inl (C.1, 40, .inl (fun _ => 0)))] H := hP
  have hD : va_D A [(h0, .inr (1, [.ref q0, .int 0, .int 0])), (q0, .inl (C.1, 40, .inl (fun _ => 0)))] := hD
  refine lv_aload_n hx hb dr1_12 rfl (lv_at hl 0 rfl) ?_
  refine lv_iconst (v := -1) hx hb dr1_13 (by decide) ?_
  refine va_put (ci := 1) (C := ownS 1) (T := clsT 1) (N := clsN 1) (v := .int (-1)) (ty := .int) hx hb hts (cl_ws 1 (by omega)) (clsY 1) (cl_ty 1 (by omega)) (cl_nm 1 (by omega)) hown hK hP hD hS 0 rfl (cl_get 1 (by omega)) 1 (by decide) (hts _ wf_1_1) (fun _ h9 => h9) rfl (by decide +kernel) rfl rfl (Nat.le_of_ble_eq_true rfl) dr1_14 (fun H locs hP hD hS => ?_)
  refine W.widen (k := 1) (n := 40) (by omega) (by omega) ?_
  exact W.vret hx hb hr (fun t ht hW => ⟨⟨fun _ _ => q0, rfl, trivial, by rw [ht]; exact hP, hD⟩, hS.F ht⟩) hS.2.2 dr1_17
theorem dr2_0 : decode prog_4_method_1_code 0 = .ok (.aload_n 0, 1) := by decide +kernel
theorem dr2_1 : decode prog_4_method_1_code 1 = .ok (.invokespecial 3, 3) := by decide +kernel
theorem dr2_4 : decode prog_4_method_1_code 4 = .ok (.aload_n 0, 1) := by decide +kernel
theorem dr2_5 : decode prog_4_method_1_code 5 = .ok (.bipush 90, 2) := by decide +kernel
theorem dr2_7 : decode prog_4_method_1_code 7 = .ok (.newarray .int, 2) := by decide +kernel
theorem dr2_9 : decode prog_4_method_1_code 9 = .ok (.putfield 9, 3) := by decide +kernel
theorem dr2_12 : decode prog_4_method_1_code 12 = .ok (.return_, 1) := by decide +kernel
set_option maxHeartbeats 4000000 in
set_option maxRecDepth 100000 in
theorem ci_Tape (l : Launch) (D : va_G) (C : CI4) : MetI l D C (yIN RX2) (.code (yIN RX2) prog_4_method_1_code 1 none) { frames := 1, cells := 1, slots := 90, locals := 12 } 2 df_2 (wTape C) 1 90 := by
  intro h0 sz
  refine Met.ofW (cc := prog_4_method_1_code) (maxL := 1) (ret := none) (by decide +kernel) rfl ?_
  intro p e s m args below meth c s₁ B hml hv
  obtain ⟨rfl, hsz, hP, hK, hN⟩ := hv
  have hx := B.exec
  have hb := B.bytes
  have hr := B.returns
  have hts0 := atoms_spec (ws := Cond.code (yIN RX2) prog_4_method_1_code 1 none :: gtb) B.pre
  have hts : ∀ w ∈ gtb, w.before [Value.ref h0].toArray s = true := fun w hw => hts0 w (List.mem_cons_of_mem _ hw)
  have hown : s.vm.findClass (ownS 2) = some m.cls := findClass_of_methodNamed B.named
  have hlocks := B.notSynchronized
  have hin : meth.name = "<init>" := (name_of_methodNamed B.named B.method).1
  subst hsz
  have hD : va_D (va_A [(h0, .inr (2, df_2))] s.heap.size) [(h0, .inr (2, df_2))] := D_nd.mpr ⟨by simp, fun q hq => by rw [List.mem_singleton.mp hq]; exact va_A.in (k := 0) (ws := [(h0, .inr (2, df_2))]) rfl⟩
  generalize hAe : va_A [(h0, .inr (2, df_2))] s.heap.size = A at hD ⊢
  have hA : ∀ q : Nat, s.heap.size ≤ q → A q := fun q h => by rw [← hAe]; exact Or.inr h
  have hS : va_S A s.heap s.heap [] := va_S.rf
  have hl := lv_entry ([.ref h0]) (n := 1) (Nat.le_of_ble_eq_true rfl)
  rw [lg_entry_eq]
  generalize (lg_sl ([.ref h0]) ++ List.replicate (1 - (lg_sl ([.ref h0])).length) Slot.unset).toArray = ls at hl ⊢
  have hl : lv_has ls 1 [(0, .ref h0)] := hl
  refine lv_aload_n hx hb dr2_0 rfl (lv_at hl 0 rfl) ?_
  refine W.objInit hx hb hown (hts _ wm_o2) (hts _ wm_oi) (hts _ wm_oc) rfl (by rw [hml]; exact hl.1) rfl dr2_1 (Nat.le_of_ble_eq_true rfl) (Nat.le_of_ble_eq_true rfl) ?_
  refine W.eq (g2 := F0 m 4 ls []) rfl ?_
  refine lv_aload_n hx hb dr2_4 rfl (lv_at hl 0 rfl) ?_
  refine lv_bipush (v := nI 90) hx hb dr2_5 (by decide) ?_
  refine arr_f (ci := 2) (k := 0) (N := 90) hx hb hown hts hK hin hP hD hS hA (by omega) (by decide) ⟨rfl, rfl⟩ wf_2_0 (by decide +kernel) (Nat.le_of_ble_eq_true rfl) rfl (by omega) wm_ai ⟨(Nat.le_of_ble_eq_true rfl), (Nat.le_of_ble_eq_true rfl)⟩ dr2_7 dr2_9 (fun q0 H locs hP hD hS => ?_)
  refine W.widen (k := 1) (n := 90) (by omega) (by omega) ?_
  exact W.vret hx hb hr (fun t ht hW => ⟨⟨fun _ _ => q0, rfl, trivial, by rw [ht]; exact hP, hD⟩, hS.F ht⟩) hS.2.2 dr2_12
theorem dr3_0 : decode prog_5_method_1_code 0 = .ok (.aload_n 0, 1) := by decide +kernel
theorem dr3_1 : decode prog_5_method_1_code 1 = .ok (.invokespecial 3, 3) := by decide +kernel
theorem dr3_4 : decode prog_5_method_1_code 4 = .ok (.aload_n 0, 1) := by decide +kernel
theorem dr3_5 : decode prog_5_method_1_code 5 = .ok (.bipush 8, 2) := by decide +kernel
theorem dr3_7 : decode prog_5_method_1_code 7 = .ok (.newarray .int, 2) := by decide +kernel
theorem dr3_9 : decode prog_5_method_1_code 9 = .ok (.putfield 9, 3) := by decide +kernel
theorem dr3_12 : decode prog_5_method_1_code 12 = .ok (.aload_n 0, 1) := by decide +kernel
theorem dr3_13 : decode prog_5_method_1_code 13 = .ok (.bipush 8, 2) := by decide +kernel
theorem dr3_15 : decode prog_5_method_1_code 15 = .ok (.newarray .int, 2) := by decide +kernel
theorem dr3_17 : decode prog_5_method_1_code 17 = .ok (.putfield 15, 3) := by decide +kernel
theorem dr3_20 : decode prog_5_method_1_code 20 = .ok (.aload_n 0, 1) := by decide +kernel
theorem dr3_21 : decode prog_5_method_1_code 21 = .ok (.bipush 6, 2) := by decide +kernel
theorem dr3_23 : decode prog_5_method_1_code 23 = .ok (.newarray .int, 2) := by decide +kernel
theorem dr3_25 : decode prog_5_method_1_code 25 = .ok (.putfield 18, 3) := by decide +kernel
theorem dr3_28 : decode prog_5_method_1_code 28 = .ok (.aload_n 0, 1) := by decide +kernel
theorem dr3_29 : decode prog_5_method_1_code 29 = .ok (.bipush 6, 2) := by decide +kernel
theorem dr3_31 : decode prog_5_method_1_code 31 = .ok (.newarray .int, 2) := by decide +kernel
theorem dr3_33 : decode prog_5_method_1_code 33 = .ok (.putfield 21, 3) := by decide +kernel
theorem dr3_36 : decode prog_5_method_1_code 36 = .ok (.aload_n 0, 1) := by decide +kernel
theorem dr3_37 : decode prog_5_method_1_code 37 = .ok (.bipush 6, 2) := by decide +kernel
theorem dr3_39 : decode prog_5_method_1_code 39 = .ok (.newarray .int, 2) := by decide +kernel
theorem dr3_41 : decode prog_5_method_1_code 41 = .ok (.putfield 24, 3) := by decide +kernel
theorem dr3_44 : decode prog_5_method_1_code 44 = .ok (.return_, 1) := by decide +kernel
set_option maxHeartbeats 4000000 in
set_option maxRecDepth 100000 in
theorem ci_Town (l : Launch) (D : va_G) (C : CI4) : MetI l D C (yIN RX3) (.code (yIN RX3) prog_5_method_1_code 1 none) { frames := 1, cells := 5, slots := 34, locals := 12 } 3 df_3 (wTown C) 5 34 := by
  intro h0 sz
  refine Met.ofW (cc := prog_5_method_1_code) (maxL := 1) (ret := none) (by decide +kernel) rfl ?_
  intro p e s m args below meth c s₁ B hml hv
  obtain ⟨rfl, hsz, hP, hK, hN⟩ := hv
  have hx := B.exec
  have hb := B.bytes
  have hr := B.returns
  have hts0 := atoms_spec (ws := Cond.code (yIN RX3) prog_5_method_1_code 1 none :: gtb) B.pre
  have hts : ∀ w ∈ gtb, w.before [Value.ref h0].toArray s = true := fun w hw => hts0 w (List.mem_cons_of_mem _ hw)
  have hown : s.vm.findClass (ownS 3) = some m.cls := findClass_of_methodNamed B.named
  have hlocks := B.notSynchronized
  have hin : meth.name = "<init>" := (name_of_methodNamed B.named B.method).1
  subst hsz
  have hD : va_D (va_A [(h0, .inr (3, df_3))] s.heap.size) [(h0, .inr (3, df_3))] := D_nd.mpr ⟨by simp, fun q hq => by rw [List.mem_singleton.mp hq]; exact va_A.in (k := 0) (ws := [(h0, .inr (3, df_3))]) rfl⟩
  generalize hAe : va_A [(h0, .inr (3, df_3))] s.heap.size = A at hD ⊢
  have hA : ∀ q : Nat, s.heap.size ≤ q → A q := fun q h => by rw [← hAe]; exact Or.inr h
  have hS : va_S A s.heap s.heap [] := va_S.rf
  have hl := lv_entry ([.ref h0]) (n := 1) (Nat.le_of_ble_eq_true rfl)
  rw [lg_entry_eq]
  generalize (lg_sl ([.ref h0]) ++ List.replicate (1 - (lg_sl ([.ref h0])).length) Slot.unset).toArray = ls at hl ⊢
  have hl : lv_has ls 1 [(0, .ref h0)] := hl
  refine lv_aload_n hx hb dr3_0 rfl (lv_at hl 0 rfl) ?_
  refine W.objInit hx hb hown (hts _ wm_o3) (hts _ wm_oi) (hts _ wm_oc) rfl (by rw [hml]; exact hl.1) rfl dr3_1 (Nat.le_of_ble_eq_true rfl) (Nat.le_of_ble_eq_true rfl) ?_
  refine W.eq (g2 := F0 m 4 ls []) rfl ?_
  refine lv_aload_n hx hb dr3_4 rfl (lv_at hl 0 rfl) ?_
  refine lv_bipush (v := nI 8) hx hb dr3_5 (by decide) ?_
  refine arr_f (ci := 3) (k := 0) (N := 8) hx hb hown hts hK hin hP hD hS hA (by omega) (by decide) ⟨rfl, rfl⟩ wf_3_0 (by decide +kernel) (Nat.le_of_ble_eq_true rfl) rfl (by omega) wm_ai ⟨(Nat.le_of_ble_eq_true rfl), (Nat.le_of_ble_eq_true rfl)⟩ dr3_7 dr3_9 (fun q7 H locs hP hD hS => ?_)
  refine lv_aload_n hx hb dr3_12 rfl (lv_at hl 0 rfl) ?_
  refine lv_bipush (v := nI 8) hx hb dr3_13 (by decide) ?_
  refine arr_f (ci := 3) (k := 1) (N := 8) hx hb hown hts hK hin hP hD hS hA (by omega) (by decide) ⟨rfl, rfl⟩ wf_3_1 (by decide +kernel) (Nat.le_of_ble_eq_true rfl) rfl (by omega) wm_ai ⟨(Nat.le_of_ble_eq_true rfl), (Nat.le_of_ble_eq_true rfl)⟩ dr3_15 dr3_17 (fun q8 H locs hP hD hS => ?_)
  refine lv_aload_n hx hb dr3_20 rfl (lv_at hl 0 rfl) ?_
  refine lv_bipush (v := nI 6) hx hb dr3_21 (by decide) ?_
  refine arr_f (ci := 3) (k := 2) (N := 6) hx hb hown hts hK hin hP hD hS hA (by omega) (by decide) ⟨rfl, rfl⟩ wf_3_2 (by decide +kernel) (Nat.le_of_ble_eq_true rfl) rfl (by omega) wm_ai ⟨(Nat.le_of_ble_eq_true rfl), (Nat.le_of_ble_eq_true rfl)⟩ dr3_23 dr3_25 (fun q9 H locs hP hD hS => ?_)
  refine lv_aload_n hx hb dr3_28 rfl (lv_at hl 0 rfl) ?_
  refine lv_bipush (v := nI 6) hx hb dr3_29 (by decide) ?_
  refine arr_f (ci := 3) (k := 3) (N := 6) hx hb hown hts hK hin hP hD hS hA (by omega) (by decide) ⟨rfl, rfl⟩ wf_3_3 (by decide +kernel) (Nat.le_of_ble_eq_true rfl) rfl (by omega) wm_ai ⟨(Nat.le_of_ble_eq_true rfl), (Nat.le_of_ble_eq_true rfl)⟩ dr3_31 dr3_33 (fun q10 H locs hP hD hS => ?_)
  refine lv_aload_n hx hb dr3_36 rfl (lv_at hl 0 rfl) ?_
  refine lv_bipush (v := nI 6) hx hb dr3_37 (by decide) ?_
  refine arr_f (ci := 3) (k := 4) (N := 6) hx hb hown hts hK hin hP hD hS hA (by omega) (by decide) ⟨rfl, rfl⟩ wf_3_4 (by decide +kernel) (Nat.le_of_ble_eq_true rfl) rfl (by omega) wm_ai ⟨(Nat.le_of_ble_eq_true rfl), (Nat.le_of_ble_eq_true rfl)⟩ dr3_39 dr3_41 (fun q11 H locs hP hD hS => ?_)
  refine W.widen (k := 5) (n := 34) (by omega) (by omega) ?_
  exact W.vret hx hb hr (fun t ht hW => ⟨⟨fun k _ => if k = 7 then q7 else if k = 8 then q8 else if k = 9 then q9 else if k = 10 then q10 else q11, rfl, trivial, by rw [ht]; exact hP, hD⟩, hS.F ht⟩) hS.2.2 dr3_44
theorem dr0_0 : decode prog_2_method_1_code 0 = .ok (.aload_n 0, 1) := by decide +kernel
theorem dr0_1 : decode prog_2_method_1_code 1 = .ok (.invokespecial 3, 3) := by decide +kernel
theorem dr0_4 : decode prog_2_method_1_code 4 = .ok (.aload_n 0, 1) := by decide +kernel
theorem dr0_5 : decode prog_2_method_1_code 5 = .ok (.bipush 24, 2) := by decide +kernel
theorem dr0_7 : decode prog_2_method_1_code 7 = .ok (.anewarray 9, 3) := by decide +kernel
theorem dr0_10 : decode prog_2_method_1_code 10 = .ok (.putfield 11, 3) := by decide +kernel
theorem dr0_13 : decode prog_2_method_1_code 13 = .ok (.iconst 0, 1) := by decide +kernel
theorem dr0_14 : decode prog_2_method_1_code 14 = .ok (.istore_n 1, 1) := by decide +kernel
theorem dr0_15 : decode prog_2_method_1_code 15 = .ok (.iload_n 1, 1) := by decide +kernel
theorem dr0_16 : decode prog_2_method_1_code 16 = .ok (.bipush 24, 2) := by decide +kernel
theorem dr0_18 : decode prog_2_method_1_code 18 = .ok (.if_icmp .ge 22, 3) := by decide +kernel
theorem dr0_21 : decode prog_2_method_1_code 21 = .ok (.aload_n 0, 1) := by decide +kernel
theorem dr0_22 : decode prog_2_method_1_code 22 = .ok (.getfield 11, 3) := by decide +kernel
theorem dr0_25 : decode prog_2_method_1_code 25 = .ok (.iload_n 1, 1) := by decide +kernel
theorem dr0_26 : decode prog_2_method_1_code 26 = .ok (.new 9, 3) := by decide +kernel
theorem dr0_29 : decode prog_2_method_1_code 29 = .ok (.dup, 1) := by decide +kernel
theorem dr0_30 : decode prog_2_method_1_code 30 = .ok (.invokespecial 17, 3) := by decide +kernel
theorem dr0_33 : decode prog_2_method_1_code 33 = .ok (.aastore, 1) := by decide +kernel
theorem dr0_34 : decode prog_2_method_1_code 34 = .ok (.iinc 1 1, 3) := by decide +kernel
theorem dr0_37 : decode prog_2_method_1_code 37 = .ok (.goto (-22), 3) := by decide +kernel
theorem dr0_40 : decode prog_2_method_1_code 40 = .ok (.return_, 1) := by decide +kernel
set_option maxHeartbeats 4000000 in
set_option maxRecDepth 100000 in
theorem ci_Acts (l : Launch) (D : va_G) (C : CI4) : MetI l D C (yIN RX0) (.code (yIN RX0) prog_2_method_1_code 2 none) { frames := 2, cells := 145, slots := 1128, locals := 32 } 0 df_0 (wActs C) 145 1128 := by
  intro h0 sz
  refine Met.ofW (cc := prog_2_method_1_code) (maxL := 2) (ret := none) (by decide +kernel) rfl ?_
  intro p e s m args below meth c s₁ B hml hv
  obtain ⟨rfl, hsz, hP, hK, hN⟩ := hv
  have hx := B.exec
  have hb := B.bytes
  have hr := B.returns
  have hts0 := atoms_spec (ws := Cond.code (yIN RX0) prog_2_method_1_code 2 none :: gtb) B.pre
  have hts : ∀ w ∈ gtb, w.before [Value.ref h0].toArray s = true := fun w hw => hts0 w (List.mem_cons_of_mem _ hw)
  have hown : s.vm.findClass (ownS 0) = some m.cls := findClass_of_methodNamed B.named
  have hlocks := B.notSynchronized
  have hin : meth.name = "<init>" := (name_of_methodNamed B.named B.method).1
  subst hsz
  have hD : va_D (va_A [(h0, .inr (0, df_0))] s.heap.size) [(h0, .inr (0, df_0))] := D_nd.mpr ⟨by simp, fun q hq => by rw [List.mem_singleton.mp hq]; exact va_A.in (k := 0) (ws := [(h0, .inr (0, df_0))]) rfl⟩
  generalize hAe : va_A [(h0, .inr (0, df_0))] s.heap.size = A at hD ⊢
  have hA : ∀ q : Nat, s.heap.size ≤ q → A q := fun q h => by rw [← hAe]; exact Or.inr h
  have hS : va_S A s.heap s.heap [] := va_S.rf
  have hl := lv_entry ([.ref h0]) (n := 2) (Nat.le_of_ble_eq_true rfl)
  rw [lg_entry_eq]
  generalize (lg_sl ([.ref h0]) ++ List.replicate (2 - (lg_sl ([.ref h0])).length) Slot.unset).toArray = ls at hl ⊢
  have hl : lv_has ls 2 [(0, .ref h0)] := hl
  refine lv_aload_n hx hb dr0_0 rfl (lv_at hl 0 rfl) ?_
  refine W.objInit hx hb hown (hts _ wm_o0) (hts _ wm_oi) (hts _ wm_oc) rfl (by rw [hml]; exact hl.1) rfl dr0_1 (Nat.le_of_ble_eq_true rfl) (Nat.le_of_ble_eq_true rfl) ?_
  refine W.eq (g2 := F0 m 4 ls []) rfl ?_
  refine lv_aload_n hx hb dr0_4 rfl (lv_at hl 0 rfl) ?_
  refine lv_bipush (v := nI 24) hx hb dr0_5 (by decide) ?_
  refine arr_q (ci := 0) (k := 0) (N := 24) (t0 := 3) (CN := RX3) (cq := C.2.2.2) hx hb hown hts hK hin hP hD hS hA (by omega) (by decide) ⟨rfl, rfl⟩ wf_0_0 (by decide +kernel) (by decide) rfl (by omega) hN.2.2.2.2.2.2 wm_k03 rfl ⟨(Nat.le_of_ble_eq_true rfl), (Nat.le_of_ble_eq_true rfl)⟩ dr0_7 dr0_10 (fun qa H locs hP hD hS => ?_)
  refine lv_iconst (v := nI 0) hx hb dr0_13 (by decide) ?_
  refine lv_istore_n (lv' := [(1, .int (nI 0)), (0, .ref h0)]) hx hb dr0_14 rfl hl (by decide) rfl (fun ls hl => ?_)
  have eN : (fun _ => none : Nat → Option Nat) = rfN (fun _ _ => 0) 6 4 0 := funext (fun j => by unfold rfN; rw [if_neg (by omega)])
  rw [eN] at hP hD
  refine mk_loop (ci := 0) (cj := 3) (kf := 0) (N := 24) (t0 := 3) (h0 := h0) (qa := qa) (kJ := 6) (o := 4) (pH := 15) (pX := 40) (pB := 21) (pl := 2) (idxF := 11) (idxC := 9) (idxM := 17) (mc := 5) (ms := 34) (c0 := 1) (s0 := 24) (fs := [.ref qa, .int 0, .int 0]) (fj := df_3) (cq := C.2.2.2) (wJ := wTown C) (X := []) hx hb hml hown hts hK hN hA (by omega) (by omega) (by decide) rfl rfl wf_0_0 rfl wm_k03 wm_n3 wm_i3 dv_3 (ci_Town l D C) rfl nh_3 hN.2.2.2.2.1 wm_m3 wm_c3 ⟨rfl, rfl, (Nat.le_of_ble_eq_true rfl), (Nat.le_of_ble_eq_true rfl)⟩ (fun q u => ⟨_, _, rfl⟩) (fun q u u' => wTown_c q u u') ⟨(Nat.le_of_ble_eq_true rfl), (Nat.le_of_ble_eq_true rfl)⟩ (by omega) rfl (fun H locs cells slots ls rest k => lv_bipush hx hb dr0_16 (by decide) k) dr0_15 dr0_18 (by decide) dr0_21 dr0_22 dr0_25 dr0_26 dr0_29 dr0_30 dr0_33 dr0_34 dr0_37 (by decide) (fun a H locs ls hl hP hD hS => ?_) 24 0 _ H locs ls (by omega) hl hP hD hS
  refine W.widen (k := 145) (n := 1128) (Nat.le_of_ble_eq_true rfl) (Nat.le_of_ble_eq_true rfl) ?_
  refine W.vret hx hb hr (fun t ht hW => ⟨⟨fun k i => if k = 14 then qa else a k i, rfl, trivial, ?_⟩, hS.F ht⟩) hS.2.2 dr0_40
  have e : wActs C h0 (fun k i => if k = 14 then qa else a k i) = (h0, .inr (0, [.ref qa, .int 0, .int 0])) :: (qa, rfs (fun j => some (a 6 (4 + j))) C.2.2.2 24) :: ([] ++ ldL (wTown C) 6 4 a 24) := by
    unfold wActs
    rw [ldTown_c 24 (a := fun k i => if k = 14 then qa else a k i) (b := a) (fun t _ k hk => if_neg (by omega))]
    rfl
  show va_P D vwCl (wActs C h0 (fun k i => if k = 14 then qa else a k i)) t.heap ∧ va_D A (wActs C h0 (fun k i => if k = 14 then qa else a k i))
  rw [e, ht]
  exact ⟨hP, hD⟩
