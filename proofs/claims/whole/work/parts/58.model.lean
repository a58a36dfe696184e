/-! THE REFERENCE IS MADE -/
theorem dr5_0 : decode prog_7_method_1_code 0 = .ok (.aload_n 0, 1) := by decide +kernel
theorem dr5_1 : decode prog_7_method_1_code 1 = .ok (.invokespecial 1, 3) := by decide +kernel
theorem dr5_4 : decode prog_7_method_1_code 4 = .ok (.aload_n 0, 1) := by decide +kernel
theorem dr5_5 : decode prog_7_method_1_code 5 = .ok (.bipush 8, 2) := by decide +kernel
theorem dr5_7 : decode prog_7_method_1_code 7 = .ok (.newarray .int, 2) := by decide +kernel
theorem dr5_9 : decode prog_7_method_1_code 9 = .ok (.putfield 7, 3) := by decide +kernel
theorem dr5_12 : decode prog_7_method_1_code 12 = .ok (.aload_n 0, 1) := by decide +kernel
theorem dr5_13 : decode prog_7_method_1_code 13 = .ok (.bipush 8, 2) := by decide +kernel
theorem dr5_15 : decode prog_7_method_1_code 15 = .ok (.newarray .int, 2) := by decide +kernel
theorem dr5_17 : decode prog_7_method_1_code 17 = .ok (.putfield 13, 3) := by decide +kernel
theorem dr5_20 : decode prog_7_method_1_code 20 = .ok (.aload_n 0, 1) := by decide +kernel
theorem dr5_21 : decode prog_7_method_1_code 21 = .ok (.sipush 320, 3) := by decide +kernel
theorem dr5_24 : decode prog_7_method_1_code 24 = .ok (.newarray .int, 2) := by decide +kernel
theorem dr5_26 : decode prog_7_method_1_code 26 = .ok (.putfield 16, 3) := by decide +kernel
theorem dr5_29 : decode prog_7_method_1_code 29 = .ok (.aload_n 0, 1) := by decide +kernel
theorem dr5_30 : decode prog_7_method_1_code 30 = .ok (.bipush 40, 2) := by decide +kernel
theorem dr5_32 : decode prog_7_method_1_code 32 = .ok (.newarray .int, 2) := by decide +kernel
theorem dr5_34 : decode prog_7_method_1_code 34 = .ok (.putfield 19, 3) := by decide +kernel
theorem dr5_37 : decode prog_7_method_1_code 37 = .ok (.aload_n 0, 1) := by decide +kernel
theorem dr5_38 : decode prog_7_method_1_code 38 = .ok (.bipush 90, 2) := by decide +kernel
theorem dr5_40 : decode prog_7_method_1_code 40 = .ok (.newarray .int, 2) := by decide +kernel
theorem dr5_42 : decode prog_7_method_1_code 42 = .ok (.putfield 22, 3) := by decide +kernel
theorem dr5_45 : decode prog_7_method_1_code 45 = .ok (.aload_n 0, 1) := by decide +kernel
theorem dr5_46 : decode prog_7_method_1_code 46 = .ok (.bipush 45, 2) := by decide +kernel
theorem dr5_48 : decode prog_7_method_1_code 48 = .ok (.newarray .int, 2) := by decide +kernel
theorem dr5_50 : decode prog_7_method_1_code 50 = .ok (.putfield 25, 3) := by decide +kernel
theorem dr5_53 : decode prog_7_method_1_code 53 = .ok (.aload_n 0, 1) := by decide +kernel
theorem dr5_54 : decode prog_7_method_1_code 54 = .ok (.bipush 45, 2) := by decide +kernel
theorem dr5_56 : decode prog_7_method_1_code 56 = .ok (.newarray .int, 2) := by decide +kernel
theorem dr5_58 : decode prog_7_method_1_code 58 = .ok (.putfield 28, 3) := by decide +kernel
theorem dr5_61 : decode prog_7_method_1_code 61 = .ok (.aload_n 0, 1) := by decide +kernel
theorem dr5_62 : decode prog_7_method_1_code 62 = .ok (.bipush 45, 2) := by decide +kernel
theorem dr5_64 : decode prog_7_method_1_code 64 = .ok (.newarray .int, 2) := by decide +kernel
theorem dr5_66 : decode prog_7_method_1_code 66 = .ok (.putfield 31, 3) := by decide +kernel
theorem dr5_69 : decode prog_7_method_1_code 69 = .ok (.aload_n 0, 1) := by decide +kernel
theorem dr5_70 : decode prog_7_method_1_code 70 = .ok (.sipush 1080, 3) := by decide +kernel
theorem dr5_73 : decode prog_7_method_1_code 73 = .ok (.newarray .int, 2) := by decide +kernel
theorem dr5_75 : decode prog_7_method_1_code 75 = .ok (.putfield 34, 3) := by decide +kernel
theorem dr5_78 : decode prog_7_method_1_code 78 = .ok (.aload_n 0, 1) := by decide +kernel
theorem dr5_79 : decode prog_7_method_1_code 79 = .ok (.bipush 90, 2) := by decide +kernel
theorem dr5_81 : decode prog_7_method_1_code 81 = .ok (.newarray .int, 2) := by decide +kernel
theorem dr5_83 : decode prog_7_method_1_code 83 = .ok (.putfield 37, 3) := by decide +kernel
theorem dr5_86 : decode prog_7_method_1_code 86 = .ok (.aload_n 0, 1) := by decide +kernel
theorem dr5_87 : decode prog_7_method_1_code 87 = .ok (.iconst 2, 1) := by decide +kernel
theorem dr5_88 : decode prog_7_method_1_code 88 = .ok (.newarray .boolean, 2) := by decide +kernel
theorem dr5_90 : decode prog_7_method_1_code 90 = .ok (.putfield 40, 3) := by decide +kernel
theorem dr5_93 : decode prog_7_method_1_code 93 = .ok (.aload_n 0, 1) := by decide +kernel
theorem dr5_94 : decode prog_7_method_1_code 94 = .ok (.bipush 8, 2) := by decide +kernel
theorem dr5_96 : decode prog_7_method_1_code 96 = .ok (.newarray .int, 2) := by decide +kernel
theorem dr5_98 : decode prog_7_method_1_code 98 = .ok (.putfield 44, 3) := by decide +kernel
theorem dr5_101 : decode prog_7_method_1_code 101 = .ok (.aload_n 0, 1) := by decide +kernel
theorem dr5_102 : decode prog_7_method_1_code 102 = .ok (.bipush 16, 2) := by decide +kernel
theorem dr5_104 : decode prog_7_method_1_code 104 = .ok (.newarray .int, 2) := by decide +kernel
theorem dr5_106 : decode prog_7_method_1_code 106 = .ok (.putfield 47, 3) := by decide +kernel
theorem dr5_109 : decode prog_7_method_1_code 109 = .ok (.iconst 0, 1) := by decide +kernel
theorem dr5_110 : decode prog_7_method_1_code 110 = .ok (.istore_n 1, 1) := by decide +kernel
theorem dr5_111 : decode prog_7_method_1_code 111 = .ok (.iload_n 1, 1) := by decide +kernel
theorem dr5_112 : decode prog_7_method_1_code 112 = .ok (.bipush 8, 2) := by decide +kernel
theorem dr5_114 : decode prog_7_method_1_code 114 = .ok (.if_icmp .ge 17, 3) := by decide +kernel
theorem dr5_117 : decode prog_7_method_1_code 117 = .ok (.aload_n 0, 1) := by decide +kernel
theorem dr5_118 : decode prog_7_method_1_code 118 = .ok (.getfield 7, 3) := by decide +kernel
theorem dr5_121 : decode prog_7_method_1_code 121 = .ok (.iload_n 1, 1) := by decide +kernel
theorem dr5_122 : decode prog_7_method_1_code 122 = .ok (.ldc 50, 2) := by decide +kernel
theorem dr5_124 : decode prog_7_method_1_code 124 = .ok (.iastore, 1) := by decide +kernel
theorem dr5_125 : decode prog_7_method_1_code 125 = .ok (.iinc 1 1, 3) := by decide +kernel
theorem dr5_128 : decode prog_7_method_1_code 128 = .ok (.goto (-17), 3) := by decide +kernel
theorem dr5_131 : decode prog_7_method_1_code 131 = .ok (.return_, 1) := by decide +kernel
set_option maxHeartbeats 2000000 in
/-- the reference's lanes -/
theorem ln_loop {p : Program} {l : Launch} {e : Env} {R : Room} {s : State} {m : MethodId} {args : Array Value} {below : List Frame} {meth : Method} {c : Code} {Qw : State → Prop} {D : va_G} {C : CI4} {A : Nat → Prop} {cells slots h0 qa : Nat} {fs : List Value} {X : va_W}
    (hx : p.tables.exec = Jvm.exec) (hb : c.code = prog_7_method_1_code) (hown : s.vm.findClass (ownS 5) = some m.cls) (hts : ∀ w ∈ gtb, w.before args s = true) (hK : va_K D vwCl (tysC C) s) (hfs : fs[0]? = some (.ref qa))
    (kE : ∀ (H : Heap) (locs : List Loc) (ls : Array Slot), va_P D vwCl ((h0, .inr (5, fs)) :: (qa, .inl (C.1, 8, .inl (fun j => if j < 8 then -1000000 else 0))) :: X) H → va_D A ((h0, .inr (5, fs)) :: (qa, .inl (C.1, 8, .inl (fun j => if j < 8 then -1000000 else 0))) :: X) → va_S A s.heap H locs → W p l e R s m args below meth c H locs cells slots Qw (F0 m 131 ls [])) :
    ∀ (r n : Nat) (H : Heap) (locs : List Loc) (ls : Array Slot), n + r = 8 → lv_has ls 2 [(1, .int (nI n)), (0, .ref h0)] → va_P D vwCl ((h0, .inr (5, fs)) :: (qa, .inl (C.1, 8, .inl (fun j => if j < n then -1000000 else 0))) :: X) H → va_D A ((h0, .inr (5, fs)) :: (qa, .inl (C.1, 8, .inl (fun j => if j < n then -1000000 else 0))) :: X) → va_S A s.heap H locs → W p l e R s m args below meth c H locs cells slots Qw (F0 m 111 ls []) := by
  intro r
  induction r with
  | zero =>
    intro n H locs ls en hl hP hD hS
    have en : n = 8 := by omega
    subst en
    exact lv_iload_n hx hb dr5_111 rfl (lv_at hl 0 rfl) (lv_bipush (v := nI 8) hx hb dr5_112 (by decide) (lv_icmp_ge (tgt := 131) hx hb dr5_114 (by decide) (fun _ => kE H locs ls hP hD hS) (fun z => absurd (Int32.le_refl _) z)))
  | succ r ih =>
    intro n H locs ls en hl hP hD hS
    refine lv_iload_n hx hb dr5_111 rfl (lv_at hl 0 rfl) (lv_bipush (v := nI 8) hx hb dr5_112 (by decide) (lv_icmp_ge (tgt := 131) hx hb dr5_114 (by decide) (fun z => absurd ((nle (by omega) (by omega)).mp z) (by omega)) (fun _ => ?_)))
    refine lv_aload_n hx hb dr5_117 rfl (lv_at hl 1 rfl) ?_
    refine va_get (ci := 5) (v := .ref qa) (C := ownS 5) (T := clsT 5) (N := clsN 5) hx hb hts (cl_ws 5 (by omega)) hown hK hP 0 rfl (cl_get 5 (by omega)) 0 (by decide) (hts _ wf_5_0) (fun _ h => h) hfs dr5_118 ?_
    refine lv_iload_n hx hb dr5_121 rfl (lv_at hl 0 rfl) ?_
    refine lv_ldc hx hb hown (hts _ wm_k5) dr5_122 ?_
    refine va_iast hx hb hK hP hD hS 1 0 rfl rfl (vin_i (by omega) (by omega)) dr5_124 (fun H1 locs1 hP hD hS => ?_)
    rw [ncl (by omega)] at hP hD
    have e : upd (fun j => if j < n then (-1000000 : Int32) else 0) n (-1000000) = fun j => if j < n + 1 then -1000000 else 0 := by
      funext j
      by_cases z : j = n
      · subst z
        rw [pk_us, if_pos (by omega)]
      · rw [pk_un z]
        by_cases y : j < n
        · rw [if_pos y, if_pos (by omega)]
        · rw [if_neg y, if_neg (by omega)]
    rw [e] at hP hD
    refine lv_iinc (lv' := [(1, .int (nI (n + 1))), (0, .ref h0)]) (k := 0) hx hb dr5_125 hl rfl (nI_1 n) (by decide) rfl (fun ls hl => ?_)
    refine lv_goto (tgt := 111) hx hb dr5_128 (by decide) ?_
    exact ih (n + 1) H1 locs1 ls (by omega) hl hP hD hS
set_option maxHeartbeats 4000000 in
set_option maxRecDepth 100000 in
theorem ci_Model (l : Launch) (D : va_G) (C : CI4) : MetI l D C (yIN RX5) (.code (yIN RX5) prog_7_method_1_code 2 none) { frames := 1, cells := 13, slots := 1797, locals := 12 } 5 df_5 (wModel C) 13 1797 := by
  intro h0 sz
  refine Met.ofW (cc := prog_7_method_1_code) (maxL := 2) (ret := none) (by decide +kernel) rfl ?_
  intro p e s m args below meth c s₁ B hml hv
  obtain ⟨rfl, hsz, hP, hK, hN⟩ := hv
  have hx := B.exec
  have hb := B.bytes
  have hr := B.returns
  have hts0 := atoms_spec (ws := Cond.code (yIN RX5) prog_7_method_1_code 2 none :: gtb) B.pre
  have hts : ∀ w ∈ gtb, w.before [Value.ref h0].toArray s = true := fun w hw => hts0 w (List.mem_cons_of_mem _ hw)
  have hown : s.vm.findClass (ownS 5) = some m.cls := findClass_of_methodNamed B.named
  have hlocks := B.notSynchronized
  have hin : meth.name = "<init>" := (name_of_methodNamed B.named B.method).1
  subst hsz
  have hD : va_D (va_A [(h0, .inr (5, df_5))] s.heap.size) [(h0, .inr (5, df_5))] := D_nd.mpr ⟨by simp, fun q hq => by rw [List.mem_singleton.mp hq]; exact va_A.in (k := 0) (ws := [(h0, .inr (5, df_5))]) rfl⟩
  generalize hAe : va_A [(h0, .inr (5, df_5))] s.heap.size = A at hD ⊢
  have hA : ∀ q : Nat, s.heap.size ≤ q → A q := fun q h => by rw [← hAe]; exact Or.inr h
  have hS : va_S A s.heap s.heap [] := va_S.rf
  have hl := lv_entry ([.ref h0]) (n := 2) (Nat.le_of_ble_eq_true rfl)
  rw [lg_entry_eq]
  generalize (lg_sl ([.ref h0]) ++ List.replicate (2 - (lg_sl ([.ref h0])).length) Slot.unset).toArray = ls at hl ⊢
  have hl : lv_has ls 2 [(0, .ref h0)] := hl
  refine lv_aload_n hx hb dr5_0 rfl (lv_at hl 0 rfl) ?_
  refine W.objInit hx hb hown (hts _ wm_o5) (hts _ wm_oi) (hts _ wm_oc) rfl (by rw [hml]; exact hl.1) rfl dr5_1 (Nat.le_of_ble_eq_true rfl) (Nat.le_of_ble_eq_true rfl) ?_
  refine W.eq (g2 := F0 m 4 ls []) rfl ?_
  refine lv_aload_n hx hb dr5_4 rfl (lv_at hl 0 rfl) ?_
  refine lv_bipush (v := nI 8) hx hb dr5_5 (by decide) ?_
  refine arr_f (ci := 5) (k := 0) (N := 8) hx hb hown hts hK hin hP hD hS hA (by omega) (by decide) ⟨rfl, rfl⟩ wf_5_0 (by decide +kernel) (Nat.le_of_ble_eq_true rfl) rfl (by omega) wm_ai ⟨(Nat.le_of_ble_eq_true rfl), (Nat.le_of_ble_eq_true rfl)⟩ dr5_7 dr5_9 (fun q17_0 H locs hP hD hS => ?_)
  refine lv_aload_n hx hb dr5_12 rfl (lv_at hl 0 rfl) ?_
  refine lv_bipush (v := nI 8) hx hb dr5_13 (by decide) ?_
  refine arr_f (ci := 5) (k := 1) (N := 8) hx hb hown hts hK hin hP hD hS hA (by omega) (by decide) ⟨rfl, rfl⟩ wf_5_1 (by decide +kernel) (Nat.le_of_ble_eq_true rfl) rfl (by omega) wm_ai ⟨(Nat.le_of_ble_eq_true rfl), (Nat.le_of_ble_eq_true rfl)⟩ dr5_15 dr5_17 (fun q18_0 H locs hP hD hS => ?_)
  refine lv_aload_n hx hb dr5_20 rfl (lv_at hl 0 rfl) ?_
  refine lv_sipush (v := nI 320) hx hb dr5_21 (by decide) ?_
  refine arr_f (ci := 5) (k := 2) (N := 320) hx hb hown hts hK hin hP hD hS hA (by omega) (by decide) ⟨rfl, rfl⟩ wf_5_2 (by decide +kernel) (Nat.le_of_ble_eq_true rfl) rfl (by omega) wm_ai ⟨(Nat.le_of_ble_eq_true rfl), (Nat.le_of_ble_eq_true rfl)⟩ dr5_24 dr5_26 (fun q19_0 H locs hP hD hS => ?_)
  refine lv_aload_n hx hb dr5_29 rfl (lv_at hl 0 rfl) ?_
  refine lv_bipush (v := nI 40) hx hb dr5_30 (by decide) ?_
  refine arr_f (ci := 5) (k := 3) (N := 40) hx hb hown hts hK hin hP hD hS hA (by omega) (by decide) ⟨rfl, rfl⟩ wf_5_3 (by decide +kernel) (Nat.le_of_ble_eq_true rfl) rfl (by omega) wm_ai ⟨(Nat.le_of_ble_eq_true rfl), (Nat.le_of_ble_eq_true rfl)⟩ dr5_32 dr5_34 (fun q20_0 H locs hP hD hS => ?_)
  refine lv_aload_n hx hb dr5_37 rfl (lv_at hl 0 rfl) ?_
  refine lv_bipush (v := nI 90) hx hb dr5_38 (by decide) ?_
  refine arr_f (ci := 5) (k := 5) (N := 90) hx hb hown hts hK hin hP hD hS hA (by omega) (by decide) ⟨rfl, rfl⟩ wf_5_5 (by decide +kernel) (Nat.le_of_ble_eq_true rfl) rfl (by omega) wm_ai ⟨(Nat.le_of_ble_eq_true rfl), (Nat.le_of_ble_eq_true rfl)⟩ dr5_40 dr5_42 (fun q21_0 H locs hP hD hS => ?_)
  refine lv_aload_n hx hb dr5_45 rfl (lv_at hl 0 rfl) ?_
  refine lv_bipush (v := nI 45) hx hb dr5_46 (by decide) ?_
  refine arr_f (ci := 5) (k := 14) (N := 45) hx hb hown hts hK hin hP hD hS hA (by omega) (by decide) ⟨rfl, rfl⟩ wf_5_14 (by decide +kernel) (Nat.le_of_ble_eq_true rfl) rfl (by omega) wm_ai ⟨(Nat.le_of_ble_eq_true rfl), (Nat.le_of_ble_eq_true rfl)⟩ dr5_48 dr5_50 (fun q22_0 H locs hP hD hS => ?_)
  refine lv_aload_n hx hb dr5_53 rfl (lv_at hl 0 rfl) ?_
  refine lv_bipush (v := nI 45) hx hb dr5_54 (by decide) ?_
  refine arr_f (ci := 5) (k := 15) (N := 45) hx hb hown hts hK hin hP hD hS hA (by omega) (by decide) ⟨rfl, rfl⟩ wf_5_15 (by decide +kernel) (Nat.le_of_ble_eq_true rfl) rfl (by omega) wm_ai ⟨(Nat.le_of_ble_eq_true rfl), (Nat.le_of_ble_eq_true rfl)⟩ dr5_56 dr5_58 (fun q22_1 H locs hP hD hS => ?_)
  refine lv_aload_n hx hb dr5_61 rfl (lv_at hl 0 rfl) ?_
  refine lv_bipush (v := nI 45) hx hb dr5_62 (by decide) ?_
  refine arr_f (ci := 5) (k := 16) (N := 45) hx hb hown hts hK hin hP hD hS hA (by omega) (by decide) ⟨rfl, rfl⟩ wf_5_16 (by decide +kernel) (Nat.le_of_ble_eq_true rfl) rfl (by omega) wm_ai ⟨(Nat.le_of_ble_eq_true rfl), (Nat.le_of_ble_eq_true rfl)⟩ dr5_64 dr5_66 (fun q22_2 H locs hP hD hS => ?_)
  refine lv_aload_n hx hb dr5_69 rfl (lv_at hl 0 rfl) ?_
  refine lv_sipush (v := nI 1080) hx hb dr5_70 (by decide) ?_
  refine arr_f (ci := 5) (k := 17) (N := 1080) hx hb hown hts hK hin hP hD hS hA (by omega) (by decide) ⟨rfl, rfl⟩ wf_5_17 (by decide +kernel) (Nat.le_of_ble_eq_true rfl) rfl (by omega) wm_ai ⟨(Nat.le_of_ble_eq_true rfl), (Nat.le_of_ble_eq_true rfl)⟩ dr5_73 dr5_75 (fun q25_0 H locs hP hD hS => ?_)
  refine lv_aload_n hx hb dr5_78 rfl (lv_at hl 0 rfl) ?_
  refine lv_bipush (v := nI 90) hx hb dr5_79 (by decide) ?_
  refine arr_f (ci := 5) (k := 19) (N := 90) hx hb hown hts hK hin hP hD hS hA (by omega) (by decide) ⟨rfl, rfl⟩ wf_5_19 (by decide +kernel) (Nat.le_of_ble_eq_true rfl) rfl (by omega) wm_ai ⟨(Nat.le_of_ble_eq_true rfl), (Nat.le_of_ble_eq_true rfl)⟩ dr5_81 dr5_83 (fun q26_0 H locs hP hD hS => ?_)
  refine lv_aload_n hx hb dr5_86 rfl (lv_at hl 0 rfl) ?_
  refine lv_iconst (v := nI 2) hx hb dr5_87 (by decide) ?_
  refine arr_z (ci := 5) (k := 20) (N := 2) hx hb hown hts hK hin hP hD hS hA (by omega) (by decide) ⟨rfl, rfl⟩ wf_5_20 (by decide +kernel) (Nat.le_of_ble_eq_true rfl) rfl (by omega) wm_az ⟨(Nat.le_of_ble_eq_true rfl), (Nat.le_of_ble_eq_true rfl)⟩ dr5_88 dr5_90 (fun q27_0 H locs hP hD hS => ?_)
  refine lv_aload_n hx hb dr5_93 rfl (lv_at hl 0 rfl) ?_
  refine lv_bipush (v := nI 8) hx hb dr5_94 (by decide) ?_
  refine arr_f (ci := 5) (k := 21) (N := 8) hx hb hown hts hK hin hP hD hS hA (by omega) (by decide) ⟨rfl, rfl⟩ wf_5_21 (by decide +kernel) (Nat.le_of_ble_eq_true rfl) rfl (by omega) wm_ai ⟨(Nat.le_of_ble_eq_true rfl), (Nat.le_of_ble_eq_true rfl)⟩ dr5_96 dr5_98 (fun q28_0 H locs hP hD hS => ?_)
  refine lv_aload_n hx hb dr5_101 rfl (lv_at hl 0 rfl) ?_
  refine lv_bipush (v := nI 16) hx hb dr5_102 (by decide) ?_
  refine arr_f (ci := 5) (k := 22) (N := 16) hx hb hown hts hK hin hP hD hS hA (by omega) (by decide) ⟨rfl, rfl⟩ wf_5_22 (by decide +kernel) (Nat.le_of_ble_eq_true rfl) rfl (by omega) wm_ai ⟨(Nat.le_of_ble_eq_true rfl), (Nat.le_of_ble_eq_true rfl)⟩ dr5_104 dr5_106 (fun q29_0 H locs hP hD hS => ?_)
  have e0 : (fun _ => 0 : Nat → Int32) = fun j => if j < 0 then -1000000 else 0 := funext (fun j => by rw [if_neg (by omega)])
  have hP : va_P D vwCl ((h0, .inr (5, [.ref q17_0, .ref q18_0, .ref q19_0, .ref q20_0, .int 0, .ref q21_0, .int 0, .int 0, .int 0, .int 0, .int 0, .int 0, .int 0, .int 0, .ref q22_0, .ref q22_1, .ref q22_2, .ref q25_0, .int 0, .ref q26_0, .ref q27_0, .ref q28_0, .ref q29_0, .int 0])) :: (q17_0, .inl (C.1, 8, .inl (fun _ => 0))) :: [(q18_0, .inl (C.1, 8, .inl (fun _ => 0))), (q19_0, .inl (C.1, 320, .inl (fun _ => 0))), (q20_0, .inl (C.1, 40, .inl (fun _ => 0))), (q21_0, .inl (C.1, 90, .inl (fun _ => 0))), (q22_0, .inl (C.1, 45, .inl (fun _ => 0))), (q22_1, .inl (C.1, 45, .inl (fun _ => 0))), (q22_2, .inl (C.1, 45, .inl (fun _ => 0))), (q25_0, .inl (C.1, 1080, .inl (fun _ => 0))), (q26_0, .inl (C.1, 90, .inl (fun _ => 0))), (q27_0, .inl (C.2.1, 2, .inl (fun _ => 0))), (q28_0, .inl (C.1, 8, .inl (fun _ => 0))), (q29_0, .inl (C.1, 16, .inl (fun _ => 0)))]) H := hP
  have hD : va_D A ((h0, .inr (5, [.ref q17_0, .ref q18_0, .ref q19_0, .ref q20_0, .int 0, .ref q21_0, .int 0, .int 0, .int 0, .int 0, .int 0, .int 0, .int 0, .int 0, .ref q22_0, .ref q22_1, .ref q22_2, .ref q25_0, .int 0, .ref q26_0, .ref q27_0, .ref q28_0, .ref q29_0, .int 0])) :: (q17_0, .inl (C.1, 8, .inl (fun _ => 0))) :: [(q18_0, .inl (C.1, 8, .inl (fun _ => 0))), (q19_0, .inl (C.1, 320, .inl (fun _ => 0))), (q20_0, .inl (C.1, 40, .inl (fun _ => 0))), (q21_0, .inl (C.1, 90, .inl (fun _ => 0))), (q22_0, .inl (C.1, 45, .inl (fun _ => 0))), (q22_1, .inl (C.1, 45, .inl (fun _ => 0))), (q22_2, .inl (C.1, 45, .inl (fun _ => 0))), (q25_0, .inl (C.1, 1080, .inl (fun _ => 0))), (q26_0, .inl (C.1, 90, .inl (fun _ => 0))), (q27_0, .inl (C.2.1, 2, .inl (fun _ => 0))), (q28_0, .inl (C.1, 8, .inl (fun _ => 0))), (q29_0, .inl (C.1, 16, .inl (fun _ => 0)))]) := hD
  have hP : va_P D vwCl ((h0, .inr (5, [.ref q17_0, .ref q18_0, .ref q19_0, .ref q20_0, .int 0, .ref q21_0, .int 0, .int 0, .int 0, .int 0, .int 0, .int 0, .int 0, .int 0, .ref q22_0, .ref q22_1, .ref q22_2, .ref q25_0, .int 0, .ref q26_0, .ref q27_0, .ref q28_0, .ref q29_0, .int 0])) :: (q17_0, .inl (C.1, 8, .inl (fun j => if j < 0 then -1000000 else 0))) :: [(q18_0, .inl (C.1, 8, .inl (fun _ => 0))), (q19_0, .inl (C.1, 320, .inl (fun _ => 0))), (q20_0, .inl (C.1, 40, .inl (fun _ => 0))), (q21_0, .inl (C.1, 90, .inl (fun _ => 0))), (q22_0, .inl (C.1, 45, .inl (fun _ => 0))), (q22_1, .inl (C.1, 45, .inl (fun _ => 0))), (q22_2, .inl (C.1, 45, .inl (fun _ => 0))), (q25_0, .inl (C.1, 1080, .inl (fun _ => 0))), (q26_0, .inl (C.1, 90, .inl (fun _ => 0))), (q27_0, .inl (C.2.1, 2, .inl (fun _ => 0))), (q28_0, .inl (C.1, 8, .inl (fun _ => 0))), (q29_0, .inl (C.1, 16, .inl (fun _ => 0)))]) H := by rw [← e0]; exact hP
  have hD : va_D A ((h0, .inr (5, [.ref q17_0, .ref q18_0, .ref q19_0, .ref q20_0, .int 0, .ref q21_0, .int 0, .int 0, .int 0, .int 0, .int 0, .int 0, .int 0, .int 0, .ref q22_0, .ref q22_1, .ref q22_2, .ref q25_0, .int 0, .ref q26_0, .ref q27_0, .ref q28_0, .ref q29_0, .int 0])) :: (q17_0, .inl (C.1, 8, .inl (fun j => if j < 0 then -1000000 else 0))) :: [(q18_0, .inl (C.1, 8, .inl (fun _ => 0))), (q19_0, .inl (C.1, 320, .inl (fun _ => 0))), (q20_0, .inl (C.1, 40, .inl (fun _ => 0))), (q21_0, .inl (C.1, 90, .inl (fun _ => 0))), (q22_0, .inl (C.1, 45, .inl (fun _ => 0))), (q22_1, .inl (C.1, 45, .inl (fun _ => 0))), (q22_2, .inl (C.1, 45, .inl (fun _ => 0))), (q25_0, .inl (C.1, 1080, .inl (fun _ => 0))), (q26_0, .inl (C.1, 90, .inl (fun _ => 0))), (q27_0, .inl (C.2.1, 2, .inl (fun _ => 0))), (q28_0, .inl (C.1, 8, .inl (fun _ => 0))), (q29_0, .inl (C.1, 16, .inl (fun _ => 0)))]) := by rw [← e0]; exact hD
  refine lv_iconst (v := nI 0) hx hb dr5_109 (by decide) ?_
  refine lv_istore_n (lv' := [(1, .int (nI 0)), (0, .ref h0)]) hx hb dr5_110 rfl hl (by decide) rfl (fun ls hl => ?_)
  refine W.widen (k := 13) (n := 1797) (Nat.le_of_ble_eq_true rfl) (Nat.le_of_ble_eq_true rfl) ?_
  refine ln_loop (h0 := h0) (qa := q17_0) hx hb hown hts hK rfl (fun H locs ls hP hD hS => ?_) 8 0 H locs ls (by omega) hl hP hD hS
  refine W.vret hx hb hr (fun t ht hW => ⟨⟨fun k i => match k with
    | 17 => q17_0
    | 18 => q18_0
    | 19 => q19_0
    | 20 => q20_0
    | 21 => q21_0
    | 22 => (match i with
      | 0 => q22_0
      | 1 => q22_1
      | _ => q22_2)
    | 25 => q25_0
    | 26 => q26_0
    | 27 => q27_0
    | 28 => q28_0
    | _ => q29_0, rfl, trivial, ?_⟩, hS.F ht⟩) hS.2.2 dr5_131
  rw [← ht] at hP
  exact ⟨hP, hD⟩
