/-! THE CLAIM OUT OF ONE WALK OF THE LAW'S BODY. Your part is whole_start (and what it stands on); all else here is the same for every law, but numbers. -/
def R_law : String := "FootLightsLaw"
def lw_P (b : Addr) (xs : List Int32) (args : Array Value) (s : State) : Prop := args = #[.ref b] ∧ s.IntsAt b xs ∧ xs.length ≤ 384 ∧ (Jvm.Cond.and given_1 narrow_1).before args s = true
def lw_Q (_ : Array Value) (s : State) (o : Outcome) (t : State) : Prop := o = .returned (some (.int 1)) ∧ Framed s o t [] 600000 7302250
def lw_Z (below : List Frame) (a : Array Value) (s : State) : State → Prop := fun t => ∃ o, t.status = .running ∧ Ended t below o ∧ lw_Q a s o t
/-- the law's own end, with 1 on the stack, nothing written that was there before, its room as the claim has it -/
theorem lw_ret {p : Program} {l : Launch} {e : Env} {s : State} {m : MethodId} {below : List Frame} {meth : Method} {c : Code} {b : Nat} (hx : p.tables.exec = Jvm.exec) (hb : c.code = code) (hr : meth.sig.returnType = ret) (hlocks : meth.locks = false) {pc : Nat} {H : Heap} {ls : Array Slot} (hdg : decode code pc = .ok (.ireturn, 1)) : W p l e room_1 s m #[Value.ref b] below meth c H [] 600000 7302250 (lw_Z below #[Value.ref b] s) (F0 m pc ls [.int 1]) := by
  intro T hT X
  obtain ⟨fs, hret, hrun, hended, hW, hframe⟩ := X.leave (v := some (.int 1)) (hlocks := hlocks) (fun h => by rw [hr] at h; cases h)
  have hmeth' : T.vm.method? m = some meth := X.method'
  refine ⟨T.setFrames fs, ?_, .returned (some (.int 1)), hrun, hended, rfl, ⟨_, rfl⟩, hW, hframe⟩
  jvm_step X.here [X.here.top, hx, hb, hdg, hmeth', hr, ret, narrow_b1]
  (try refine ⟨rfl, ?_⟩); (try refine ⟨rfl, ?_⟩)
  first | (intro acts; rw [hret _ acts rfl rfl rfl]) | rw [hret _ _ rfl rfl rfl]
  exact Steps.refl _
/-- what holds at the law's entry: the machine, the code, the tables' words (any of lw_tbl by 'hts w (by decide +kernel)'), the script of L ints xs at the cell b, what the Statement gives of the start (any of its parts by flat_of_before) -/
def lw_At (p : Program) (s : State) (m : MethodId) (meth : Method) (c : Code) (b L : Nat) (xs : Nat → Int32) : Prop :=
  p.tables.exec = Jvm.exec ∧ c.code = code ∧ meth.sig.returnType = ret ∧ c.maxLocals = 4 ∧ s.vm.findClass R_law = some m.cls ∧ (∀ w ∈ lw_tbl, w.before #[Value.ref b] s = true) ∧ va_X b L xs s s.heap ∧ b < s.heap.size ∧ meth.locks = false ∧ (Jvm.Cond.and given_1 narrow_1).before #[Value.ref b] s = true
theorem consF_16 : ∀ q ∈ consF, q.1 < 16 := by decide +kernel
theorem consM_30 : ∀ q ∈ consM, 16 ≤ q.1 ∧ q.1 < 30 := by decide +kernel
theorem cons_p : (consF ++ consM).Perm cellsL := by decide +kernel
/-- all addresses -/
def adA (b qx qm : Nat) (st : Nat → Nat) (ux um : Nat → Nat → Nat) (k i : Nat) : Nat := bif Nat.blt k 16 then adF qx ux k i else bif Nat.blt k 30 then adM qm um k i else bif Nat.beq k 33 then b else st k
def cellA (C : CI4) (S : Mem) (ad : Nat → Nat → Nat) (q : Nat × Nat) : Nat × va_E := (ad q.1 q.2, entW ad C q.1 q.2 (M0S S q.1 q.2))
theorem cellA_F {C : CI4} {S : Mem} {b qx qm : Nat} {st : Nat → Nat} {ux um : Nat → Nat → Nat} {k i : Nat} (h : k < 16) : cellF C (adF qx ux) (k, i) = cellA C S (adA b qx qm st ux um) (k, i) := by
  rcases (by omega : k = 0 ∨ k = 1 ∨ k = 2 ∨ k = 3 ∨ k = 4 ∨ k = 5 ∨ k = 6 ∨ k = 7 ∨ k = 8 ∨ k = 9 ∨ k = 10 ∨ k = 11 ∨ k = 12 ∨ k = 13 ∨ k = 14 ∨ k = 15) with rfl | rfl | rfl | rfl | rfl | rfl | rfl | rfl | rfl | rfl | rfl | rfl | rfl | rfl | rfl | rfl <;> rfl
theorem cellA_M {C : CI4} {S : Mem} {b qx qm : Nat} {st : Nat → Nat} {ux um : Nat → Nat → Nat} {k i : Nat} (h : 16 ≤ k ∧ k < 30) : cellF C (adM qm um) (k, i) = cellA C S (adA b qx qm st ux um) (k, i) := by
  rcases (by omega : k = 16 ∨ k = 17 ∨ k = 18 ∨ k = 19 ∨ k = 20 ∨ k = 21 ∨ k = 22 ∨ k = 23 ∨ k = 24 ∨ k = 25 ∨ k = 26 ∨ k = 27 ∨ k = 28 ∨ k = 29) with rfl | rfl | rfl | rfl | rfl | rfl | rfl | rfl | rfl | rfl | rfl | rfl | rfl | rfl <;> rfl
theorem ws_0 {C : CI4} {S : Mem} {b qx qm : Nat} {st : Nat → Nat} {ux um : Nat → Nat → Nat} : (wFoot C qx ux ++ wModel C qm um).Perm (wsOf (adA b qx qm st ux um) C (M0S S)) := by
  have e1 : wFoot C qx ux = consF.map (cellA C S (adA b qx qm st ux um)) := List.map_congr_left (fun q hq => cellA_F (k := q.1) (i := q.2) (consF_16 q hq))
  have e2 : wModel C qm um = consM.map (cellA C S (adA b qx qm st ux um)) := List.map_congr_left (fun q hq => cellA_M (k := q.1) (i := q.2) (consM_30 q hq))
  rw [e1, e2, ← List.map_append]
  exact cons_p.map _
def Sof (L : Nat) (xs : Nat → Int32) : Mem := fun k i j => match k with
  | 30 => alA j
  | 31 => szA j
  | 32 => mkA j
  | 33 => (match i with
    | 0 => xs j
    | _ => nI L)
  | _ => 0
theorem Sof_st {L : Nat} {xs : Nat → Int32} : ISt (Sof L xs) := fun _ _ => ⟨rfl, rfl, rfl⟩
theorem nw_15 : Cond.methodLinkNest RX4 15 (yIN RX1) RX4 ∈ lw_tbl := by decide +kernel
theorem nw_18 : Cond.methodLinkNest RX4 18 (yIN RX2) RX4 ∈ lw_tbl := by decide +kernel
theorem nw_25 : Cond.methodLinkNest RX4 25 (yIN RX3) RX4 ∈ lw_tbl := by decide +kernel
theorem nw_17 : Cond.methodLinkNest RX0 17 (yIN RX3) RX4 ∈ lw_tbl := by decide +kernel
theorem nw_61 : nstW ∈ lw_tbl := by decide +kernel
theorem ao_1 : Cond.arrayOver (.object RX1) ∈ lw_tbl := by decide +kernel
theorem ao_3 : Cond.arrayOver (.object RX3) ∈ lw_tbl := by decide +kernel
theorem ls_30 : Cond.laysStatic RX4 "IS_ALSO" "[I" ∈ lw_tbl := by decide +kernel
theorem ls_31 : Cond.laysStatic RX4 "SIZE_BODIES" "[I" ∈ lw_tbl := by decide +kernel
theorem ls_32 : Cond.laysStatic RX4 "MARK_BODIES" "[I" ∈ lw_tbl := by decide +kernel
theorem dl_0 : decode code 0 = .ok (.new 7, 3) := by decide +kernel
theorem dl_3 : decode code 3 = .ok (.dup, 1) := by decide +kernel
theorem dl_4 : decode code 4 = .ok (.invokespecial 9, 3) := by decide +kernel
theorem dl_7 : decode code 7 = .ok (.astore_n 1, 1) := by decide +kernel
theorem dl_8 : decode code 8 = .ok (.new 10, 3) := by decide +kernel
theorem dl_11 : decode code 11 = .ok (.dup, 1) := by decide +kernel
theorem dl_12 : decode code 12 = .ok (.invokespecial 12, 3) := by decide +kernel
theorem dl_15 : decode code 15 = .ok (.astore_n 2, 1) := by decide +kernel
section St
variable {s : State} {b : Nat}
/-- the tables' classes and arrays -/
theorem st_K (hts : ∀ w ∈ lw_tbl, w.before #[Value.ref b] s = true) : ∃ (D : va_G) (C : CI4), va_K D vwCl (tysC C) s := by
  have hg : ∀ w ∈ gtb, w.before #[Value.ref b] s = true := fun w hw => hts w (List.mem_filter.mp hw).1
  obtain ⟨c0, i0, k0⟩ := u_known (C := RX0) (T := TX0) (N := 3) (n := 3) hg (cl_ws 0 (by omega)) (hg _ wm_n0)
  obtain ⟨c1, i1, k1⟩ := u_known (C := RX1) (T := TX1) (N := 3) (n := 3) hg (cl_ws 1 (by omega)) (hg _ wm_n1)
  obtain ⟨c2, i2, k2⟩ := u_known (C := RX2) (T := TX2) (N := 5) (n := 5) hg (cl_ws 2 (by omega)) (hg _ wm_n2)
  obtain ⟨c3, i3, k3⟩ := u_known (C := RX3) (T := TX3) (N := 12) (n := 12) hg (cl_ws 3 (by omega)) (hg _ wm_n3)
  obtain ⟨c4, i4, k4⟩ := u_known (C := RX4) (T := TX4) (N := 9) (n := 9) hg (cl_ws 4 (by omega)) (hg _ wm_n4)
  obtain ⟨c5, i5, k5⟩ := u_known (C := RX5) (T := TX5) (N := 24) (n := 24) hg (cl_ws 5 (by omega)) (hg _ wm_n5)
  obtain ⟨cI, kI, pI, a1, a2, a3⟩ := Cond.arrayClass_spec (args := #[Value.ref b]) (first := s) (o := none) (s := s) (idx := []) (hg _ wm_ai)
  obtain ⟨cZ, kZ, pZ, b1, b2, b3⟩ := Cond.arrayClass_spec (args := #[Value.ref b]) (first := s) (o := none) (s := s) (idx := []) (hg _ wm_az)
  obtain ⟨pR, cR, kR, d1, -, d2, d3, d4⟩ := Cond.arrayOver_spec (args := #[Value.ref b]) (first := s) (o := none) (s := s) (idx := []) (hts _ ao_1)
  obtain ⟨pT, cT, kT, e1, -, e2, e3, e4⟩ := Cond.arrayOver_spec (args := #[Value.ref b]) (first := s) (o := none) (s := s) (idx := []) (hts _ ao_3)
  refine ⟨(fun k => match k with
    | 0 => c0
    | 1 => c1
    | 2 => c2
    | 3 => c3
    | 4 => c4
    | _ => c5, fun k => match k with
    | 0 => i0
    | 1 => i1
    | 2 => i2
    | 3 => i3
    | 4 => i4
    | _ => i5), (cI, cZ, cR, cT), fun k q hq => ?_, fun k q hq => ?_⟩
  · match k, hq with
    | 0, hq => cases hq; exact k0
    | 1, hq => cases hq; exact k1
    | 2, hq => cases hq; exact k2
    | 3, hq => cases hq; exact k3
    | 4, hq => cases hq; exact k4
    | 5, hq => cases hq; exact k5
    | k + 6, hq => simp [vwCl] at hq
  · match k, hq with
    | 0, hq => cases hq; exact ⟨fun n z => ⟨fun k h => (by cases h), kI, a2, pI, a3⟩, a1⟩
    | 1, hq => cases hq; exact ⟨fun n z => ⟨fun k h => (by cases h), kZ, b2, pZ, b3⟩, b1⟩
    | 2, hq => cases hq; exact ⟨fun n z => ⟨fun k h => (by cases h), kR, d2, pR, d3⟩, kR, pR, d2, d3, d1, d4⟩
    | 3, hq => cases hq; exact ⟨fun n z => ⟨fun k h => (by cases h), kT, e2, pT, e3⟩, kT, pT, e2, e3, e1, e4⟩
    | k + 4, hq => simp [tysC] at hq
theorem st_N (hts : ∀ w ∈ lw_tbl, w.before #[Value.ref b] s = true) : Nst s :=
  ⟨va_Nw.of rfl (hts _ nw_61), va_Nw.of rfl (hts _ nw_15), va_Nw.of rfl (hts _ nw_18), va_Nw.of rfl (hts _ nw_25), va_Nw.of rfl (hts _ nw_17), va_AO.of (hts _ ao_1), va_AO.of (hts _ ao_3)⟩
theorem st_30 (hts : ∀ w ∈ lw_tbl, w.before #[Value.ref b] s = true) (hgv : (Jvm.Cond.and given_1 narrow_1).before #[Value.ref b] s = true) : ∃ t : Nat, va_T .int t 6 (fun j => .int (alA j)) (fun q => s.heap.size ≤ q) s s.heap ∧ va_Z RX4 "IS_ALSO" "[I" (.ref t) (fun q => s.heap.size ≤ q) s s.heap := by
  have hs := flat_of_before _ hgv
  have hA : ∀ a : Nat, a < s.heap.size → ¬ (fun q => s.heap.size ≤ q) a := fun a h => Nat.not_le.mpr h
  obtain ⟨t, e, h⟩ := va_Tof (args := #[Value.ref b]) (s := s) (tm := .static RX4 "IS_ALSO" "[I") (ty := .int) (N := 6) (f := fun j => .int (alA j)) (A := fun q => s.heap.size ≤ q) (by omega) (hs _ (by decide +kernel)) (va_eqt (hs (.eq (.length (.static "FootLights" "IS_ALSO" "[I")) (.int 6)) (by decide +kernel))) (fun j hj => by
    match j, hj with
    | 0, _ => exact va_eqt (hs (.eq (.elem (.static "FootLights" "IS_ALSO" "[I") (.int 0)) (.int 1)) (by decide +kernel))
    | 1, _ => exact va_eqt (hs (.eq (.elem (.static "FootLights" "IS_ALSO" "[I") (.int 1)) (.int 3)) (by decide +kernel))
    | 2, _ => exact va_eqt (hs (.eq (.elem (.static "FootLights" "IS_ALSO" "[I") (.int 2)) (.int 7)) (by decide +kernel))
    | 3, _ => exact va_eqt (hs (.eq (.elem (.static "FootLights" "IS_ALSO" "[I") (.int 3)) (.int 11)) (by decide +kernel))
    | 4, _ => exact va_eqt (hs (.eq (.elem (.static "FootLights" "IS_ALSO" "[I") (.int 4)) (.int 17)) (by decide +kernel))
    | 5, _ => exact va_eqt (hs (.eq (.elem (.static "FootLights" "IS_ALSO" "[I") (.int 5)) (.int 49)) (by decide +kernel))
    | n + 6, h => exact absurd h (by omega)) hA
  exact ⟨t, h, va_Zof (hts _ ls_30) (hts _ (List.mem_filter.mp wm_i4).1) e hA⟩
theorem st_31 (hts : ∀ w ∈ lw_tbl, w.before #[Value.ref b] s = true) (hgv : (Jvm.Cond.and given_1 narrow_1).before #[Value.ref b] s = true) : ∃ t : Nat, va_T .int t 6 (fun j => .int (szA j)) (fun q => s.heap.size ≤ q) s s.heap ∧ va_Z RX4 "SIZE_BODIES" "[I" (.ref t) (fun q => s.heap.size ≤ q) s s.heap := by
  have hs := flat_of_before _ hgv
  have hA : ∀ a : Nat, a < s.heap.size → ¬ (fun q => s.heap.size ≤ q) a := fun a h => Nat.not_le.mpr h
  obtain ⟨t, e, h⟩ := va_Tof (args := #[Value.ref b]) (s := s) (tm := .static RX4 "SIZE_BODIES" "[I") (ty := .int) (N := 6) (f := fun j => .int (szA j)) (A := fun q => s.heap.size ≤ q) (by omega) (hs _ (by decide +kernel)) (va_eqt (hs (.eq (.length (.static "FootLights" "SIZE_BODIES" "[I")) (.int 6)) (by decide +kernel))) (fun j hj => by
    match j, hj with
    | 0, _ => exact va_eqt (hs (.eq (.elem (.static "FootLights" "SIZE_BODIES" "[I") (.int 0)) (.int 10)) (by decide +kernel))
    | 1, _ => exact va_eqt (hs (.eq (.elem (.static "FootLights" "SIZE_BODIES" "[I") (.int 1)) (.int 11)) (by decide +kernel))
    | 2, _ => exact va_eqt (hs (.eq (.elem (.static "FootLights" "SIZE_BODIES" "[I") (.int 2)) (.int 12)) (by decide +kernel))
    | 3, _ => exact va_eqt (hs (.eq (.elem (.static "FootLights" "SIZE_BODIES" "[I") (.int 3)) (.int 11)) (by decide +kernel))
    | 4, _ => exact va_eqt (hs (.eq (.elem (.static "FootLights" "SIZE_BODIES" "[I") (.int 4)) (.int 13)) (by decide +kernel))
    | 5, _ => exact va_eqt (hs (.eq (.elem (.static "FootLights" "SIZE_BODIES" "[I") (.int 5)) (.int 14)) (by decide +kernel))
    | n + 6, h => exact absurd h (by omega)) hA
  exact ⟨t, h, va_Zof (hts _ ls_31) (hts _ (List.mem_filter.mp wm_i4).1) e hA⟩
theorem st_32 (hts : ∀ w ∈ lw_tbl, w.before #[Value.ref b] s = true) (hgv : (Jvm.Cond.and given_1 narrow_1).before #[Value.ref b] s = true) : ∃ t : Nat, va_T .int t 6 (fun j => .int (mkA j)) (fun q => s.heap.size ≤ q) s s.heap ∧ va_Z RX4 "MARK_BODIES" "[I" (.ref t) (fun q => s.heap.size ≤ q) s s.heap := by
  have hs := flat_of_before _ hgv
  have hA : ∀ a : Nat, a < s.heap.size → ¬ (fun q => s.heap.size ≤ q) a := fun a h => Nat.not_le.mpr h
  obtain ⟨t, e, h⟩ := va_Tof (args := #[Value.ref b]) (s := s) (tm := .static RX4 "MARK_BODIES" "[I") (ty := .int) (N := 6) (f := fun j => .int (mkA j)) (A := fun q => s.heap.size ≤ q) (by omega) (hs _ (by decide +kernel)) (va_eqt (hs (.eq (.length (.static "FootLights" "MARK_BODIES" "[I")) (.int 6)) (by decide +kernel))) (fun j hj => by
    match j, hj with
    | 0, _ => exact va_eqt (hs (.eq (.elem (.static "FootLights" "MARK_BODIES" "[I") (.int 0)) (.int 20)) (by decide +kernel))
    | 1, _ => exact va_eqt (hs (.eq (.elem (.static "FootLights" "MARK_BODIES" "[I") (.int 1)) (.int 21)) (by decide +kernel))
    | 2, _ => exact va_eqt (hs (.eq (.elem (.static "FootLights" "MARK_BODIES" "[I") (.int 2)) (.int 24)) (by decide +kernel))
    | 3, _ => exact va_eqt (hs (.eq (.elem (.static "FootLights" "MARK_BODIES" "[I") (.int 3)) (.int 22)) (by decide +kernel))
    | 4, _ => exact va_eqt (hs (.eq (.elem (.static "FootLights" "MARK_BODIES" "[I") (.int 4)) (.int 23)) (by decide +kernel))
    | 5, _ => exact va_eqt (hs (.eq (.elem (.static "FootLights" "MARK_BODIES" "[I") (.int 5)) (.int 23)) (by decide +kernel))
    | n + 6, h => exact absurd h (by omega)) hA
  exact ⟨t, h, va_Zof (hts _ ls_32) (hts _ (List.mem_filter.mp wm_i4).1) e hA⟩
end St
set_option maxHeartbeats 4000000 in
set_option maxRecDepth 100000 in
/-- from the entry, for every script of at most 384 ints, the law comes to its end with true -/
theorem whole_start {p : Program} {e : Env} {s : State} {m : MethodId} {below : List Frame} {meth : Method} {c : Code} (l : Launch) {b L : Nat} {xs : Nat → Int32} (hL : L ≤ 384) (C0 : lw_At p s m meth c b L xs) : W p l e room_1 s m #[Value.ref b] below meth c s.heap [] 0 0 (lw_Z below #[Value.ref b] s) (entryFrame m ([Value.ref b] : List Value).toArray 4) := by
  obtain ⟨hx, hb, hr, hml, hown, hts, hX, hbl, hlocks, hgv⟩ := C0
  have hg : ∀ w ∈ gtb, w.before #[Value.ref b] s = true := fun w hw => hts w (List.mem_filter.mp hw).1
  have hown : s.vm.findClass (ownS 6) = some m.cls := hown
  obtain ⟨D, C, hK⟩ := st_K hts
  have hN := st_N hts
  obtain ⟨t30, T30, Z30⟩ := st_30 hts hgv
  obtain ⟨t31, T31, Z31⟩ := st_31 hts hgv
  obtain ⟨t32, T32, Z32⟩ := st_32 hts hgv
  have hA : ∀ q : Nat, s.heap.size ≤ q → (fun q : Nat => s.heap.size ≤ q) q := fun _ h => h
  have hbA : ¬ (fun q : Nat => s.heap.size ≤ q) b := Nat.not_le.mpr hbl
  have hS : va_S (fun q : Nat => s.heap.size ≤ q) s.heap s.heap [] := va_S.rf
  have hP : va_P D vwCl [] s.heap := fun k q h => by simp at h
  have hD : va_D (fun q : Nat => s.heap.size ≤ q) [] := ⟨fun i j p q h => by simp at h, fun k q h => by simp at h⟩
  have hl := lv_entry ([.ref b]) (n := 4) (Nat.le_of_ble_eq_true rfl)
  rw [lg_entry_eq]
  generalize (lg_sl ([.ref b]) ++ List.replicate (4 - (lg_sl ([.ref b])).length) Slot.unset).toArray = ls at hl ⊢
  have hl : lv_has ls 4 [(0, .ref b)] := hl
  refine new_p (own := ownS 6) (ci := 4) (fs := df_4) (w := wFoot C) (mc := 191) (ms := 1780) hx hb hml hown hg hK hN hl.1 hP hD hS hA (by omega) wm_kL4 wm_n4 wm_i4 dv_4 (ci_Foot l D C) rfl nh_4 wm_lL4 wm_m4 wm_c4 ⟨rfl, rfl, (Nat.le_of_ble_eq_true rfl), (Nat.le_of_ble_eq_true rfl)⟩ ⟨(Nat.le_of_ble_eq_true rfl), (Nat.le_of_ble_eq_true rfl)⟩ dl_0 dl_3 dl_4 (Nat.le_of_ble_eq_true rfl) (fun qx ux H locs hP hD hS => ?_)
  refine lv_astore_n (lv' := [(1, .ref qx), (0, .ref b)]) hx hb dl_7 rfl hl (by decide) rfl (fun ls hl => ?_)
  refine new_p (own := ownS 6) (ci := 5) (fs := df_5) (w := wModel C) (mc := 13) (ms := 1797) hx hb hml hown hg hK hN hl.1 hP hD hS hA (by omega) wm_kL5 wm_n5 wm_i5 dv_5 (ci_Model l D C) rfl nh_5 wm_lL5 wm_m5 wm_c5 ⟨rfl, rfl, (Nat.le_of_ble_eq_true rfl), (Nat.le_of_ble_eq_true rfl)⟩ ⟨(Nat.le_of_ble_eq_true rfl), (Nat.le_of_ble_eq_true rfl)⟩ dl_8 dl_11 dl_12 (Nat.le_of_ble_eq_true rfl) (fun qm um H locs hP hD hS => ?_)
  refine lv_astore_n (lv' := [(2, .ref qm), (1, .ref qx), (0, .ref b)]) hx hb dl_15 rfl hl (by decide) rfl (fun ls hl => ?_)
  have hP : va_P D vwCl (wFoot C qx ux ++ wModel C qm um) H := hP
  have hD : va_D (fun q : Nat => s.heap.size ≤ q) (wFoot C qx ux ++ wModel C qm um) := hD
  refine W.widen (k := 600000) (n := 7302250) (Nat.le_of_ble_eq_true rfl) (Nat.le_of_ble_eq_true rfl) ?_
  have hSta : Sta (adA b qx qm (fun k => match k with
    | 30 => t30
    | 31 => t31
    | _ => t32) ux um) (Sof L xs) (fun q : Nat => s.heap.size ≤ q) s := by
    refine ⟨fun k h1 h2 => ?_, fun k h1 h2 => ?_, ?_⟩
    · rcases (by omega : k = 30 ∨ k = 31 ∨ k = 32 ∨ k = 33) with rfl | rfl | rfl | rfl
      · exact T30
      · exact T31
      · exact T32
      · obtain ⟨scr, x1, x2, x3, x4, x5⟩ := hX
        show va_T .int b (nI L).toNatClampNeg (fun j => .int (xs j)) _ s s.heap
        rw [ncl (by omega)]
        exact ⟨scr, x1, x2, x3, by omega, by rw [x4], x5, hbA⟩
    · rcases (by omega : k = 30 ∨ k = 31 ∨ k = 32) with rfl | rfl | rfl
      · exact Z30
      · exact Z31
      · exact Z32
    · show Int32.ofNat (nI L).toNatClampNeg = nI L
      rw [ncl (by omega)]
      rfl
  generalize hst : (fun k => match k with
    | 30 => t30
    | 31 => t31
    | _ => t32 : Nat → Nat) = stt at hSta
  have hWd : Wd D (adA b qx qm stt ux um) C (fun q : Nat => s.heap.size ≤ q) (Sof L xs) (M0S (Sof L xs)) H := by
    refine ⟨P_perm hP ws_0, D_perm hD ws_0, fun k hk => ?_⟩
    unfold M0S
    have h30 : Nat.ble 30 k = true := Nat.ble_eq_true_of_le hk
    rw [h30]
    rfl
  have hLH : LH (adA b qx qm stt ux um) ls 4 [zR 33 0, zR 0 0, zR 16 0, zU] := by
    refine ⟨hl.1, hl.2.1, rfl, fun n hn hu => ?_⟩
    match n, hn with
    | 0, _ => exact lv_at hl 2 rfl
    | 1, _ => exact lv_at hl 1 rfl
    | 2, _ => exact lv_at hl 0 rfl
    | 3, _ => exact absurd hu (by decide)
    | n + 4, h => exact absurd h (by omega)
  have hWP := cq_L_law_16 (callK_m (S := Sof L xs) (d := 40)) (M0S (Sof L xs)) (law18 (S := Sof L xs) (L := L) hL rfl (Q := fun r _ => r = some (zI (nI 1))) (fun _ => rfl) 64 0 (M0S (Sof L xs)) (by omega) (by omega) (inv_0 Sof_st) hWd.2.2)
  have hXS := hWP (XS p l e room_1 s m #[Value.ref b] below meth c 600000 7302250 (lw_Z below #[Value.ref b] s) 4 D (adA b qx qm stt ux um) C (fun q : Nat => s.heap.size ≤ q) (Sof L xs)) (fun F M q => by
    obtain ⟨pc, Lv, st⟩ := F
    refine step_all (own := 6) (bs := code) (rm := rmD 40) ⟨hx, hb, hml, hown, hg, hK, hN.1, hSta⟩ (fun y av M P q1 q2 q3 q4 q5 => metS q1 q2 q3 q4 q5) ⟨rfl, rfl, (Nat.le_of_ble_eq_true rfl), (Nat.le_of_ble_eq_true rfl)⟩ ⟨(Nat.le_of_ble_eq_true rfl), (Nat.le_of_ble_eq_true rfl)⟩ ?_ ?_ (ok_law pc) q
    · intro v M1 H1 locs1 ls1 pc1 hd1 hr0 hr2 hQ hW1 hS1
      have ev : v = 1 := by
        have h9 : (some (zI v) : Option AV) = some (zI (nI 1)) := hQ
        injection h9 with h9
        injection h9
      subst ev
      exact va_forget hS1.2.2 (lw_ret hx hb hr hlocks hd1)
    · intro M1 H1 locs1 ls1 pc1 hd1 hr0
      exact absurd hr0 (by decide))
  have ok1 : ∀ v ∈ [zR 33 0, zR 0 0, zR 16 0, zU], okv v := by
    intro v hv
    rcases List.mem_cons.mp hv with z | hv
    · rw [z]; exact Or.inr ⟨by omega, by omega, rfl⟩
    · rcases List.mem_cons.mp hv with z | hv
      · rw [z]; exact Or.inl ⟨by omega, by decide⟩
      · rcases List.mem_cons.mp hv with z | hv
        · rw [z]; exact Or.inl ⟨by omega, by decide⟩
        · rw [List.mem_singleton.mp hv]; trivial
  exact hXS H locs ls hWd hS hLH ok1 (fun v hv => absurd hv List.not_mem_nil)
