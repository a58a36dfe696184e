/-! MAKING OBJECTS: worlds by their members; an object and its constructor; an array in a final field -/
theorem j_end {A0 : Nat → Prop} {D : va_G} {cl : List vw_C} {w0 wc w1 : va_W} {H H1 : Heap} (hP : va_P D cl (w0 ++ wc) H) (hD : va_D A0 (w0 ++ wc))
    (hk : ∀ q : Nat, q < H.size → ¬ va_A wc H.size q → H1[q]? = H[q]?) (hF : ∀ q, va_A wc H.size q → A0 q) (hP1 : va_P D cl w1 H1) (hD1 : va_D (va_A wc H.size) w1) : va_P D cl (w0 ++ w1) H1 ∧ va_D A0 (w0 ++ w1) := by
  have up : ∀ (k : Nat) (q : Nat × va_E), w0[k]? = some q → (w0 ++ wc)[k]? = some q := fun k q hq => by
    rw [List.getElem?_append_left (List.getElem?_eq_some_iff.mp hq).1]; exact hq
  have apart : ∀ (k : Nat) (q : Nat × va_E), w0[k]? = some q → q.1 < H.size ∧ ¬ va_A wc H.size q.1 := by
    intro k q hq
    have h2 := up k q hq
    have hl := (hP k q h2).lt
    refine ⟨hl, fun h => ?_⟩
    rcases h with ⟨k2, e, h⟩ | h
    · have h4 : (w0 ++ wc)[w0.length + k2]? = some (q.1, e) := by
        rw [List.getElem?_append_right (by omega), Nat.add_sub_cancel_left]; exact h
      have hij := hD.1 k (w0.length + k2) q (q.1, e) h2 h4 rfl
      have := (List.getElem?_eq_some_iff.mp hq).1
      omega
    · omega
  refine ⟨va_P.app (fun k q hq => ?_) hP1, va_D.app ⟨fun i j x y hx hy hxy => hD.1 i j x y (up i x hx) (up j y hy) hxy, fun k q hq => hD.2 k q (up k q hq)⟩ (hD1.weaken (fun k q _ h => hF q.1 h)) (fun i j x y hx hy hxy => ?_)⟩
  · exact (hP k q (up k q hq)).kept (hk q.1 (apart k q hq).1 (apart k q hq).2)
  · exact (apart i x hx).2 (by rw [hxy]; exact hD1.2 j y hy)
theorem f_end {A0 : Nat → Prop} {w0 wc : va_W} {H0 H : Heap} {locs : List Loc} (hD : va_D A0 (w0 ++ wc)) (hS : va_S A0 H0 H locs) (hA : ∀ q, H0.size ≤ q → A0 q) : ∀ q, va_A wc H.size q → A0 q := by
  intro q h
  rcases h with ⟨k, e, h⟩ | h
  · exact hD.2 (w0.length + k) (q, e) (by rw [List.getElem?_append_right (by omega), Nat.add_sub_cancel_left]; exact h)
  · exact hA q (Nat.le_trans hS.1 h)
theorem D_nd {A : Nat → Prop} {ws : va_W} : va_D A ws ↔ (ws.map (fun q => q.1)).Nodup ∧ ∀ q ∈ ws, A q.1 := by
  constructor
  · intro h
    refine ⟨List.pairwise_iff_getElem.mpr (fun i j hi hj hij e => ?_), fun q hq => ?_⟩
    · rw [List.getElem_map, List.getElem_map] at e
      rw [List.length_map] at hi hj
      have := h.1 i j _ _ (List.getElem?_eq_getElem hi) (List.getElem?_eq_getElem hj) e
      omega
    · obtain ⟨k, hk⟩ := List.getElem?_of_mem hq
      exact h.2 k q hk
  · rintro ⟨h1, h2⟩
    refine ⟨fun i j p q hp hq e => ?_, fun k q hk => h2 q (List.mem_of_getElem? hk)⟩
    have hi : (ws.map (fun q => q.1))[i]? = some p.1 := by rw [List.getElem?_map, hp]; rfl
    have hj : (ws.map (fun q => q.1))[j]? = some p.1 := by rw [List.getElem?_map, hq, e]; rfl
    exact (List.getElem?_inj (List.getElem?_eq_some_iff.mp hi).1 h1).mp (hi.trans hj.symm)
theorem P_mem {D : va_G} {cl : List vw_C} {ws : va_W} {H : Heap} : va_P D cl ws H ↔ ∀ q ∈ ws, va_at D cl q H := by
  constructor
  · intro h q hq
    obtain ⟨k, hk⟩ := List.getElem?_of_mem hq
    exact h k q hk
  · intro h k q hk
    exact h q (List.mem_of_getElem? hk)
theorem P_perm {D : va_G} {cl : List vw_C} {ws ws' : va_W} {H : Heap} (h : va_P D cl ws H) (hp : ws.Perm ws') : va_P D cl ws' H := P_mem.mpr (fun q hq => P_mem.mp h q (hp.mem_iff.mpr hq))
theorem D_perm {A : Nat → Prop} {ws ws' : va_W} (h : va_D A ws) (hp : ws.Perm ws') : va_D A ws' := by
  obtain ⟨h1, h2⟩ := D_nd.mp h
  exact D_nd.mpr ⟨(hp.map _).nodup_iff.mp h1, fun q hq => h2 q (hp.mem_iff.mpr hq)⟩
/-- the words of the nest and of the arrays of references -/
def yIN (C : String) : MethodName := ⟨C, "<init>", "()V"⟩
def Nst (U : State) : Prop := va_Nw nstW U ∧ va_Nw (.methodLinkNest RX4 15 (yIN RX1) RX4) U ∧ va_Nw (.methodLinkNest RX4 18 (yIN RX2) RX4) U ∧ va_Nw (.methodLinkNest RX4 25 (yIN RX3) RX4) U ∧ va_Nw (.methodLinkNest RX0 17 (yIN RX3) RX4) U ∧ va_AO RX1 U ∧ va_AO RX3 U
theorem Nst.warm {s U : State} (hW : s.WarmedH U.vm) (h : Nst s) : Nst U :=
  ⟨va_Nw.warmM hW h.1, va_Nw.warmM hW h.2.1, va_Nw.warmM hW h.2.2.1, va_Nw.warmM hW h.2.2.2.1, va_Nw.warmM hW h.2.2.2.2.1, h.2.2.2.2.2.1.moved hW.alike, h.2.2.2.2.2.2.moved hW.alike⟩
theorem Nst.same {u U : State} (h : u.vm = U.vm) (g : Nst u) : Nst U :=
  ⟨va_Nw.same rfl h g.1, va_Nw.same rfl h g.2.1, va_Nw.same rfl h g.2.2.1, va_Nw.same rfl h g.2.2.2.1, va_Nw.same rfl h g.2.2.2.2.1, g.2.2.2.2.2.1.moved (by rw [h]; exact Vm.Alike.refl _), g.2.2.2.2.2.2.moved (by rw [h]; exact Vm.Alike.refl _)⟩
def PcI (D : va_G) (C : CI4) (q ci : Nat) (fs : List Value) (sz : Nat) : Array Value → State → Prop := va_Pc [.ref q] (fun U => U.heap.size = sz ∧ va_P D vwCl [(q, .inr (ci, fs))] U.heap ∧ va_K D vwCl (tysC C) U ∧ Nst U)
def QcI (D : va_G) (w : (Nat → Nat → Nat) → va_W) (A : Nat → Prop) : Array Value → State → Outcome → State → Prop := va_Qv (fun _ : Nat → Nat → Nat => True) (fun u t => va_P D vwCl (w u) t.heap ∧ va_D A (w u)) A
/-- a constructor: from an object as it is born, a world w, by addresses u -/
def MetI (l : Launch) (D : va_G) (C : CI4) (y : MethodName) (co : Cond) (rm : Room) (ci : Nat) (fs : List Value) (w : Nat → (Nat → Nat → Nat) → va_W) (mc ms : Nat) : Prop :=
  ∀ q sz : Nat, Met l y (co :: gtb) rm (PcI D C q ci fs sz) (QcI D (w q) (va_A [(q, .inr (ci, fs))] sz)) mc ms (va_A [(q, .inr (ci, fs))] sz)
theorem PcI.blind {D : va_G} {C : CI4} {q ci : Nat} {fs : List Value} {sz : Nat} : FrameBlind (PcI D C q ci fs sz) := by
  intro a U g mk h
  obtain ⟨h0, h1, h2, h3, h4⟩ := h
  exact ⟨h0, h1, h2, va_K.moved (u := U) (U := U.calling g mk a) (Vm.Alike.refl U.vm) h3, h4.same (u := U) (U := U.calling g mk a) rfl⟩
theorem gi_co {co : Cond} (h : co ∈ gtb) : GoodIn gtb (co :: gtb) := by
  intro w hw
  rcases List.mem_cons.mp hw with z | z
  · rw [z]; exact ⟨h, gt_good _ h⟩
  · exact ⟨z, gt_good _ z⟩
theorem y_desc : (parseMethodDescriptor "()V").map (fun d => d.parameters.length) = some 0 := by decide +kernel
theorem cb_i {N : Nat} (h : N ≤ 2000) : N * componentBytes .int ≤ 536870912 := Nat.le_trans (Nat.mul_le_mul h (show componentBytes .int ≤ 8 by decide)) (by omega)
theorem cb_b {N : Nat} (h : N ≤ 2000) : N * componentBytes .boolean ≤ 536870912 := Nat.le_trans (Nat.mul_le_mul h (show componentBytes .boolean ≤ 8 by decide)) (by omega)
section Mk
variable {p : Program} {l : Launch} {e : Env} {R : Room} {s : State} {m : MethodId} {args : Array Value} {below : List Frame} {meth : Method} {c : Code} {H : Heap} {locs : List Loc} {cells slots : Nat} {Qw : State → Prop} {D : va_G} {C : CI4} {A : Nat → Prop} {bs : ByteArray} {nL : Nat} {pc : Nat} {ls : Array Slot} {rest : List Value} {own : String} {ws : va_W}
/-- new, dup, and what the call of the constructor brings -/
theorem new_g {ci : Nat} {fs : List Value} {w : Nat → (Nat → Nat → Nat) → va_W} {mc ms idxC : Nat}
    (hx : p.tables.exec = Jvm.exec) (hb : c.code = bs) (hown : s.vm.findClass own = some m.cls) (hts : ∀ w ∈ gtb, w.before args s = true) (hK : va_K D vwCl (tysC C) s)
    (hP : va_P D vwCl ws H) (hD : va_D A ws) (hS : va_S A s.heap H locs) (hA : ∀ q, s.heap.size ≤ q → A q) (hci : ci < 6)
    (hcl : Cond.classLink own idxC (ownS ci) ∈ gtb) (hinst : Cond.instantiable (ownS ci) (clsN ci) ∈ gtb) (hini : Cond.initialized (ownS ci) ∈ gtb) (hfs : ∀ j, j < clsN ci → defaultValue (clsY ci j) = vp_V fs j)
    (hcs : cells + 1 ≤ R.cells ∧ slots + clsN ci ≤ R.slots) (d1 : decode bs pc = .ok (.new idxC, 3)) (d2 : decode bs (pc + 3) = .ok (.dup, 1))
    (hrun : ∀ (q : Nat) (H1 : Heap), va_P D vwCl [(q, .inr (ci, fs))] H1 → va_Run p l e R s m args below meth c H1 locs (cells + 1) (slots + clsN ci) mc ms (F0 m (pc + 4) ls (.ref q :: .ref q :: rest)) (.ref q :: rest) (QcI D (w q) (va_A [(q, .inr (ci, fs))] H1.size) (Value.ref q :: []).toArray) (va_A [(q, .inr (ci, fs))] H1.size))
    (kk : ∀ (q : Nat) (u : Nat → Nat → Nat) (H1 : Heap) (locs1 : List Loc), va_P D vwCl (ws ++ w q u) H1 → va_D A (ws ++ w q u) → va_S A s.heap H1 locs1 → W p l e R s m args below meth c H1 locs1 (cells + 1 + mc) (slots + clsN ci + ms) Qw (F0 m (pc + 7) ls (.ref q :: rest))) :
    W p l e R s m args below meth c H locs cells slots Qw (F0 m pc ls rest) := by
  refine va_new (ci := ci) (fs := fs) (C := ownS ci) (T := clsT ci) (N := clsN ci) hx hb hts (cl_ws ci hci) (clsY ci) (cl_ty ci hci) hown (hts _ hcl) (hts _ hinst) (hts _ hini) hK hP hD hS hA (cl_get ci hci) hfs hcs.1 hcs.2 d1 (fun q H1 hP hD hS => ?_)
  refine lv_dup hx hb d2 rfl ?_
  have hPc : va_P D vwCl [(q, .inr (ci, fs))] H1 := P_mem.mpr (fun z hz => P_mem.mp hP z (List.mem_append_right _ hz))
  have hF := f_end hD hS hA
  refine va_callv (hrun q H1 hPc) hS (fun q _ h => hF q h) hF (fun u t H2 locs1 ht hvm _ hB hz1 hk1 hS => ?_)
  obtain ⟨hP1, hD1⟩ := hB
  rw [ht] at hP1
  obtain ⟨hP2, hD2⟩ := j_end hP hD hk1 hF hP1 hD1
  exact kk q u H2 locs1 hP2 hD2 hS
theorem new_n {ci : Nat} {fs : List Value} {w : Nat → (Nat → Nat → Nat) → va_W} {mc ms idxC idxM maxL : Nat} {bytes : ByteArray} {rm : Room} {y : MethodName}
    (hx : p.tables.exec = Jvm.exec) (hb : c.code = bs) (hml : c.maxLocals = nL) (hown : s.vm.findClass own = some m.cls) (hts : ∀ w ∈ gtb, w.before args s = true) (hK : va_K D vwCl (tysC C) s) (hN : Nst s) (hls : ls.size = nL)
    (hP : va_P D vwCl ws H) (hD : va_D A ws) (hS : va_S A s.heap H locs) (hA : ∀ q, s.heap.size ≤ q → A q) (hci : ci < 6)
    (hcl : Cond.classLink own idxC (ownS ci) ∈ gtb) (hinst : Cond.instantiable (ownS ci) (clsN ci) ∈ gtb) (hini : Cond.initialized (ownS ci) ∈ gtb) (hfs : ∀ j, j < clsN ci → defaultValue (clsY ci j) = vp_V fs j)
    (hM : MetI l D C y (.code y bytes maxL none) rm ci fs w mc ms) (hy : y = yIN (ownS ci)) (hyc : ownS ci ≠ "java/lang/invoke/MethodHandle" ∧ ownS ci ≠ "java/lang/invoke/VarHandle") (hlk : va_Nw (.methodLinkNest own idxM y RX4) s) (hin : Cond.instanceMethod y ∈ gtb) (hco : Cond.code y bytes maxL none ∈ gtb)
    (hrm : rm.cells = mc ∧ rm.slots = ms ∧ rm.frames + 1 ≤ R.frames ∧ 8 + (maxL + 11) + rm.locals ≤ R.locals)
    (hcs : cells + 1 + mc ≤ R.cells ∧ slots + clsN ci + ms ≤ R.slots) (d1 : decode bs pc = .ok (.new idxC, 3)) (d2 : decode bs (pc + 3) = .ok (.dup, 1)) (d3 : decode bs (pc + 4) = .ok (.invokespecial idxM, 3)) (hroom : ((Value.ref 0 :: rest).map fun v => v.category).sum ≤ 8)
    (kk : ∀ (q : Nat) (u : Nat → Nat → Nat) (H1 : Heap) (locs1 : List Loc), va_P D vwCl (ws ++ w q u) H1 → va_D A (ws ++ w q u) → va_S A s.heap H1 locs1 → W p l e R s m args below meth c H1 locs1 (cells + 1 + mc) (slots + clsN ci + ms) Qw (F0 m (pc + 7) ls (.ref q :: rest))) :
    W p l e R s m args below meth c H locs cells slots Qw (F0 m pc ls rest) := by
  subst hy
  refine new_g hx hb hown hts hK hP hD hS hA hci hcl hinst hini hfs ⟨by omega, by omega⟩ d1 d2 (fun q H1 hP1 => ?_) kk
  exact va_runIN (As := []) (n := 0) (rest := .ref q :: rest) ⟨hx, hb, hml, hown, hts⟩ (hM q H1.size) ⟨va_cnB 0 hts (gi_co hco) rfl hrm.1 hrm.2.1 hlk (hts _ hini) ⟨hyc.1, hyc.2, y_desc⟩ hrm.2.2, rfl, hts _ hin⟩ ⟨PcI.blind, fun U hU hW => ⟨rfl, by rw [hU], by rw [hU]; exact hP1, va_K.moved hW.alike hK, hN.warm hW⟩⟩ rfl rfl hls rfl (lv_room hroom) d3 hcs
theorem new_p {ci : Nat} {fs : List Value} {w : Nat → (Nat → Nat → Nat) → va_W} {mc ms idxC idxM maxL : Nat} {bytes : ByteArray} {rm : Room} {y : MethodName}
    (hx : p.tables.exec = Jvm.exec) (hb : c.code = bs) (hml : c.maxLocals = nL) (hown : s.vm.findClass own = some m.cls) (hts : ∀ w ∈ gtb, w.before args s = true) (hK : va_K D vwCl (tysC C) s) (hN : Nst s) (hls : ls.size = nL)
    (hP : va_P D vwCl ws H) (hD : va_D A ws) (hS : va_S A s.heap H locs) (hA : ∀ q, s.heap.size ≤ q → A q) (hci : ci < 6)
    (hcl : Cond.classLink own idxC (ownS ci) ∈ gtb) (hinst : Cond.instantiable (ownS ci) (clsN ci) ∈ gtb) (hini : Cond.initialized (ownS ci) ∈ gtb) (hfs : ∀ j, j < clsN ci → defaultValue (clsY ci j) = vp_V fs j)
    (hM : MetI l D C y (.code y bytes maxL none) rm ci fs w mc ms) (hy : y = yIN (ownS ci)) (hyc : ownS ci ≠ "java/lang/invoke/MethodHandle" ∧ ownS ci ≠ "java/lang/invoke/VarHandle") (hlk : Cond.methodLink own idxM y ∈ gtb) (hin : Cond.instanceMethod y ∈ gtb) (hco : Cond.code y bytes maxL none ∈ gtb)
    (hrm : rm.cells = mc ∧ rm.slots = ms ∧ rm.frames + 1 ≤ R.frames ∧ 8 + (maxL + 11) + rm.locals ≤ R.locals)
    (hcs : cells + 1 + mc ≤ R.cells ∧ slots + clsN ci + ms ≤ R.slots) (d1 : decode bs pc = .ok (.new idxC, 3)) (d2 : decode bs (pc + 3) = .ok (.dup, 1)) (d3 : decode bs (pc + 4) = .ok (.invokespecial idxM, 3)) (hroom : ((Value.ref 0 :: rest).map fun v => v.category).sum ≤ 8)
    (kk : ∀ (q : Nat) (u : Nat → Nat → Nat) (H1 : Heap) (locs1 : List Loc), va_P D vwCl (ws ++ w q u) H1 → va_D A (ws ++ w q u) → va_S A s.heap H1 locs1 → W p l e R s m args below meth c H1 locs1 (cells + 1 + mc) (slots + clsN ci + ms) Qw (F0 m (pc + 7) ls (.ref q :: rest))) :
    W p l e R s m args below meth c H locs cells slots Qw (F0 m pc ls rest) := by
  subst hy
  refine new_g hx hb hown hts hK hP hD hS hA hci hcl hinst hini hfs ⟨by omega, by omega⟩ d1 d2 (fun q H1 hP1 => ?_) kk
  exact va_runI (As := []) (n := 0) (rest := .ref q :: rest) ⟨hx, hb, hml, hown, hts⟩ (hM q H1.size) (cwI 0 hts (gi_co hco) rfl hrm.1 hrm.2.1 (hts _ hini) (hts _ hlk) (hts _ hin) rfl ⟨hyc.1, hyc.2, y_desc⟩ hrm.2.2) ⟨PcI.blind, fun U hU hW => ⟨rfl, by rw [hU], by rw [hU]; exact hP1, va_K.moved hW.alike hK, hN.warm hW⟩⟩ rfl rfl hls rfl (lv_room hroom) d3 hcs
/-- putfield of a final field -/
theorem put_f {ci k idx h0 : Nat} {fs : List Value} {r : va_W} {ty : FieldType} {v : Value}
    (hx : p.tables.exec = Jvm.exec) (hb : c.code = bs) (hown : s.vm.findClass (ownS ci) = some m.cls) (hts : ∀ w ∈ gtb, w.before args s = true) (hK : va_K D vwCl (tysC C) s) (hnm : meth.name = "<init>")
    (hP : va_P D vwCl ((h0, .inr (ci, fs)) :: r) H) (hD : va_D A ((h0, .inr (ci, fs)) :: r)) (hS : va_S A s.heap H locs) (hci : ci < 6) (hk : k < clsN ci) (hf : (clsT ci k).1 = ownS ci ∧ (clsT ci k).2.2.2 = true)
    (hlk : Cond.fieldLink (ownS ci) idx (ownS ci) (clsT ci k).2.1 (clsT ci k).2.2.1 ∈ gtb) (hd : parseFieldDescriptor (clsT ci k).2.2.1 = some ty) (hn : narrow ty v = v) (hfit : fits ty v = true) (hl : k < fs.length) (d1 : decode bs pc = .ok (.putfield idx, 3))
    (kk : ∀ (H1 : Heap) (locs1 : List Loc), va_P D vwCl ((h0, .inr (ci, fs.set k v)) :: r) H1 → va_D A ((h0, .inr (ci, fs.set k v)) :: r) → va_S A s.heap H1 locs1 → W p l e R s m args below meth c H1 locs1 cells slots Qw (F0 m (pc + 3) ls rest)) :
    W p l e R s m args below meth c H locs cells slots Qw (F0 m pc ls (v :: .ref h0 :: rest)) :=
  va_putF (ci := ci) (C := ownS ci) (T := clsT ci) (N := clsN ci) hx hb hts (cl_ws ci hci) (clsY ci) (cl_ty ci hci) (cl_nm ci hci) hown hK hP hD hS 0 rfl (cl_get ci hci) k hk (hts _ hlk) (fun x h => by rw [← hf.1]; exact h) hf.2 hnm hf.1 hd hn hfit hl d1 kk
/-- newarray of ints, putfield -/
theorem arr_f {ci k idx h0 N : Nat} {n : Int32} {fs : List Value} {r : va_W}
    (hx : p.tables.exec = Jvm.exec) (hb : c.code = bs) (hown : s.vm.findClass (ownS ci) = some m.cls) (hts : ∀ w ∈ gtb, w.before args s = true) (hK : va_K D vwCl (tysC C) s) (hnm : meth.name = "<init>")
    (hP : va_P D vwCl ((h0, .inr (ci, fs)) :: r) H) (hD : va_D A ((h0, .inr (ci, fs)) :: r)) (hS : va_S A s.heap H locs) (hA : ∀ q, s.heap.size ≤ q → A q) (hci : ci < 6) (hk : k < clsN ci) (hf : (clsT ci k).1 = ownS ci ∧ (clsT ci k).2.2.2 = true)
    (hlk : Cond.fieldLink (ownS ci) idx (ownS ci) (clsT ci k).2.1 (clsT ci k).2.2.1 ∈ gtb) (hd : parseFieldDescriptor (clsT ci k).2.2.1 = some (.array .int)) (hl : k < fs.length) (hn : n = nI N) (hN : N ≤ 2000) (harr : Cond.arrayClass .int ∈ gtb)
    (hcs : cells + 1 ≤ R.cells ∧ slots + N ≤ R.slots) (d1 : decode bs pc = .ok (.newarray .int, 2)) (d2 : decode bs (pc + 2) = .ok (.putfield idx, 3))
    (kk : ∀ (q : Nat) (H1 : Heap) (locs1 : List Loc), va_P D vwCl ((h0, .inr (ci, fs.set k (.ref q))) :: (r ++ [(q, .inl (C.1, N, .inl (fun _ => 0)))])) H1 → va_D A ((h0, .inr (ci, fs.set k (.ref q))) :: (r ++ [(q, .inl (C.1, N, .inl (fun _ => 0)))])) → va_S A s.heap H1 locs1 → W p l e R s m args below meth c H1 locs1 (cells + 1) (slots + N) Qw (F0 m (pc + 5) ls rest)) :
    W p l e R s m args below meth c H locs cells slots Qw (F0 m pc ls (.int n :: .ref h0 :: rest)) := by
  subst hn
  refine va_newa (atype := .int) (ty := .int) (a0 := (N, .inl (fun _ => 0))) hx hb (hts _ harr) rfl hK hP hD hS hA (fun _ => rfl) (nI_pos (by omega)) (ncl (by omega)) (cb_i hN) hcs.1 hcs.2 d1 (fun q cA H1 hK1 hP hD hS => ?_)
  have e : cA = C.1 := Option.some.inj ((hK1.2 4 (cA, .int) rfl).2.symm.trans (hK.2 0 (C.1, .int) rfl).2)
  subst e
  exact put_f hx hb hown hts hK hnm hP hD hS hci hk hf hlk hd rfl rfl hl d2 (fun H1 locs1 hP hD hS => kk q H1 locs1 hP hD hS)
theorem arr_z {ci k idx h0 N : Nat} {n : Int32} {fs : List Value} {r : va_W}
    (hx : p.tables.exec = Jvm.exec) (hb : c.code = bs) (hown : s.vm.findClass (ownS ci) = some m.cls) (hts : ∀ w ∈ gtb, w.before args s = true) (hK : va_K D vwCl (tysC C) s) (hnm : meth.name = "<init>")
    (hP : va_P D vwCl ((h0, .inr (ci, fs)) :: r) H) (hD : va_D A ((h0, .inr (ci, fs)) :: r)) (hS : va_S A s.heap H locs) (hA : ∀ q, s.heap.size ≤ q → A q) (hci : ci < 6) (hk : k < clsN ci) (hf : (clsT ci k).1 = ownS ci ∧ (clsT ci k).2.2.2 = true)
    (hlk : Cond.fieldLink (ownS ci) idx (ownS ci) (clsT ci k).2.1 (clsT ci k).2.2.1 ∈ gtb) (hd : parseFieldDescriptor (clsT ci k).2.2.1 = some (.array .boolean)) (hl : k < fs.length) (hn : n = nI N) (hN : N ≤ 2000) (harr : Cond.arrayClass .boolean ∈ gtb)
    (hcs : cells + 1 ≤ R.cells ∧ slots + N ≤ R.slots) (d1 : decode bs pc = .ok (.newarray .boolean, 2)) (d2 : decode bs (pc + 2) = .ok (.putfield idx, 3))
    (kk : ∀ (q : Nat) (H1 : Heap) (locs1 : List Loc), va_P D vwCl ((h0, .inr (ci, fs.set k (.ref q))) :: (r ++ [(q, .inl (C.2.1, N, .inl (fun _ => 0)))])) H1 → va_D A ((h0, .inr (ci, fs.set k (.ref q))) :: (r ++ [(q, .inl (C.2.1, N, .inl (fun _ => 0)))])) → va_S A s.heap H1 locs1 → W p l e R s m args below meth c H1 locs1 (cells + 1) (slots + N) Qw (F0 m (pc + 5) ls rest)) :
    W p l e R s m args below meth c H locs cells slots Qw (F0 m pc ls (.int n :: .ref h0 :: rest)) := by
  subst hn
  refine va_newa (atype := .boolean) (ty := .boolean) (a0 := (N, .inl (fun _ => 0))) hx hb (hts _ harr) rfl hK hP hD hS hA (fun _ => rfl) (nI_pos (by omega)) (ncl (by omega)) (cb_b hN) hcs.1 hcs.2 d1 (fun q cA H1 hK1 hP hD hS => ?_)
  have e : cA = C.2.1 := Option.some.inj ((hK1.2 4 (cA, .boolean) rfl).2.symm.trans (hK.2 1 (C.2.1, .boolean) rfl).2)
  subst e
  exact put_f hx hb hown hts hK hnm hP hD hS hci hk hf hlk hd rfl rfl hl d2 (fun H1 locs1 hP hD hS => kk q H1 locs1 hP hD hS)
/-- anewarray, putfield -/
theorem arr_q {ci k idx h0 N t0 idxC : Nat} {n : Int32} {fs : List Value} {r : va_W} {CN : String} {cq : ClassId}
    (hx : p.tables.exec = Jvm.exec) (hb : c.code = bs) (hown : s.vm.findClass (ownS ci) = some m.cls) (hts : ∀ w ∈ gtb, w.before args s = true) (hK : va_K D vwCl (tysC C) s) (hnm : meth.name = "<init>")
    (hP : va_P D vwCl ((h0, .inr (ci, fs)) :: r) H) (hD : va_D A ((h0, .inr (ci, fs)) :: r)) (hS : va_S A s.heap H locs) (hA : ∀ q, s.heap.size ≤ q → A q) (hci : ci < 6) (hk : k < clsN ci) (hf : (clsT ci k).1 = ownS ci ∧ (clsT ci k).2.2.2 = true)
    (hlk : Cond.fieldLink (ownS ci) idx (ownS ci) (clsT ci k).2.1 (clsT ci k).2.2.1 ∈ gtb) (hd : parseFieldDescriptor (clsT ci k).2.2.1 = some (.array (.object CN))) (hl : k < fs.length) (hn : n = nI N) (hN : N ≤ 2000) (hao : va_AO CN s) (hcl : Cond.classLink (ownS ci) idxC CN ∈ gtb) (ht0 : (tysC C)[t0]? = some (cq, .object CN))
    (hcs : cells + 1 ≤ R.cells ∧ slots + N ≤ R.slots) (d1 : decode bs pc = .ok (.anewarray idxC, 3)) (d2 : decode bs (pc + 3) = .ok (.putfield idx, 3))
    (kk : ∀ (q : Nat) (H1 : Heap) (locs1 : List Loc), va_P D vwCl ((h0, .inr (ci, fs.set k (.ref q))) :: (r ++ [(q, .inl (cq, N, .inr (.inr (.inr (.inr (fun _ => none))))))])) H1 → va_D A ((h0, .inr (ci, fs.set k (.ref q))) :: (r ++ [(q, .inl (cq, N, .inr (.inr (.inr (.inr (fun _ => none))))))])) → va_S A s.heap H1 locs1 → W p l e R s m args below meth c H1 locs1 (cells + 1) (slots + N) Qw (F0 m (pc + 6) ls rest)) :
    W p l e R s m args below meth c H locs cells slots Qw (F0 m pc ls (.int n :: .ref h0 :: rest)) := by
  subst hn
  refine va_newq hx hb hown (hts _ hcl) hao hK hP hD hS hA (nI_pos (by omega)) (ncl (by omega)) (by omega) hcs.1 hcs.2 d1 (fun q cA H1 hK1 hP hD hS => ?_)
  have e : cA = cq := by
    obtain ⟨_, _, _, _, _, h1⟩ := (hK1.2 4 (cA, .object CN) rfl).2
    obtain ⟨_, _, _, _, _, h2⟩ := (hK.2 t0 (cq, .object CN) ht0).2
    exact Option.some.inj (h1.symm.trans h2)
  subst e
  exact put_f hx hb hown hts hK hnm hP hD hS hci hk hf hlk hd rfl rfl hl d2 (fun H1 locs1 hP hD hS => kk q H1 locs1 hP hD hS)
end Mk
