/-! facts by the kernel, over kinds and classes -/
theorem gtb_of {w : Cond} (h : w ∈ lw_tbl) (g : goodWord w = true) : w ∈ gtb := List.mem_filter.mpr ⟨h, g⟩
theorem cl_get : ∀ c, c < 6 → vwCl[c]? = some (ownS c, clsT c, clsN c) := by
  intro c hc
  match c, hc with
  | 0, _ => rfl
  | 1, _ => rfl
  | 2, _ => rfl
  | 3, _ => rfl
  | 4, _ => rfl
  | 5, _ => rfl
  | n + 6, h => exact absurd h (by omega)
theorem cw_0 : ∀ w ∈ u_ws RX0 TX0 3, w ∈ lw_tbl ∧ goodWord w = true := by decide +kernel
theorem cw_1 : ∀ w ∈ u_ws RX1 TX1 3, w ∈ lw_tbl ∧ goodWord w = true := by decide +kernel
theorem cw_2 : ∀ w ∈ u_ws RX2 TX2 5, w ∈ lw_tbl ∧ goodWord w = true := by decide +kernel
theorem cw_3 : ∀ w ∈ u_ws RX3 TX3 12, w ∈ lw_tbl ∧ goodWord w = true := by decide +kernel
theorem cw_4 : ∀ w ∈ u_ws RX4 TX4 9, w ∈ lw_tbl ∧ goodWord w = true := by decide +kernel
theorem cw_5 : ∀ w ∈ u_ws RX5 TX5 24, w ∈ lw_tbl ∧ goodWord w = true := by decide +kernel
theorem cl_ws : ∀ c, c < 6 → ∀ w ∈ u_ws (ownS c) (clsT c) (clsN c), w ∈ gtb := by
  intro c hc w hw
  match c, hc with
  | 0, _ => exact gtb_of (cw_0 w hw).1 (cw_0 w hw).2
  | 1, _ => exact gtb_of (cw_1 w hw).1 (cw_1 w hw).2
  | 2, _ => exact gtb_of (cw_2 w hw).1 (cw_2 w hw).2
  | 3, _ => exact gtb_of (cw_3 w hw).1 (cw_3 w hw).2
  | 4, _ => exact gtb_of (cw_4 w hw).1 (cw_4 w hw).2
  | 5, _ => exact gtb_of (cw_5 w hw).1 (cw_5 w hw).2
  | n + 6, h => exact absurd h (by omega)
def clsY (c : Nat) : Nat → FieldType := match c with
  | 0 => tyX0
  | 1 => tyX1
  | 2 => tyX2
  | 3 => tyX3
  | 4 => tyX4
  | _ => tyX5
theorem cl_ty : ∀ c, c < 6 → ∀ k, k < clsN c → parseFieldDescriptor (clsT c k).2.2.1 = some (clsY c k) := by
  intro c hc
  match c, hc with
  | 0, _ => exact tyX0_ok
  | 1, _ => exact tyX1_ok
  | 2, _ => exact tyX2_ok
  | 3, _ => exact tyX3_ok
  | 4, _ => exact tyX4_ok
  | 5, _ => exact tyX5_ok
  | n + 6, h => exact absurd h (by omega)
theorem cl_nm : ∀ c, c < 6 → ∀ a, a < clsN c → ∀ b, b < clsN c → a ≠ b → (clsT c a).2.1 ≠ (clsT c b).2.1 := by
  intro c hc
  match c, hc with
  | 0, _ => exact nmX0
  | 1, _ => exact nmX1
  | 2, _ => exact nmX2
  | 3, _ => exact nmX3
  | 4, _ => exact nmX4
  | 5, _ => exact nmX5
  | n + 6, h => exact absurd h (by omega)
theorem fl_use {own idx ci j n : Nat} (h : FLs[n]? = some (own, idx, ci, j)) : ci < 6 ∧ j < clsN ci ∧ (clsT ci j).1 = ownS ci ∧ Cond.fieldLink (ownS own) idx (ownS ci) (clsT ci j).2.1 (clsT ci j).2.2.1 ∈ gtb := by
  have hm := List.mem_of_getElem? h
  have h1 := List.all_eq_true.mp fl_ok _ hm
  simp only [Bool.and_eq_true, decide_eq_true_eq] at h1
  exact ⟨Nat.le_of_ble_eq_true h1.1, Nat.le_of_ble_eq_true h1.2.1, h1.2.2, gtb_of (isSub_mem _ _ sub_fl _ (List.mem_map.mpr ⟨_, hm, rfl⟩)) rfl⟩
theorem k_obj : ∀ k, k < 34 → kcls k < 6 → k < 30 ∧ kty k = 0 ∧ (cfd (kcls k)).length = clsN (kcls k) := by decide +kernel
def okF (k j : Nat) : Bool := match nthF (cfd (kcls k)) j with
  | none => true
  | some (k', none) => Nat.blt k' 30 && Nat.ble (ninst k) (ninst k')
  | some (k', some c) => Nat.blt k' 30 && Nat.blt c (ninst k')
theorem k_fld : ∀ k, k < 30 → kcls k < 6 → ∀ j, j < 24 → okF k j = true := by decide +kernel
theorem cls_24 : ∀ c, c < 6 → clsN c ≤ 24 := by decide +kernel
theorem k_int : ∀ k, k < 34 → isI k = true → (k < 30 ∧ kty k = 1) ∨ 30 ≤ k := by decide +kernel
theorem k_wr : ∀ k, k < 34 → isW k = true → k < 30 ∧ kty k = 1 := by decide +kernel
theorem k_z : ∀ k, k < 34 → isZ k = true → k < 30 ∧ kty k = 2 := by decide +kernel
theorem k_a : ∀ k, k < 34 → isA k = true → k < 30 ∧ kty k = 3 ∧ kel k < 30 ∧ kbs k + nthN lens k ≤ ninst (kel k) := by decide +kernel
theorem k_33 : ∀ k, k < 30 → (Nat.beq k 33) = false := by decide +kernel
theorem okv_lt {k i : Nat} (h : okv (zR k i)) : k < 34 := by
  rcases h with h | h
  · omega
  · exact h.2.1
theorem ent_1 {ad : Nat → Nat → Nat} {C : CI4} {k i : Nat} {f : Nat → Int32} (h : kty k = 1) : entW ad C k i f = .inl (C.1, nthN lens k, .inl f) := by
  unfold entW kcc; rw [h]; try rfl
theorem ent_2 {ad : Nat → Nat → Nat} {C : CI4} {k i : Nat} {f : Nat → Int32} (h : kty k = 2) : entW ad C k i f = .inl (C.2.1, nthN lens k, .inl f) := by
  unfold entW kcc; rw [h]; try rfl
theorem ent_0 {ad : Nat → Nat → Nat} {C : CI4} {k i : Nat} {f : Nat → Int32} (h : kty k = 0) : entW ad C k i f = .inr (kcls k, fldW ad i f (cfd (kcls k)) 0) := by
  unfold entW; rw [h]; try rfl
theorem ent_3 {ad : Nat → Nat → Nat} {C : CI4} {k i : Nat} {f : Nat → Int32} (h : kty k = 3) : entW ad C k i f = .inl (bif Nat.beq k 1 then C.2.2.1 else C.2.2.2, nthN lens k, .inr (.inr (.inr (.inr (fun j => some (ad (kel k) (kbs k + j))))))) := by
  unfold entW kcc; rw [h]; try rfl
theorem cell_at {k i : Nat} (hk : k < 30) (h : okv (zR k i)) : ∃ q : Nat, cellsL[q]? = some (k, i) := by
  rcases h with h | h
  · exact List.getElem?_of_mem (cellsL_mem h.1 h.2)
  · omega
def Ctx (p : Program) (s : State) (m : MethodId) (args : Array Value) (c : Code) (own : Nat) (bs : ByteArray) (nL : Nat) (D : va_G) (ad : Nat → Nat → Nat) (C : CI4) (A : Nat → Prop) (S : Mem) : Prop :=
  p.tables.exec = Jvm.exec ∧ c.code = bs ∧ c.maxLocals = nL ∧ s.vm.findClass (ownS own) = some m.cls ∧ (∀ w ∈ gtb, w.before args s = true) ∧ va_K D vwCl (tysC C) s ∧ va_Nw nstW s ∧ Sta ad S A s
def XS (p : Program) (l : Launch) (e : Env) (R : Room) (s : State) (m : MethodId) (args : Array Value) (below : List Frame) (meth : Method) (c : Code) (cells slots : Nat) (Qw : State → Prop) (nL : Nat) (D : va_G) (ad : Nat → Nat → Nat) (C : CI4) (A : Nat → Prop) (S : Mem) (F : Fr) (M : Mem) : Prop :=
  ∀ (H : Heap) (locs : List Loc) (ls : Array Slot), Wd D ad C A S M H → va_S A s.heap H locs → LH ad ls nL F.2.1 → (∀ v ∈ F.2.1, okv v) → (∀ v ∈ F.2.2, okv v) → W p l e R s m args below meth c H locs cells slots Qw (F0 m F.1 ls (F.2.2.map (cv ad)))
theorem ok_c {v : AV} {r : List AV} (h : okv v) (g : ∀ x ∈ r, okv x) : ∀ x ∈ v :: r, okv x := List.forall_mem_cons.mpr ⟨h, g⟩
theorem ok_1 {a : AV} {r : List AV} (g : ∀ x ∈ a :: r, okv x) : ∀ x ∈ r, okv x := fun x h => g x (List.mem_cons_of_mem _ h)
theorem ok_h {a : AV} {r : List AV} (g : ∀ x ∈ a :: r, okv x) : okv a := g a List.mem_cons_self
section Snd
variable {p : Program} {l : Launch} {e : Env} {R : Room} {s : State} {m : MethodId} {args : Array Value} {below : List Frame} {meth : Method} {c : Code} {cells slots : Nat} {Qw : State → Prop} {own : Nat} {bs : ByteArray} {nL : Nat} {D : va_G} {ad : Nat → Nat → Nat} {C : CI4} {A : Nat → Prop} {S : Mem}
variable {call : Call} {rt : Nat} {Q : Option AV → Mem → Prop} {pc len : Nat} {aux : List Nat} {kn : Int32} {L st : List AV} {M : Mem}

theorem st_iadd (hC : Ctx p s m args c own bs nL D ad C A S) (hE : okE own bs pc (.iadd, len, aux, kn) = true) (h : stp call rt Q (XS p l e R s m args below meth c cells slots Qw nL D ad C A S) (.iadd, len, aux, kn) pc L st M) : (XS p l e R s m args below meth c cells slots Qw nL D ad C A S) (pc, L, st) M := by
  obtain ⟨hd, hl, hlk⟩ := okE_v hE rfl
  obtain ⟨hx, hb, hml, hown, hts, hK, hnw, hst⟩ := hC
  have hl : 1 = len := hl.resolve_left (by simp [elen])
  subst hl
  obtain ⟨x, y, r, rfl, h⟩ := sII_v h
  intro H locs ls hW hS hL o1 o2
  show W p l e R s m args below meth c H locs cells slots Qw (F0 m pc ls (.int y :: .int x :: r.map (cv ad)))
  exact lv_iadd hx hb hd (h H locs ls hW hS hL o1 (ok_c trivial (ok_1 (ok_1 o2))))
theorem st_isub (hC : Ctx p s m args c own bs nL D ad C A S) (hE : okE own bs pc (.isub, len, aux, kn) = true) (h : stp call rt Q (XS p l e R s m args below meth c cells slots Qw nL D ad C A S) (.isub, len, aux, kn) pc L st M) : (XS p l e R s m args below meth c cells slots Qw nL D ad C A S) (pc, L, st) M := by
  obtain ⟨hd, hl, hlk⟩ := okE_v hE rfl
  obtain ⟨hx, hb, hml, hown, hts, hK, hnw, hst⟩ := hC
  have hl : 1 = len := hl.resolve_left (by simp [elen])
  subst hl
  obtain ⟨x, y, r, rfl, h⟩ := sII_v h
  intro H locs ls hW hS hL o1 o2
  show W p l e R s m args below meth c H locs cells slots Qw (F0 m pc ls (.int y :: .int x :: r.map (cv ad)))
  exact lv_isub hx hb hd (h H locs ls hW hS hL o1 (ok_c trivial (ok_1 (ok_1 o2))))
theorem st_imul (hC : Ctx p s m args c own bs nL D ad C A S) (hE : okE own bs pc (.imul, len, aux, kn) = true) (h : stp call rt Q (XS p l e R s m args below meth c cells slots Qw nL D ad C A S) (.imul, len, aux, kn) pc L st M) : (XS p l e R s m args below meth c cells slots Qw nL D ad C A S) (pc, L, st) M := by
  obtain ⟨hd, hl, hlk⟩ := okE_v hE rfl
  obtain ⟨hx, hb, hml, hown, hts, hK, hnw, hst⟩ := hC
  have hl : 1 = len := hl.resolve_left (by simp [elen])
  subst hl
  obtain ⟨x, y, r, rfl, h⟩ := sII_v h
  intro H locs ls hW hS hL o1 o2
  show W p l e R s m args below meth c H locs cells slots Qw (F0 m pc ls (.int y :: .int x :: r.map (cv ad)))
  exact lv_imul hx hb hd (h H locs ls hW hS hL o1 (ok_c trivial (ok_1 (ok_1 o2))))
theorem st_iand (hC : Ctx p s m args c own bs nL D ad C A S) (hE : okE own bs pc (.iand, len, aux, kn) = true) (h : stp call rt Q (XS p l e R s m args below meth c cells slots Qw nL D ad C A S) (.iand, len, aux, kn) pc L st M) : (XS p l e R s m args below meth c cells slots Qw nL D ad C A S) (pc, L, st) M := by
  obtain ⟨hd, hl, hlk⟩ := okE_v hE rfl
  obtain ⟨hx, hb, hml, hown, hts, hK, hnw, hst⟩ := hC
  have hl : 1 = len := hl.resolve_left (by simp [elen])
  subst hl
  obtain ⟨x, y, r, rfl, h⟩ := sII_v h
  intro H locs ls hW hS hL o1 o2
  show W p l e R s m args below meth c H locs cells slots Qw (F0 m pc ls (.int y :: .int x :: r.map (cv ad)))
  exact lv_iand hx hb hd (h H locs ls hW hS hL o1 (ok_c trivial (ok_1 (ok_1 o2))))
theorem st_ior (hC : Ctx p s m args c own bs nL D ad C A S) (hE : okE own bs pc (.ior, len, aux, kn) = true) (h : stp call rt Q (XS p l e R s m args below meth c cells slots Qw nL D ad C A S) (.ior, len, aux, kn) pc L st M) : (XS p l e R s m args below meth c cells slots Qw nL D ad C A S) (pc, L, st) M := by
  obtain ⟨hd, hl, hlk⟩ := okE_v hE rfl
  obtain ⟨hx, hb, hml, hown, hts, hK, hnw, hst⟩ := hC
  have hl : 1 = len := hl.resolve_left (by simp [elen])
  subst hl
  obtain ⟨x, y, r, rfl, h⟩ := sII_v h
  intro H locs ls hW hS hL o1 o2
  show W p l e R s m args below meth c H locs cells slots Qw (F0 m pc ls (.int y :: .int x :: r.map (cv ad)))
  exact lv_ior hx hb hd (h H locs ls hW hS hL o1 (ok_c trivial (ok_1 (ok_1 o2))))
theorem st_ixor (hC : Ctx p s m args c own bs nL D ad C A S) (hE : okE own bs pc (.ixor, len, aux, kn) = true) (h : stp call rt Q (XS p l e R s m args below meth c cells slots Qw nL D ad C A S) (.ixor, len, aux, kn) pc L st M) : (XS p l e R s m args below meth c cells slots Qw nL D ad C A S) (pc, L, st) M := by
  obtain ⟨hd, hl, hlk⟩ := okE_v hE rfl
  obtain ⟨hx, hb, hml, hown, hts, hK, hnw, hst⟩ := hC
  have hl : 1 = len := hl.resolve_left (by simp [elen])
  subst hl
  obtain ⟨x, y, r, rfl, h⟩ := sII_v h
  intro H locs ls hW hS hL o1 o2
  show W p l e R s m args below meth c H locs cells slots Qw (F0 m pc ls (.int y :: .int x :: r.map (cv ad)))
  exact lv_ixor hx hb hd (h H locs ls hW hS hL o1 (ok_c trivial (ok_1 (ok_1 o2))))
theorem st_ishl (hC : Ctx p s m args c own bs nL D ad C A S) (hE : okE own bs pc (.ishl, len, aux, kn) = true) (h : stp call rt Q (XS p l e R s m args below meth c cells slots Qw nL D ad C A S) (.ishl, len, aux, kn) pc L st M) : (XS p l e R s m args below meth c cells slots Qw nL D ad C A S) (pc, L, st) M := by
  obtain ⟨hd, hl, hlk⟩ := okE_v hE rfl
  obtain ⟨hx, hb, hml, hown, hts, hK, hnw, hst⟩ := hC
  have hl : 1 = len := hl.resolve_left (by simp [elen])
  subst hl
  obtain ⟨x, y, r, rfl, h⟩ := sII_v h
  intro H locs ls hW hS hL o1 o2
  show W p l e R s m args below meth c H locs cells slots Qw (F0 m pc ls (.int y :: .int x :: r.map (cv ad)))
  exact lv_ishl hx hb hd (h H locs ls hW hS hL o1 (ok_c trivial (ok_1 (ok_1 o2))))
theorem st_ishr (hC : Ctx p s m args c own bs nL D ad C A S) (hE : okE own bs pc (.ishr, len, aux, kn) = true) (h : stp call rt Q (XS p l e R s m args below meth c cells slots Qw nL D ad C A S) (.ishr, len, aux, kn) pc L st M) : (XS p l e R s m args below meth c cells slots Qw nL D ad C A S) (pc, L, st) M := by
  obtain ⟨hd, hl, hlk⟩ := okE_v hE rfl
  obtain ⟨hx, hb, hml, hown, hts, hK, hnw, hst⟩ := hC
  have hl : 1 = len := hl.resolve_left (by simp [elen])
  subst hl
  obtain ⟨x, y, r, rfl, h⟩ := sII_v h
  intro H locs ls hW hS hL o1 o2
  show W p l e R s m args below meth c H locs cells slots Qw (F0 m pc ls (.int y :: .int x :: r.map (cv ad)))
  exact lv_ishr hx hb hd (h H locs ls hW hS hL o1 (ok_c trivial (ok_1 (ok_1 o2))))
theorem st_iushr (hC : Ctx p s m args c own bs nL D ad C A S) (hE : okE own bs pc (.iushr, len, aux, kn) = true) (h : stp call rt Q (XS p l e R s m args below meth c cells slots Qw nL D ad C A S) (.iushr, len, aux, kn) pc L st M) : (XS p l e R s m args below meth c cells slots Qw nL D ad C A S) (pc, L, st) M := by
  obtain ⟨hd, hl, hlk⟩ := okE_v hE rfl
  obtain ⟨hx, hb, hml, hown, hts, hK, hnw, hst⟩ := hC
  have hl : 1 = len := hl.resolve_left (by simp [elen])
  subst hl
  obtain ⟨x, y, r, rfl, h⟩ := sII_v h
  intro H locs ls hW hS hL o1 o2
  show W p l e R s m args below meth c H locs cells slots Qw (F0 m pc ls (.int y :: .int x :: r.map (cv ad)))
  exact lv_iushr hx hb hd rfl (h H locs ls hW hS hL o1 (ok_c trivial (ok_1 (ok_1 o2))))
theorem st_idiv (hC : Ctx p s m args c own bs nL D ad C A S) (hE : okE own bs pc (.idiv, len, aux, kn) = true) (h : stp call rt Q (XS p l e R s m args below meth c cells slots Qw nL D ad C A S) (.idiv, len, aux, kn) pc L st M) : (XS p l e R s m args below meth c cells slots Qw nL D ad C A S) (pc, L, st) M := by
  obtain ⟨hd, hl, hlk⟩ := okE_v hE rfl
  obtain ⟨hx, hb, hml, hown, hts, hK, hnw, hst⟩ := hC
  have hl : 1 = len := hl.resolve_left (by simp [elen])
  subst hl
  obtain ⟨x, y, r, rfl, hn, h⟩ := sII_v h
  intro H locs ls hW hS hL o1 o2
  show W p l e R s m args below meth c H locs cells slots Qw (F0 m pc ls (.int y :: .int x :: r.map (cv ad)))
  exact lv_idiv hx hb hd hn (h H locs ls hW hS hL o1 (ok_c trivial (ok_1 (ok_1 o2))))
theorem st_irem (hC : Ctx p s m args c own bs nL D ad C A S) (hE : okE own bs pc (.irem, len, aux, kn) = true) (h : stp call rt Q (XS p l e R s m args below meth c cells slots Qw nL D ad C A S) (.irem, len, aux, kn) pc L st M) : (XS p l e R s m args below meth c cells slots Qw nL D ad C A S) (pc, L, st) M := by
  obtain ⟨hd, hl, hlk⟩ := okE_v hE rfl
  obtain ⟨hx, hb, hml, hown, hts, hK, hnw, hst⟩ := hC
  have hl : 1 = len := hl.resolve_left (by simp [elen])
  subst hl
  obtain ⟨x, y, r, rfl, hn, h⟩ := sII_v h
  intro H locs ls hW hS hL o1 o2
  show W p l e R s m args below meth c H locs cells slots Qw (F0 m pc ls (.int y :: .int x :: r.map (cv ad)))
  exact lv_irem hx hb hd hn (h H locs ls hW hS hL o1 (ok_c trivial (ok_1 (ok_1 o2))))
theorem st_lrem (hC : Ctx p s m args c own bs nL D ad C A S) (hE : okE own bs pc (.lrem, len, aux, kn) = true) (h : stp call rt Q (XS p l e R s m args below meth c cells slots Qw nL D ad C A S) (.lrem, len, aux, kn) pc L st M) : (XS p l e R s m args below meth c cells slots Qw nL D ad C A S) (pc, L, st) M := by
  obtain ⟨hd, hl, hlk⟩ := okE_v hE rfl
  obtain ⟨hx, hb, hml, hown, hts, hK, hnw, hst⟩ := hC
  have hl : 1 = len := hl.resolve_left (by simp [elen])
  subst hl
  obtain ⟨x, y, r, rfl, hn, h⟩ := sJJ_v h
  intro H locs ls hW hS hL o1 o2
  show W p l e R s m args below meth c H locs cells slots Qw (F0 m pc ls (.long y :: .long x :: r.map (cv ad)))
  exact lv_lrem hx hb hd hn (h H locs ls hW hS hL o1 (ok_c trivial (ok_1 (ok_1 o2))))
theorem st_lmul (hC : Ctx p s m args c own bs nL D ad C A S) (hE : okE own bs pc (.lmul, len, aux, kn) = true) (h : stp call rt Q (XS p l e R s m args below meth c cells slots Qw nL D ad C A S) (.lmul, len, aux, kn) pc L st M) : (XS p l e R s m args below meth c cells slots Qw nL D ad C A S) (pc, L, st) M := by
  obtain ⟨hd, hl, hlk⟩ := okE_v hE rfl
  obtain ⟨hx, hb, hml, hown, hts, hK, hnw, hst⟩ := hC
  have hl : 1 = len := hl.resolve_left (by simp [elen])
  subst hl
  obtain ⟨x, y, r, rfl, h⟩ := sJJ_v h
  intro H locs ls hW hS hL o1 o2
  show W p l e R s m args below meth c H locs cells slots Qw (F0 m pc ls (.long y :: .long x :: r.map (cv ad)))
  exact lv_lmul hx hb hd (h H locs ls hW hS hL o1 (ok_c trivial (ok_1 (ok_1 o2))))
theorem st_lcmp (hC : Ctx p s m args c own bs nL D ad C A S) (hE : okE own bs pc (.lcmp, len, aux, kn) = true) (h : stp call rt Q (XS p l e R s m args below meth c cells slots Qw nL D ad C A S) (.lcmp, len, aux, kn) pc L st M) : (XS p l e R s m args below meth c cells slots Qw nL D ad C A S) (pc, L, st) M := by
  obtain ⟨hd, hl, hlk⟩ := okE_v hE rfl
  obtain ⟨hx, hb, hml, hown, hts, hK, hnw, hst⟩ := hC
  have hl : 1 = len := hl.resolve_left (by simp [elen])
  subst hl
  obtain ⟨x, y, r, rfl, h⟩ := sJJ_v h
  intro H locs ls hW hS hL o1 o2
  show W p l e R s m args below meth c H locs cells slots Qw (F0 m pc ls (.long y :: .long x :: r.map (cv ad)))
  exact W.lcmp hx hb hd (h H locs ls hW hS hL o1 (ok_c trivial (ok_1 (ok_1 o2))))
theorem st_ineg (hC : Ctx p s m args c own bs nL D ad C A S) (hE : okE own bs pc (.ineg, len, aux, kn) = true) (h : stp call rt Q (XS p l e R s m args below meth c cells slots Qw nL D ad C A S) (.ineg, len, aux, kn) pc L st M) : (XS p l e R s m args below meth c cells slots Qw nL D ad C A S) (pc, L, st) M := by
  obtain ⟨hd, hl, hlk⟩ := okE_v hE rfl
  obtain ⟨hx, hb, hml, hown, hts, hK, hnw, hst⟩ := hC
  have hl : 1 = len := hl.resolve_left (by simp [elen])
  subst hl
  obtain ⟨x, r, rfl, h⟩ := sI_v h
  intro H locs ls hW hS hL o1 o2
  show W p l e R s m args below meth c H locs cells slots Qw (F0 m pc ls (.int x :: r.map (cv ad)))
  exact lv_ineg hx hb hd (h H locs ls hW hS hL o1 (ok_c trivial (ok_1 o2)))
theorem st_i2l (hC : Ctx p s m args c own bs nL D ad C A S) (hE : okE own bs pc (.i2l, len, aux, kn) = true) (h : stp call rt Q (XS p l e R s m args below meth c cells slots Qw nL D ad C A S) (.i2l, len, aux, kn) pc L st M) : (XS p l e R s m args below meth c cells slots Qw nL D ad C A S) (pc, L, st) M := by
  obtain ⟨hd, hl, hlk⟩ := okE_v hE rfl
  obtain ⟨hx, hb, hml, hown, hts, hK, hnw, hst⟩ := hC
  have hl : 1 = len := hl.resolve_left (by simp [elen])
  subst hl
  obtain ⟨x, r, rfl, h⟩ := sI_v h
  intro H locs ls hW hS hL o1 o2
  show W p l e R s m args below meth c H locs cells slots Qw (F0 m pc ls (.int x :: r.map (cv ad)))
  exact lv_i2l hx hb hd rfl (h H locs ls hW hS hL o1 (ok_c trivial (ok_1 o2)))
theorem st_i2b (hC : Ctx p s m args c own bs nL D ad C A S) (hE : okE own bs pc (.i2b, len, aux, kn) = true) (h : stp call rt Q (XS p l e R s m args below meth c cells slots Qw nL D ad C A S) (.i2b, len, aux, kn) pc L st M) : (XS p l e R s m args below meth c cells slots Qw nL D ad C A S) (pc, L, st) M := by
  obtain ⟨hd, hl, hlk⟩ := okE_v hE rfl
  obtain ⟨hx, hb, hml, hown, hts, hK, hnw, hst⟩ := hC
  have hl : 1 = len := hl.resolve_left (by simp [elen])
  subst hl
  obtain ⟨x, r, rfl, h⟩ := sI_v h
  intro H locs ls hW hS hL o1 o2
  show W p l e R s m args below meth c H locs cells slots Qw (F0 m pc ls (.int x :: r.map (cv ad)))
  exact lv_i2b hx hb hd rfl (h H locs ls hW hS hL o1 (ok_c trivial (ok_1 o2)))
theorem st_i2s (hC : Ctx p s m args c own bs nL D ad C A S) (hE : okE own bs pc (.i2s, len, aux, kn) = true) (h : stp call rt Q (XS p l e R s m args below meth c cells slots Qw nL D ad C A S) (.i2s, len, aux, kn) pc L st M) : (XS p l e R s m args below meth c cells slots Qw nL D ad C A S) (pc, L, st) M := by
  obtain ⟨hd, hl, hlk⟩ := okE_v hE rfl
  obtain ⟨hx, hb, hml, hown, hts, hK, hnw, hst⟩ := hC
  have hl : 1 = len := hl.resolve_left (by simp [elen])
  subst hl
  obtain ⟨x, r, rfl, h⟩ := sI_v h
  intro H locs ls hW hS hL o1 o2
  show W p l e R s m args below meth c H locs cells slots Qw (F0 m pc ls (.int x :: r.map (cv ad)))
  exact lv_i2s hx hb hd rfl (h H locs ls hW hS hL o1 (ok_c trivial (ok_1 o2)))
theorem st_l2i (hC : Ctx p s m args c own bs nL D ad C A S) (hE : okE own bs pc (.l2i, len, aux, kn) = true) (h : stp call rt Q (XS p l e R s m args below meth c cells slots Qw nL D ad C A S) (.l2i, len, aux, kn) pc L st M) : (XS p l e R s m args below meth c cells slots Qw nL D ad C A S) (pc, L, st) M := by
  obtain ⟨hd, hl, hlk⟩ := okE_v hE rfl
  obtain ⟨hx, hb, hml, hown, hts, hK, hnw, hst⟩ := hC
  have hl : 1 = len := hl.resolve_left (by simp [elen])
  subst hl
  obtain ⟨x, r, rfl, h⟩ := sJ_v h
  intro H locs ls hW hS hL o1 o2
  show W p l e R s m args below meth c H locs cells slots Qw (F0 m pc ls (.long x :: r.map (cv ad)))
  exact lv_l2i hx hb hd rfl (h H locs ls hW hS hL o1 (ok_c trivial (ok_1 o2)))
theorem st_iconst (hC : Ctx p s m args c own bs nL D ad C A S) {n : Int} (hE : okE own bs pc (.iconst n, len, aux, kn) = true) (h : stp call rt Q (XS p l e R s m args below meth c cells slots Qw nL D ad C A S) (.iconst n, len, aux, kn) pc L st M) : (XS p l e R s m args below meth c cells slots Qw nL D ad C A S) (pc, L, st) M := by
  obtain ⟨hd, hl, hlk⟩ := okE_v hE rfl
  obtain ⟨hx, hb, hml, hown, hts, hK, hnw, hst⟩ := hC
  have hl : 1 = len := hl.resolve_left (by simp [elen])
  subst hl
  intro H locs ls hW hS hL o1 o2
  show W p l e R s m args below meth c H locs cells slots Qw (F0 m pc ls (st.map (cv ad)))
  exact lv_iconst hx hb hd (of_decide_eq_true hlk) (h H locs ls hW hS hL o1 (ok_c trivial o2))
theorem st_bipush (hC : Ctx p s m args c own bs nL D ad C A S) {n : Int} (hE : okE own bs pc (.bipush n, len, aux, kn) = true) (h : stp call rt Q (XS p l e R s m args below meth c cells slots Qw nL D ad C A S) (.bipush n, len, aux, kn) pc L st M) : (XS p l e R s m args below meth c cells slots Qw nL D ad C A S) (pc, L, st) M := by
  obtain ⟨hd, hl, hlk⟩ := okE_v hE rfl
  obtain ⟨hx, hb, hml, hown, hts, hK, hnw, hst⟩ := hC
  have hl : 2 = len := hl.resolve_left (by simp [elen])
  subst hl
  intro H locs ls hW hS hL o1 o2
  show W p l e R s m args below meth c H locs cells slots Qw (F0 m pc ls (st.map (cv ad)))
  exact lv_bipush hx hb hd (of_decide_eq_true hlk) (h H locs ls hW hS hL o1 (ok_c trivial o2))
theorem st_sipush (hC : Ctx p s m args c own bs nL D ad C A S) {n : Int} (hE : okE own bs pc (.sipush n, len, aux, kn) = true) (h : stp call rt Q (XS p l e R s m args below meth c cells slots Qw nL D ad C A S) (.sipush n, len, aux, kn) pc L st M) : (XS p l e R s m args below meth c cells slots Qw nL D ad C A S) (pc, L, st) M := by
  obtain ⟨hd, hl, hlk⟩ := okE_v hE rfl
  obtain ⟨hx, hb, hml, hown, hts, hK, hnw, hst⟩ := hC
  have hl : 3 = len := hl.resolve_left (by simp [elen])
  subst hl
  intro H locs ls hW hS hL o1 o2
  show W p l e R s m args below meth c H locs cells slots Qw (F0 m pc ls (st.map (cv ad)))
  exact lv_sipush hx hb hd (of_decide_eq_true hlk) (h H locs ls hW hS hL o1 (ok_c trivial o2))
theorem st_lconst (hC : Ctx p s m args c own bs nL D ad C A S) {n : Fin 2} (hE : okE own bs pc (.lconst n, len, aux, kn) = true) (h : stp call rt Q (XS p l e R s m args below meth c cells slots Qw nL D ad C A S) (.lconst n, len, aux, kn) pc L st M) : (XS p l e R s m args below meth c cells slots Qw nL D ad C A S) (pc, L, st) M := by
  obtain ⟨hd, hl, hlk⟩ := okE_v hE rfl
  obtain ⟨hx, hb, hml, hown, hts, hK, hnw, hst⟩ := hC
  have hl : 1 = len := hl.resolve_left (by simp [elen])
  subst hl
  intro H locs ls hW hS hL o1 o2
  show W p l e R s m args below meth c H locs cells slots Qw (F0 m pc ls (st.map (cv ad)))
  exact lv_lconst hx hb hd (of_decide_eq_true hlk) (h H locs ls hW hS hL o1 (ok_c trivial o2))
theorem st_ldc (hC : Ctx p s m args c own bs nL D ad C A S) {n : Nat} (hE : okE own bs pc (.ldc n, len, aux, kn) = true) (h : stp call rt Q (XS p l e R s m args below meth c cells slots Qw nL D ad C A S) (.ldc n, len, aux, kn) pc L st M) : (XS p l e R s m args below meth c cells slots Qw nL D ad C A S) (pc, L, st) M := by
  obtain ⟨hd, hl, hlk⟩ := okE_v hE rfl
  obtain ⟨hx, hb, hml, hown, hts, hK, hnw, hst⟩ := hC
  have hl : 2 = len := hl.resolve_left (by simp [elen])
  subst hl
  have hm := List.mem_of_getElem? (of_decide_eq_true hlk : CLs[a0 aux]? = some (own, n, kn))
  intro H locs ls hW hS hL o1 o2
  show W p l e R s m args below meth c H locs cells slots Qw (F0 m pc ls (st.map (cv ad)))
  exact lv_ldc hx hb hown (hts _ (gtb_of (isSub_mem _ _ sub_cl _ (List.mem_map.mpr ⟨_, hm, rfl⟩)) rfl)) hd (h H locs ls hW hS hL o1 (ok_c trivial o2))
theorem st_ldc_w (hC : Ctx p s m args c own bs nL D ad C A S) {n : Nat} (hE : okE own bs pc (.ldc_w n, len, aux, kn) = true) (h : stp call rt Q (XS p l e R s m args below meth c cells slots Qw nL D ad C A S) (.ldc_w n, len, aux, kn) pc L st M) : (XS p l e R s m args below meth c cells slots Qw nL D ad C A S) (pc, L, st) M := by
  obtain ⟨hd, hl, hlk⟩ := okE_v hE rfl
  obtain ⟨hx, hb, hml, hown, hts, hK, hnw, hst⟩ := hC
  have hl : 3 = len := hl.resolve_left (by simp [elen])
  subst hl
  have hm := List.mem_of_getElem? (of_decide_eq_true hlk : CLs[a0 aux]? = some (own, n, kn))
  intro H locs ls hW hS hL o1 o2
  show W p l e R s m args below meth c H locs cells slots Qw (F0 m pc ls (st.map (cv ad)))
  exact lv_ldcw hx hb hown (hts _ (gtb_of (isSub_mem _ _ sub_cl _ (List.mem_map.mpr ⟨_, hm, rfl⟩)) rfl)) hd (h H locs ls hW hS hL o1 (ok_c trivial o2))
theorem st_ldc2_w (hC : Ctx p s m args c own bs nL D ad C A S) {n : Nat} (hE : okE own bs pc (.ldc2_w n, len, aux, kn) = true) (h : stp call rt Q (XS p l e R s m args below meth c cells slots Qw nL D ad C A S) (.ldc2_w n, len, aux, kn) pc L st M) : (XS p l e R s m args below meth c cells slots Qw nL D ad C A S) (pc, L, st) M := by
  obtain ⟨hd, hl, hlk⟩ := okE_v hE rfl
  obtain ⟨hx, hb, hml, hown, hts, hK, hnw, hst⟩ := hC
  have hl : 3 = len := hl.resolve_left (by simp [elen])
  subst hl
  have hm := List.mem_of_getElem? (of_decide_eq_true hlk : CJs[a0 aux]? = some (own, n, kn))
  intro H locs ls hW hS hL o1 o2
  show W p l e R s m args below meth c H locs cells slots Qw (F0 m pc ls (st.map (cv ad)))
  exact lv_ldc2 hx hb hown (hts _ (gtb_of (isSub_mem _ _ sub_cj _ (List.mem_map.mpr ⟨_, hm, rfl⟩)) rfl)) hd (h H locs ls hW hS hL o1 (ok_c trivial o2))
theorem st_iload (hC : Ctx p s m args c own bs nL D ad C A S) {n : Nat} (hE : okE own bs pc (.iload n, len, aux, kn) = true) (h : stp call rt Q (XS p l e R s m args below meth c cells slots Qw nL D ad C A S) (.iload n, len, aux, kn) pc L st M) : (XS p l e R s m args below meth c cells slots Qw nL D ad C A S) (pc, L, st) M := by
  obtain ⟨hd, hl, hlk⟩ := okE_v hE rfl
  obtain ⟨hx, hb, hml, hown, hts, hK, hnw, hst⟩ := hC
  have hl : 2 = len := hl.resolve_left (by simp [elen])
  subst hl
  obtain ⟨x, hv, h⟩ := gI_v h
  intro H locs ls hW hS hL o1 o2
  have ha := hL.at (n := n) (by rw [hv]; rfl)
  rw [show nthV (pc, L, st).2.1 n = nthV L n from rfl, hv] at ha
  show W p l e R s m args below meth c H locs cells slots Qw (F0 m pc ls (st.map (cv ad)))
  exact lv_iload hx hb hd ha (h H locs ls hW hS hL o1 (ok_c trivial o2))
theorem st_iload_n (hC : Ctx p s m args c own bs nL D ad C A S) {n : Fin 4} (hE : okE own bs pc (.iload_n n, len, aux, kn) = true) (h : stp call rt Q (XS p l e R s m args below meth c cells slots Qw nL D ad C A S) (.iload_n n, len, aux, kn) pc L st M) : (XS p l e R s m args below meth c cells slots Qw nL D ad C A S) (pc, L, st) M := by
  obtain ⟨hd, hl, hlk⟩ := okE_v hE rfl
  obtain ⟨hx, hb, hml, hown, hts, hK, hnw, hst⟩ := hC
  have hl : 1 = len := hl.resolve_left (by simp [elen])
  subst hl
  obtain ⟨x, hv, h⟩ := gI_v h
  intro H locs ls hW hS hL o1 o2
  have ha := hL.at (n := n.val) (by rw [hv]; rfl)
  rw [show nthV (pc, L, st).2.1 n.val = nthV L n.val from rfl, hv] at ha
  show W p l e R s m args below meth c H locs cells slots Qw (F0 m pc ls (st.map (cv ad)))
  exact lv_iload_n hx hb hd rfl ha (h H locs ls hW hS hL o1 (ok_c trivial o2))
theorem st_lload (hC : Ctx p s m args c own bs nL D ad C A S) {n : Nat} (hE : okE own bs pc (.lload n, len, aux, kn) = true) (h : stp call rt Q (XS p l e R s m args below meth c cells slots Qw nL D ad C A S) (.lload n, len, aux, kn) pc L st M) : (XS p l e R s m args below meth c cells slots Qw nL D ad C A S) (pc, L, st) M := by
  obtain ⟨hd, hl, hlk⟩ := okE_v hE rfl
  obtain ⟨hx, hb, hml, hown, hts, hK, hnw, hst⟩ := hC
  have hl : 2 = len := hl.resolve_left (by simp [elen])
  subst hl
  obtain ⟨x, hv, h⟩ := gJ_v h
  intro H locs ls hW hS hL o1 o2
  have ha := hL.at (n := n) (by rw [hv]; rfl)
  rw [show nthV (pc, L, st).2.1 n = nthV L n from rfl, hv] at ha
  show W p l e R s m args below meth c H locs cells slots Qw (F0 m pc ls (st.map (cv ad)))
  exact lv_lload hx hb hd ha (h H locs ls hW hS hL o1 (ok_c trivial o2))
theorem st_aload (hC : Ctx p s m args c own bs nL D ad C A S) {n : Nat} (hE : okE own bs pc (.aload n, len, aux, kn) = true) (h : stp call rt Q (XS p l e R s m args below meth c cells slots Qw nL D ad C A S) (.aload n, len, aux, kn) pc L st M) : (XS p l e R s m args below meth c cells slots Qw nL D ad C A S) (pc, L, st) M := by
  obtain ⟨hd, hl, hlk⟩ := okE_v hE rfl
  obtain ⟨hx, hb, hml, hown, hts, hK, hnw, hst⟩ := hC
  have hl : 2 = len := hl.resolve_left (by simp [elen])
  subst hl
  obtain ⟨k, i, hv, h⟩ := gR_v h
  intro H locs ls hW hS hL o1 o2
  have ha := hL.at (n := n) (by rw [hv]; rfl)
  rw [show nthV (pc, L, st).2.1 n = nthV L n from rfl, hv] at ha
  show W p l e R s m args below meth c H locs cells slots Qw (F0 m pc ls (st.map (cv ad)))
  exact lv_aload hx hb hd ha (h H locs ls hW hS hL o1 (ok_c ((nthV_mem L n).elim (fun q => absurd (hv.symm.trans q) (by simp)) (fun q => by rw [hv] at q; exact o1 _ q)) o2))
theorem st_aload_n (hC : Ctx p s m args c own bs nL D ad C A S) {n : Fin 4} (hE : okE own bs pc (.aload_n n, len, aux, kn) = true) (h : stp call rt Q (XS p l e R s m args below meth c cells slots Qw nL D ad C A S) (.aload_n n, len, aux, kn) pc L st M) : (XS p l e R s m args below meth c cells slots Qw nL D ad C A S) (pc, L, st) M := by
  obtain ⟨hd, hl, hlk⟩ := okE_v hE rfl
  obtain ⟨hx, hb, hml, hown, hts, hK, hnw, hst⟩ := hC
  have hl : 1 = len := hl.resolve_left (by simp [elen])
  subst hl
  obtain ⟨k, i, hv, h⟩ := gR_v h
  intro H locs ls hW hS hL o1 o2
  have ha := hL.at (n := n.val) (by rw [hv]; rfl)
  rw [show nthV (pc, L, st).2.1 n.val = nthV L n.val from rfl, hv] at ha
  show W p l e R s m args below meth c H locs cells slots Qw (F0 m pc ls (st.map (cv ad)))
  exact lv_aload_n hx hb hd rfl ha (h H locs ls hW hS hL o1 (ok_c ((nthV_mem L n.val).elim (fun q => absurd (hv.symm.trans q) (by simp)) (fun q => by rw [hv] at q; exact o1 _ q)) o2))
theorem st_istore (hC : Ctx p s m args c own bs nL D ad C A S) {n : Nat} (hE : okE own bs pc (.istore n, len, aux, kn) = true) (h : stp call rt Q (XS p l e R s m args below meth c cells slots Qw nL D ad C A S) (.istore n, len, aux, kn) pc L st M) : (XS p l e R s m args below meth c cells slots Qw nL D ad C A S) (pc, L, st) M := by
  obtain ⟨hd, hl, hlk⟩ := okE_v hE rfl
  obtain ⟨hx, hb, hml, hown, hts, hK, hnw, hst⟩ := hC
  have hl : 2 = len := hl.resolve_left (by simp [elen])
  subst hl
  obtain ⟨x, r, rfl, h⟩ := sI_v h
  obtain ⟨hq, h⟩ := tB_v h
  rw [Bool.and_eq_true] at hq
  intro H locs ls hW hS hL o1 o2
  show W p l e R s m args below meth c H locs cells slots Qw (F0 m pc ls (.int x :: r.map (cv ad)))
  refine lv_istore (lv := lvl ad nL L) hx hb hd (LH.lv hL) (by rw [← hL.2.2.1]; exact inB_lt L _ hq.2) rfl (fun ls1 hl1 => ?_)
  exact h H locs ls1 hW hS (LH.st (v := zI x) hL hq.1 hq.2 hl1) (fun v hv => (setV_mem _ _ _ _ hv).elim (fun q => by rw [q]; exact trivial) (o1 v)) (ok_1 o2)
theorem st_istore_n (hC : Ctx p s m args c own bs nL D ad C A S) {n : Fin 4} (hE : okE own bs pc (.istore_n n, len, aux, kn) = true) (h : stp call rt Q (XS p l e R s m args below meth c cells slots Qw nL D ad C A S) (.istore_n n, len, aux, kn) pc L st M) : (XS p l e R s m args below meth c cells slots Qw nL D ad C A S) (pc, L, st) M := by
  obtain ⟨hd, hl, hlk⟩ := okE_v hE rfl
  obtain ⟨hx, hb, hml, hown, hts, hK, hnw, hst⟩ := hC
  have hl : 1 = len := hl.resolve_left (by simp [elen])
  subst hl
  obtain ⟨x, r, rfl, h⟩ := sI_v h
  obtain ⟨hq, h⟩ := tB_v h
  rw [Bool.and_eq_true] at hq
  intro H locs ls hW hS hL o1 o2
  show W p l e R s m args below meth c H locs cells slots Qw (F0 m pc ls (.int x :: r.map (cv ad)))
  refine lv_istore_n (lv := lvl ad nL L) hx hb hd rfl (LH.lv hL) (by rw [← hL.2.2.1]; exact inB_lt L _ hq.2) rfl (fun ls1 hl1 => ?_)
  exact h H locs ls1 hW hS (LH.st (v := zI x) hL hq.1 hq.2 hl1) (fun v hv => (setV_mem _ _ _ _ hv).elim (fun q => by rw [q]; exact trivial) (o1 v)) (ok_1 o2)
theorem st_astore (hC : Ctx p s m args c own bs nL D ad C A S) {n : Nat} (hE : okE own bs pc (.astore n, len, aux, kn) = true) (h : stp call rt Q (XS p l e R s m args below meth c cells slots Qw nL D ad C A S) (.astore n, len, aux, kn) pc L st M) : (XS p l e R s m args below meth c cells slots Qw nL D ad C A S) (pc, L, st) M := by
  obtain ⟨hd, hl, hlk⟩ := okE_v hE rfl
  obtain ⟨hx, hb, hml, hown, hts, hK, hnw, hst⟩ := hC
  have hl : 2 = len := hl.resolve_left (by simp [elen])
  subst hl
  obtain ⟨k, i, r, rfl, h⟩ := sR_v h
  obtain ⟨hq, h⟩ := tB_v h
  rw [Bool.and_eq_true] at hq
  intro H locs ls hW hS hL o1 o2
  show W p l e R s m args below meth c H locs cells slots Qw (F0 m pc ls (.ref (ad k i) :: r.map (cv ad)))
  refine lv_astore (lv := lvl ad nL L) hx hb hd (LH.lv hL) (by rw [← hL.2.2.1]; exact inB_lt L _ hq.2) rfl (fun ls1 hl1 => ?_)
  exact h H locs ls1 hW hS (LH.st (v := zR k i) hL hq.1 hq.2 hl1) (fun v hv => (setV_mem _ _ _ _ hv).elim (fun q => by rw [q]; exact ok_h o2) (o1 v)) (ok_1 o2)
theorem st_astore_n (hC : Ctx p s m args c own bs nL D ad C A S) {n : Fin 4} (hE : okE own bs pc (.astore_n n, len, aux, kn) = true) (h : stp call rt Q (XS p l e R s m args below meth c cells slots Qw nL D ad C A S) (.astore_n n, len, aux, kn) pc L st M) : (XS p l e R s m args below meth c cells slots Qw nL D ad C A S) (pc, L, st) M := by
  obtain ⟨hd, hl, hlk⟩ := okE_v hE rfl
  obtain ⟨hx, hb, hml, hown, hts, hK, hnw, hst⟩ := hC
  have hl : 1 = len := hl.resolve_left (by simp [elen])
  subst hl
  obtain ⟨k, i, r, rfl, h⟩ := sR_v h
  obtain ⟨hq, h⟩ := tB_v h
  rw [Bool.and_eq_true] at hq
  intro H locs ls hW hS hL o1 o2
  show W p l e R s m args below meth c H locs cells slots Qw (F0 m pc ls (.ref (ad k i) :: r.map (cv ad)))
  refine lv_astore_n (lv := lvl ad nL L) hx hb hd rfl (LH.lv hL) (by rw [← hL.2.2.1]; exact inB_lt L _ hq.2) rfl (fun ls1 hl1 => ?_)
  exact h H locs ls1 hW hS (LH.st (v := zR k i) hL hq.1 hq.2 hl1) (fun v hv => (setV_mem _ _ _ _ hv).elim (fun q => by rw [q]; exact ok_h o2) (o1 v)) (ok_1 o2)
theorem st_lstore (hC : Ctx p s m args c own bs nL D ad C A S) {n : Nat} (hE : okE own bs pc (.lstore n, len, aux, kn) = true) (h : stp call rt Q (XS p l e R s m args below meth c cells slots Qw nL D ad C A S) (.lstore n, len, aux, kn) pc L st M) : (XS p l e R s m args below meth c cells slots Qw nL D ad C A S) (pc, L, st) M := by
  obtain ⟨hd, hl, hlk⟩ := okE_v hE rfl
  obtain ⟨hx, hb, hml, hown, hts, hK, hnw, hst⟩ := hC
  have hl : 2 = len := hl.resolve_left (by simp [elen])
  subst hl
  obtain ⟨x, r, rfl, h⟩ := sJ_v h
  obtain ⟨hq, h⟩ := tB_v h
  rw [Bool.and_eq_true] at hq
  intro H locs ls hW hS hL o1 o2
  show W p l e R s m args below meth c H locs cells slots Qw (F0 m pc ls (.long x :: r.map (cv ad)))
  refine lv_lstore (lv := lvl ad nL L) hx hb hd (LH.lv hL) (by rw [← hL.2.2.1]; exact inB_lt L _ hq.2) rfl (fun ls1 hl1 => ?_)
  exact h H locs ls1 hW hS (LH.stJ hL hq.1 hq.2 hl1) (fun v hv => (setV_mem _ _ _ _ hv).elim (fun q => by rw [q]; trivial) (fun q => (setV_mem _ _ _ _ q).elim (fun q => by rw [q]; trivial) (o1 v))) (ok_1 o2)
theorem st_iinc (hC : Ctx p s m args c own bs nL D ad C A S) {n : Nat} {z : Int} (hE : okE own bs pc (.iinc n z, len, aux, kn) = true) (h : stp call rt Q (XS p l e R s m args below meth c cells slots Qw nL D ad C A S) (.iinc n z, len, aux, kn) pc L st M) : (XS p l e R s m args below meth c cells slots Qw nL D ad C A S) (pc, L, st) M := by
  obtain ⟨hd, hl, hlk⟩ := okE_v hE rfl
  obtain ⟨hx, hb, hml, hown, hts, hK, hnw, hst⟩ := hC
  have hl : 3 = len := hl.resolve_left (by simp [elen])
  subst hl
  obtain ⟨x, hv, h⟩ := gI_v h
  obtain ⟨hq, h⟩ := tB_v h
  rw [Bool.and_eq_true] at hq
  intro H locs ls hW hS hL o1 o2
  have hu : isU (nthV L n) = false := by rw [hv]; rfl
  obtain ⟨kk, hkk⟩ := List.getElem?_of_mem (lvl_mem (ad := ad) (nL := nL) (L := L) (n := n) (by rw [← hL.2.2.1]; exact inB_lt L _ hq.2) hu)
  rw [hv] at hkk
  show W p l e R s m args below meth c H locs cells slots Qw (F0 m pc ls (st.map (cv ad)))
  have hz : Int32.ofInt z = kn := of_decide_eq_true hlk
  refine lv_iinc (lv := lvl ad nL L) (v := x + kn) hx hb hd (LH.lv hL) hkk (by rw [hz]) (by rw [← hL.2.2.1]; exact inB_lt L _ hq.2) rfl (fun ls1 hl1 => ?_)
  exact h H locs ls1 hW hS (LH.st (v := zI (x + kn)) hL hq.1 hq.2 hl1) (fun v hv => (setV_mem _ _ _ _ hv).elim (fun q => by rw [q]; trivial) (o1 v)) o2
theorem st_dup (hC : Ctx p s m args c own bs nL D ad C A S) (hE : okE own bs pc (.dup, len, aux, kn) = true) (h : stp call rt Q (XS p l e R s m args below meth c cells slots Qw nL D ad C A S) (.dup, len, aux, kn) pc L st M) : (XS p l e R s m args below meth c cells slots Qw nL D ad C A S) (pc, L, st) M := by
  obtain ⟨hd, hl, hlk⟩ := okE_v hE rfl
  obtain ⟨hx, hb, hml, hown, hts, hK, hnw, hst⟩ := hC
  have hl : 1 = len := hl.resolve_left (by simp [elen])
  subst hl
  obtain ⟨v, r, rfl, hc, h⟩ := s1_v h
  intro H locs ls hW hS hL o1 o2
  show W p l e R s m args below meth c H locs cells slots Qw (F0 m pc ls (cv ad v :: r.map (cv ad)))
  exact lv_dup hx hb hd (cat_cv hc) (h H locs ls hW hS hL o1 (ok_c (ok_h o2) o2))
theorem st_pop (hC : Ctx p s m args c own bs nL D ad C A S) (hE : okE own bs pc (.pop, len, aux, kn) = true) (h : stp call rt Q (XS p l e R s m args below meth c cells slots Qw nL D ad C A S) (.pop, len, aux, kn) pc L st M) : (XS p l e R s m args below meth c cells slots Qw nL D ad C A S) (pc, L, st) M := by
  obtain ⟨hd, hl, hlk⟩ := okE_v hE rfl
  obtain ⟨hx, hb, hml, hown, hts, hK, hnw, hst⟩ := hC
  have hl : 1 = len := hl.resolve_left (by simp [elen])
  subst hl
  obtain ⟨v, r, rfl, hc, h⟩ := s1_v h
  intro H locs ls hW hS hL o1 o2
  show W p l e R s m args below meth c H locs cells slots Qw (F0 m pc ls (cv ad v :: r.map (cv ad)))
  exact lv_pop hx hb hd (cat_cv hc) (h H locs ls hW hS hL o1 (ok_1 o2))
theorem st_dup2 (hC : Ctx p s m args c own bs nL D ad C A S) (hE : okE own bs pc (.dup2, len, aux, kn) = true) (h : stp call rt Q (XS p l e R s m args below meth c cells slots Qw nL D ad C A S) (.dup2, len, aux, kn) pc L st M) : (XS p l e R s m args below meth c cells slots Qw nL D ad C A S) (pc, L, st) M := by
  obtain ⟨hd, hl, hlk⟩ := okE_v hE rfl
  obtain ⟨hx, hb, hml, hown, hts, hK, hnw, hst⟩ := hC
  have hl : 1 = len := hl.resolve_left (by simp [elen])
  subst hl
  obtain ⟨v, y, r, rfl, hc, hc2, h⟩ := s2_v h
  intro H locs ls hW hS hL o1 o2
  show W p l e R s m args below meth c H locs cells slots Qw (F0 m pc ls (cv ad v :: cv ad y :: r.map (cv ad)))
  exact lv_dup2_11 hx hb hd (cat_cv hc) (cat_cv hc2) (h H locs ls hW hS hL o1 (ok_c (ok_h o2) (ok_c (ok_h (ok_1 o2)) o2)))
theorem st_goto (hC : Ctx p s m args c own bs nL D ad C A S) {n : Int} (hE : okE own bs pc (.goto n, len, aux, kn) = true) (h : stp call rt Q (XS p l e R s m args below meth c cells slots Qw nL D ad C A S) (.goto n, len, aux, kn) pc L st M) : (XS p l e R s m args below meth c cells slots Qw nL D ad C A S) (pc, L, st) M := by
  obtain ⟨hd, hl, hlk⟩ := okE_v hE rfl
  obtain ⟨hx, hb, hml, hown, hts, hK, hnw, hst⟩ := hC
  have hl : 3 = len := hl.resolve_left (by simp [elen])
  subst hl
  intro H locs ls hW hS hL o1 o2
  show W p l e R s m args below meth c H locs cells slots Qw (F0 m pc ls (st.map (cv ad)))
  exact lv_goto hx hb hd (of_decide_eq_true hlk) (h H locs ls hW hS hL o1 o2)
theorem st_ifCond (hC : Ctx p s m args c own bs nL D ad C A S) {n : Int} {cd : ClassFile.Cond} (hE : okE own bs pc (.ifCond cd n, len, aux, kn) = true) (h : stp call rt Q (XS p l e R s m args below meth c cells slots Qw nL D ad C A S) (.ifCond cd n, len, aux, kn) pc L st M) : (XS p l e R s m args below meth c cells slots Qw nL D ad C A S) (pc, L, st) M := by
  obtain ⟨hd, hl, hlk⟩ := okE_v hE rfl
  obtain ⟨hx, hb, hml, hown, hts, hK, hnw, hst⟩ := hC
  have hl : 3 = len := hl.resolve_left (by simp [elen])
  subst hl
  obtain ⟨x, r, rfl, h⟩ := sI_v h
  intro H locs ls hW hS hL o1 o2
  show W p l e R s m args below meth c H locs cells slots Qw (F0 m pc ls (.int x :: r.map (cv ad)))
  cases cd with
  | eq => exact lv_if_eq hx hb hd (of_decide_eq_true hlk) (fun z => h.1 z H locs ls hW hS hL o1 (ok_1 o2)) (fun z => h.2 z H locs ls hW hS hL o1 (ok_1 o2))
  | ne => exact lv_if_ne hx hb hd (of_decide_eq_true hlk) (fun z => h.1 z H locs ls hW hS hL o1 (ok_1 o2)) (fun z => h.2 z H locs ls hW hS hL o1 (ok_1 o2))
  | lt => exact lv_if_lt hx hb hd (of_decide_eq_true hlk) (fun z => h.1 z H locs ls hW hS hL o1 (ok_1 o2)) (fun z => h.2 z H locs ls hW hS hL o1 (ok_1 o2))
  | ge => exact lv_if_ge hx hb hd (of_decide_eq_true hlk) (fun z => h.1 z H locs ls hW hS hL o1 (ok_1 o2)) (fun z => h.2 z H locs ls hW hS hL o1 (ok_1 o2))
  | gt => exact lv_if_gt hx hb hd (of_decide_eq_true hlk) (fun z => h.1 z H locs ls hW hS hL o1 (ok_1 o2)) (fun z => h.2 z H locs ls hW hS hL o1 (ok_1 o2))
  | le => exact lv_if_le hx hb hd (of_decide_eq_true hlk) (fun z => h.1 z H locs ls hW hS hL o1 (ok_1 o2)) (fun z => h.2 z H locs ls hW hS hL o1 (ok_1 o2))
theorem st_if_icmp (hC : Ctx p s m args c own bs nL D ad C A S) {n : Int} {cd : ClassFile.Cond} (hE : okE own bs pc (.if_icmp cd n, len, aux, kn) = true) (h : stp call rt Q (XS p l e R s m args below meth c cells slots Qw nL D ad C A S) (.if_icmp cd n, len, aux, kn) pc L st M) : (XS p l e R s m args below meth c cells slots Qw nL D ad C A S) (pc, L, st) M := by
  obtain ⟨hd, hl, hlk⟩ := okE_v hE rfl
  obtain ⟨hx, hb, hml, hown, hts, hK, hnw, hst⟩ := hC
  have hl : 3 = len := hl.resolve_left (by simp [elen])
  subst hl
  obtain ⟨x, y, r, rfl, h⟩ := sII_v h
  intro H locs ls hW hS hL o1 o2
  show W p l e R s m args below meth c H locs cells slots Qw (F0 m pc ls (.int y :: .int x :: r.map (cv ad)))
  cases cd with
  | eq => exact lv_icmp_eq hx hb hd (of_decide_eq_true hlk) (fun z => h.1 z H locs ls hW hS hL o1 (ok_1 (ok_1 o2))) (fun z => h.2 z H locs ls hW hS hL o1 (ok_1 (ok_1 o2)))
  | ne => exact lv_icmp_ne hx hb hd (of_decide_eq_true hlk) (fun z => h.1 z H locs ls hW hS hL o1 (ok_1 (ok_1 o2))) (fun z => h.2 z H locs ls hW hS hL o1 (ok_1 (ok_1 o2)))
  | lt => exact lv_icmp_lt hx hb hd (of_decide_eq_true hlk) (fun z => h.1 z H locs ls hW hS hL o1 (ok_1 (ok_1 o2))) (fun z => h.2 z H locs ls hW hS hL o1 (ok_1 (ok_1 o2)))
  | ge => exact lv_icmp_ge hx hb hd (of_decide_eq_true hlk) (fun z => h.1 z H locs ls hW hS hL o1 (ok_1 (ok_1 o2))) (fun z => h.2 z H locs ls hW hS hL o1 (ok_1 (ok_1 o2)))
  | gt => exact lv_icmp_gt hx hb hd (of_decide_eq_true hlk) (fun z => h.1 z H locs ls hW hS hL o1 (ok_1 (ok_1 o2))) (fun z => h.2 z H locs ls hW hS hL o1 (ok_1 (ok_1 o2)))
  | le => exact lv_icmp_le hx hb hd (of_decide_eq_true hlk) (fun z => h.1 z H locs ls hW hS hL o1 (ok_1 (ok_1 o2))) (fun z => h.2 z H locs ls hW hS hL o1 (ok_1 (ok_1 o2)))
end Snd
