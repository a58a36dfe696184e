/-! worlds of new objects -/
def wRow (C : CI4) (q : Nat) (u : Nat → Nat → Nat) : va_W := [(q, .inr (1, [.ref (u 3 0), .int (-1), .int 0])), (u 3 0, .inl (C.1, 40, .inl (fun _ => 0)))]
def wTape (C : CI4) (q : Nat) (u : Nat → Nat → Nat) : va_W := [(q, .inr (2, [.ref (u 5 0), .int 0, .int 0, .int 0, .int 0])), (u 5 0, .inl (C.1, 90, .inl (fun _ => 0)))]
def wTown (C : CI4) (q : Nat) (u : Nat → Nat → Nat) : va_W := [(q, .inr (3, [.ref (u 7 0), .ref (u 8 0), .ref (u 9 0), .ref (u 10 0), .ref (u 11 0), .int 0, .int 0, .int 0, .int 0, .int 0, .int 0, .int 0])), (u 7 0, .inl (C.1, 8, .inl (fun _ => 0))), (u 8 0, .inl (C.1, 8, .inl (fun _ => 0))), (u 9 0, .inl (C.1, 6, .inl (fun _ => 0))), (u 10 0, .inl (C.1, 6, .inl (fun _ => 0))), (u 11 0, .inl (C.1, 6, .inl (fun _ => 0)))]
abbrev rfs (f : Nat → Option Nat) (cq : ClassId) (N : Nat) : va_E := .inl (cq, N, .inr (.inr (.inr (.inr f))))
def rfN (a : Nat → Nat → Nat) (kJ o n : Nat) : Nat → Option Nat := fun j => if j < n then some (a kJ (o + j)) else none
def ldL (wJ : Nat → (Nat → Nat → Nat) → va_W) (kJ o : Nat) (a : Nat → Nat → Nat) : Nat → va_W
  | 0 => []
  | n + 1 => ldL wJ kJ o a n ++ wJ (a kJ (o + n)) (fun k _ => a k (o + n))
def wActs (C : CI4) (q : Nat) (u : Nat → Nat → Nat) : va_W := (q, .inr (0, [.ref (u 14 0), .int 0, .int 0])) :: (u 14 0, rfs (fun j => some (u 6 (4 + j))) C.2.2.2 24) :: ([] ++ ldL (wTown C) 6 4 u 24)
theorem wRow_c {C : CI4} (q : Nat) (u u' : Nat → Nat → Nat) (h : ∀ k, k ≠ 2 → u k 0 = u' k 0) : wRow C q u = wRow C q u' := by
  unfold wRow
  rw [h 3 (by omega)]
theorem wTown_c {C : CI4} (q : Nat) (u u' : Nat → Nat → Nat) (h : ∀ k, k ≠ 6 → u k 0 = u' k 0) : wTown C q u = wTown C q u' := by
  unfold wTown
  rw [h 7 (by omega), h 8 (by omega), h 9 (by omega), h 10 (by omega), h 11 (by omega)]
theorem wTown_d {C : CI4} (q : Nat) (u u' : Nat → Nat → Nat) (h : ∀ k, k < 12 → u k 0 = u' k 0) : wTown C q u = wTown C q u' := by
  unfold wTown
  rw [h 7 (by omega), h 8 (by omega), h 9 (by omega), h 10 (by omega), h 11 (by omega)]
theorem ldL_c {wJ : Nat → (Nat → Nat → Nat) → va_W} {kJ o : Nat} {a b : Nat → Nat → Nat} : ∀ n, (∀ t, t < n → ∀ k, a k (o + t) = b k (o + t)) → ldL wJ kJ o a n = ldL wJ kJ o b n
  | 0, _ => rfl
  | n + 1, h => by
    have e : (fun (k _ : Nat) => a k (o + n)) = (fun (k _ : Nat) => b k (o + n)) := funext (fun k => funext (fun _ => h n (by omega) k))
    unfold ldL
    rw [ldL_c n (fun t ht k => h t (by omega) k), h n (by omega) kJ, e]
/-- one more -/
theorem ld_one {wJ : Nat → (Nat → Nat → Nat) → va_W} {kJ o : Nat} (hwc : ∀ q u u', (∀ k, k ≠ kJ → u k 0 = u' k 0) → wJ q u = wJ q u') (a : Nat → Nat → Nat) (n q : Nat) (u : Nat → Nat → Nat) :
    ∃ a' : Nat → Nat → Nat, ldL wJ kJ o a' (n + 1) = ldL wJ kJ o a n ++ wJ q u ∧ rfN a' kJ o (n + 1) = va_up (rfN a kJ o n) n (some q) := by
  refine ⟨fun k i => if i = o + n then (if k = kJ then q else u k 0) else a k i, ?_, ?_⟩
  · show ldL wJ kJ o _ n ++ wJ (if o + n = o + n then (if kJ = kJ then q else u kJ 0) else a kJ (o + n)) (fun k _ => if o + n = o + n then (if k = kJ then q else u k 0) else a k (o + n)) = _
    rw [if_pos rfl, if_pos rfl, ldL_c (b := a) n (fun t ht k => by show (if o + t = o + n then _ else a k (o + t)) = _; rw [if_neg (by omega)]), hwc q _ u (fun k hk => by rw [if_pos rfl, if_neg hk])]
  · funext j
    show (if j < n + 1 then some (if o + j = o + n then (if kJ = kJ then q else u kJ 0) else a kJ (o + j)) else none) = if j = n then some q else (if j < n then some (a kJ (o + j)) else none)
    by_cases e : j = n
    · subst e
      rw [if_pos (by omega), if_pos rfl, if_pos rfl, if_pos rfl]
    · rw [if_neg e]
      by_cases e2 : j < n
      · rw [if_pos (by omega), if_pos e2, if_neg (by omega)]
      · rw [if_neg (by omega), if_neg e2]
theorem arrV_cg {cA : ClassId} {n : Nat} {f g : Nat → Value} (h : ∀ j, j < n → f j = g j) : arrV cA n f = arrV cA n g := by
  unfold arrV
  congr 1
  apply Array.ext
  · simp
  · intro i h1 h2
    simp at h1
    simp [h i h1]
theorem P_ref {D : va_G} {cl : List vw_C} {x : Nat × va_E} {qa N : Nat} {cq : ClassId} {f g : Nat → Option Nat} {r : va_W} {H : Heap} (h : va_P D cl (x :: (qa, rfs f cq N) :: r) H) (hfg : ∀ j, j < N → f j = g j) : va_P D cl (x :: (qa, rfs g cq N) :: r) H := by
  refine P_mem.mpr (fun q hq => ?_)
  rcases List.mem_cons.mp hq with z | z
  · exact P_mem.mp h q (by rw [z]; exact List.mem_cons_self)
  · rcases List.mem_cons.mp z with z | z
    · have h1 : H[qa]? = some (vp_cell cq (N, .inr (.inr (.inr (.inr f))))) := P_mem.mp h (qa, rfs f cq N) (List.mem_cons_of_mem _ List.mem_cons_self)
      rw [z]
      show H[qa]? = some (vp_cell cq (N, .inr (.inr (.inr (.inr g)))))
      rw [h1, vp_cell_q, vp_cell_q, arrV_cg (fun j hj => by rw [hfg j hj])]
    · exact P_mem.mp h q (List.mem_cons_of_mem _ (List.mem_cons_of_mem _ z))
theorem D_ref {A : Nat → Prop} {x : Nat × va_E} {qa N : Nat} {cq : ClassId} {f g : Nat → Option Nat} {r : va_W} (h : va_D A (x :: (qa, rfs f cq N) :: r)) : va_D A (x :: (qa, rfs g cq N) :: r) := by
  obtain ⟨h1, h2⟩ := D_nd.mp h
  refine D_nd.mpr ⟨h1, fun q hq => ?_⟩
  rcases List.mem_cons.mp hq with z | z
  · exact h2 q (by rw [z]; exact List.mem_cons_self)
  · rcases List.mem_cons.mp z with z | z
    · rw [z]; exact h2 (qa, rfs f cq N) (List.mem_cons_of_mem _ List.mem_cons_self)
    · exact h2 q (List.mem_cons_of_mem _ (List.mem_cons_of_mem _ z))
set_option maxHeartbeats 2000000 in
/-- a loop that fills an array with new objects -/
theorem mk_loop {p : Program} {l : Launch} {e : Env} {R : Room} {s : State} {m : MethodId} {args : Array Value} {below : List Frame} {meth : Method} {c : Code} {Qw : State → Prop} {D : va_G} {C : CI4} {A : Nat → Prop} {bs : ByteArray}
    {ci cj kf N t0 h0 qa kJ o pH pX pB pl idxF idxC idxM maxL mc ms c0 s0 : Nat} {off off2 : Int} {fs fj : List Value} {cq : ClassId} {wJ : Nat → (Nat → Nat → Nat) → va_W} {X : va_W} {bytes : ByteArray} {rm : Room} {y : MethodName}
    (hx : p.tables.exec = Jvm.exec) (hb : c.code = bs) (hml : c.maxLocals = 2) (hown : s.vm.findClass (ownS ci) = some m.cls) (hts : ∀ w ∈ gtb, w.before args s = true) (hK : va_K D vwCl (tysC C) s) (hN : Nst s) (hA : ∀ q, s.heap.size ≤ q → A q)
    (hci : ci < 6) (hcj : cj < 6) (hkf : kf < clsN ci) (hfs : fs[kf]? = some (.ref qa)) (hft : (clsT ci kf).1 = ownS ci) (hlk : Cond.fieldLink (ownS ci) idxF (ownS ci) (clsT ci kf).2.1 (clsT ci kf).2.2.1 ∈ gtb) (ht0 : (tysC C)[t0]? = some (cq, .object (ownS cj)))
    (hcl : Cond.classLink (ownS ci) idxC (ownS cj) ∈ gtb) (hinst : Cond.instantiable (ownS cj) (clsN cj) ∈ gtb) (hini : Cond.initialized (ownS cj) ∈ gtb) (hfj : ∀ j, j < clsN cj → defaultValue (clsY cj j) = vp_V fj j)
    (hM : MetI l D C y (.code y bytes maxL none) rm cj fj wJ mc ms) (hy : y = yIN (ownS cj)) (hyc : ownS cj ≠ "java/lang/invoke/MethodHandle" ∧ ownS cj ≠ "java/lang/invoke/VarHandle") (hlkM : va_Nw (.methodLinkNest (ownS ci) idxM y RX4) s) (hin : Cond.instanceMethod y ∈ gtb) (hco : Cond.code y bytes maxL none ∈ gtb)
    (hrm : rm.cells = mc ∧ rm.slots = ms ∧ rm.frames + 1 ≤ R.frames ∧ 8 + (maxL + 11) + rm.locals ≤ R.locals)
    (hwJ : ∀ q u, ∃ vs r, wJ q u = (q, .inr (cj, vs)) :: r) (hwc : ∀ q u u', (∀ k, k ≠ kJ → u k 0 = u' k 0) → wJ q u = wJ q u')
    (hR : c0 + (1 + mc) * N ≤ R.cells ∧ s0 + (clsN cj + ms) * N ≤ R.slots) (hN1 : N ≤ 1000) (hpB : pB = pH + 1 + pl + 3)
    (push : ∀ (H : Heap) (locs : List Loc) (cells slots : Nat) (ls : Array Slot) (rest : List Value), W p l e R s m args below meth c H locs cells slots Qw (F0 m (pH + 1 + pl) ls (.int (nI N) :: rest)) → W p l e R s m args below meth c H locs cells slots Qw (F0 m (pH + 1) ls rest))
    (dH : decode bs pH = .ok (.iload_n 1, 1)) (dI : decode bs (pH + 1 + pl) = .ok (.if_icmp .ge off, 3)) (hoff : ((pH + 1 + pl : Nat) : Int) + off = (pX : Int))
    (d0 : decode bs pB = .ok (.aload_n 0, 1)) (d1 : decode bs (pB + 1) = .ok (.getfield idxF, 3)) (d4 : decode bs (pB + 4) = .ok (.iload_n 1, 1)) (d5 : decode bs (pB + 5) = .ok (.new idxC, 3)) (d8 : decode bs (pB + 8) = .ok (.dup, 1)) (d9 : decode bs (pB + 9) = .ok (.invokespecial idxM, 3)) (d12 : decode bs (pB + 12) = .ok (.aastore, 1)) (d13 : decode bs (pB + 13) = .ok (.iinc 1 1, 3)) (d16 : decode bs (pB + 16) = .ok (.goto off2, 3)) (hoff2 : ((pB + 16 : Nat) : Int) + off2 = (pH : Int))
    (kE : ∀ (a : Nat → Nat → Nat) (H : Heap) (locs : List Loc) (ls : Array Slot), lv_has ls 2 [(1, .int (nI N)), (0, .ref h0)] → va_P D vwCl ((h0, .inr (ci, fs)) :: (qa, rfs (fun j => some (a kJ (o + j))) cq N) :: (X ++ ldL wJ kJ o a N)) H → va_D A ((h0, .inr (ci, fs)) :: (qa, rfs (fun j => some (a kJ (o + j))) cq N) :: (X ++ ldL wJ kJ o a N)) → va_S A s.heap H locs → W p l e R s m args below meth c H locs (c0 + (1 + mc) * N) (s0 + (clsN cj + ms) * N) Qw (F0 m pX ls [])) :
    ∀ (r n : Nat) (a : Nat → Nat → Nat) (H : Heap) (locs : List Loc) (ls : Array Slot), n + r = N → lv_has ls 2 [(1, .int (nI n)), (0, .ref h0)] → va_P D vwCl ((h0, .inr (ci, fs)) :: (qa, rfs (rfN a kJ o n) cq N) :: (X ++ ldL wJ kJ o a n)) H → va_D A ((h0, .inr (ci, fs)) :: (qa, rfs (rfN a kJ o n) cq N) :: (X ++ ldL wJ kJ o a n)) → va_S A s.heap H locs → W p l e R s m args below meth c H locs (c0 + (1 + mc) * n) (s0 + (clsN cj + ms) * n) Qw (F0 m pH ls []) := by
  subst hpB
  intro r
  induction r with
  | zero =>
    intro n a H locs ls en hl hP hD hS
    have en : n = N := by omega
    subst en
    refine lv_iload_n hx hb dH rfl (lv_at hl 0 rfl) (push _ _ _ _ _ _ (lv_icmp_ge hx hb dI hoff (fun _ => ?_) (fun z => absurd ((nle (by omega) (by omega)).mpr (Nat.le_refl _)) z)))
    exact kE a H locs ls hl (P_ref hP (fun j hj => by unfold rfN; rw [if_pos hj])) (D_ref hD) hS
  | succ r ih =>
    intro n a H locs ls en hl hP hD hS
    refine lv_iload_n hx hb dH rfl (lv_at hl 0 rfl) (push _ _ _ _ _ _ (lv_icmp_ge hx hb dI hoff (fun z => absurd ((nle (by omega) (by omega)).mp z) (by omega)) (fun _ => ?_)))
    refine lv_aload_n hx hb d0 rfl (lv_at hl 1 rfl) ?_
    refine va_get (ci := ci) (v := .ref qa) (C := ownS ci) (T := clsT ci) (N := clsN ci) hx hb hts (cl_ws ci hci) hown hK hP 0 rfl (cl_get ci hci) kf hkf (hts _ hlk) (fun x h => by rw [← hft]; exact h) hfs d1 ?_
    refine lv_iload_n hx hb d4 rfl (lv_at hl 0 rfl) ?_
    have b1 : (1 + mc) * n + (1 + mc) ≤ (1 + mc) * N := by
      rw [← Nat.mul_succ]; exact Nat.mul_le_mul_left _ (by omega)
    have b2 : (clsN cj + ms) * n + (clsN cj + ms) ≤ (clsN cj + ms) * N := by
      rw [← Nat.mul_succ]; exact Nat.mul_le_mul_left _ (by omega)
    refine new_n hx hb hml hown hts hK hN hl.1 hP hD hS hA hcj hcl hinst hini hfj hM hy hyc hlkM hin hco hrm ⟨by omega, by omega⟩ d5 d8 d9 (Nat.le_of_ble_eq_true rfl) (fun q u H1 locs1 hP hD hS => ?_)
    obtain ⟨vs, r0, ew⟩ := hwJ q u
    have hv : ((h0, .inr (ci, fs)) :: (qa, rfs (rfN a kJ o n) cq N) :: (X ++ ldL wJ kJ o a n) ++ wJ q u)[((h0, Sum.inr (ci, fs)) :: (qa, rfs (rfN a kJ o n) cq N) :: (X ++ ldL wJ kJ o a n)).length]? = some (q, .inr (cj, vs)) := by
      rw [List.getElem?_append_right (Nat.le_refl _), Nat.sub_self, ew]; rfl
    refine va_astq (r := (ownS cj, clsT cj, clsN cj)) hx hb hK hP hD hS 1 t0 _ cj rfl ht0 hv (cl_get cj hcj) (vin_i (by omega) (by omega)) d12 (fun H2 locs2 hP hD hS => ?_)
    rw [ncl (by omega)] at hP hD
    obtain ⟨a', e1, e2⟩ := ld_one (o := o) hwc a n q u
    have eL : ((h0, Sum.inr (ci, fs)) :: (qa, rfs (rfN a kJ o n) cq N) :: (X ++ ldL wJ kJ o a n) ++ wJ q u).set 1 (qa, rfs (va_up (rfN a kJ o n) n (some q)) cq N) = (h0, Sum.inr (ci, fs)) :: (qa, rfs (rfN a' kJ o (n + 1)) cq N) :: (X ++ ldL wJ kJ o a' (n + 1)) := by
      rw [e1, e2, ← List.append_assoc]
      rfl
    rw [eL] at hP hD
    refine lv_iinc (lv' := [(1, .int (nI (n + 1))), (0, .ref h0)]) (k := 0) hx hb d13 hl rfl (nI_1 n) (by decide) rfl (fun ls hl => ?_)
    refine lv_goto hx hb d16 hoff2 ?_
    refine W.widen (k := c0 + (1 + mc) * (n + 1)) (n := s0 + (clsN cj + ms) * (n + 1)) (by rw [Nat.mul_succ]; omega) (by rw [Nat.mul_succ]; omega) ?_
    exact ih (n + 1) a' H2 locs2 ls (by omega) hl hP hD hS
theorem ldTown_c {C : CI4} {o : Nat} {a b : Nat → Nat → Nat} : ∀ n, (∀ t, t < n → ∀ k, k < 12 → a k (o + t) = b k (o + t)) → ldL (wTown C) 6 o a n = ldL (wTown C) 6 o b n
  | 0, _ => rfl
  | n + 1, h => by
    unfold ldL
    rw [ldTown_c n (fun t ht k hk => h t (by omega) k hk), h n (by omega) 6 (by omega), wTown_d (C := C) (b 6 (o + n)) (fun k _ => a k (o + n)) (fun k _ => b k (o + n)) (fun k hk => h n (by omega) k hk)]
