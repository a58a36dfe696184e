theorem okv_fld {k i j : Nat} {v : Int32} (hk : k < 30) (hc : kcls k < 6) (hj : j < 24) (hi : okv (zR k i)) : okv (fldX (nthF (cfd (kcls k)) j) i v) := by
  have h := k_fld k hk hc j hj
  unfold okF at h
  have hi' : i < ninst k := by
    rcases hi with q | q
    · exact q.2
    · omega
  revert h
  cases nthF (cfd (kcls k)) j with
  | none => intro _; trivial
  | some z =>
    obtain ⟨k', o⟩ := z
    cases o with
    | none =>
      intro h
      simp only [Bool.and_eq_true] at h
      exact Or.inl ⟨Nat.le_of_ble_eq_true h.1, Nat.lt_of_lt_of_le hi' (Nat.le_of_ble_eq_true h.2)⟩
    | some c =>
      intro h
      simp only [Bool.and_eq_true] at h
      exact Or.inl ⟨Nat.le_of_ble_eq_true h.1, Nat.le_of_ble_eq_true h.2⟩
theorem mrow_k {M : Mem} {k i z : Nat} {f : Nat → Int32} (h : z ≠ k) : mrow M k i f z = M z := by
  funext i'
  simp [mrow, h]
theorem Wd.row {D : va_G} {ad : Nat → Nat → Nat} {C : CI4} {A : Nat → Prop} {S M : Mem} {H H1 : Heap} {k i q : Nat} {f : Nat → Int32} {E : va_E} (h : Wd D ad C A S M H) (hk : k < 30) (hq : cellsL[q]? = some (k, i)) (he : entW ad C k i f = E)
    (hP : va_P D vwCl ((wsOf ad C M).set q (ad k i, E)) H1) (hD : va_D A ((wsOf ad C M).set q (ad k i, E))) : Wd D ad C A S (mrow M k i f) H1 := by
  subst he
  rw [ws_set hq] at hP hD
  exact ⟨hP, hD, fun z hz => by rw [mrow_k (by omega)]; exact h.2.2 z hz⟩
def swt (x : Int32) (d : Nat) : List Nat → Nat
  | k :: t :: l => if x = nI k then t else swt x d l
  | _ => d
theorem swl_t {x : Int32} {d : Nat} {K : Nat → Prop} : ∀ l, swl x d K l → K (swt x d l)
  | [], h => h
  | [_], h => h
  | k :: t :: l, h => by
    unfold swt
    split
    · exact h.1 ‹_›
    · exact swl_t l (h.2 ‹_›)
theorem toInt_nI {x : Int32} {k : Nat} (hk : k < 2147483648) : x = nI k ↔ x.toInt = (k : Int) := by
  constructor
  · intro h; rw [h]; exact nI_toInt hk
  · intro h; exact Int32.toInt_inj.mp (h.trans (nI_toInt hk).symm)
theorem okTS_t {pc : Nat} : ∀ (os : List Int) (lo : Nat) (l : List Nat), okTS pc lo os l = true → lo + os.length < 2147483648 → ∀ (x : Int32) (d : Nat), ((x.toInt < (lo : Int) ∨ ((lo : Int) + os.length) ≤ x.toInt) → swt x d l = d) ∧ ∀ (j : Nat) (o : Int), os[j]? = some o → x.toInt = (lo : Int) + j → (pc : Int) + o = (swt x d l : Int)
  | [], _, l, h, _, x, d => by
    cases l with
    | nil => exact ⟨fun _ => rfl, fun j o hj => by simp at hj⟩
    | cons a l => exact absurd h (by cases l <;> simp [okTS])
  | o :: os, lo, l, h, hb, x, d => by
    match l, h with
    | [], h => exact absurd h (by simp [okTS])
    | [_], h => exact absurd h (by simp [okTS])
    | k :: t :: l, h =>
      have h : (Nat.beq k lo && (decide ((pc : Int) + o = (t : Int)) && okTS pc (lo + 1) os l)) = true := h
      simp only [Bool.and_eq_true, decide_eq_true_eq] at h
      have hk : k = lo := Nat.eq_of_beq_eq_true h.1
      subst hk
      have hb' : k + os.length + 1 < 2147483648 := by simpa [Nat.add_assoc] using hb
      have ih := okTS_t os (k + 1) l h.2.2 (by omega) x d
      have e := toInt_nI (x := x) (k := k) (by omega)
      refine ⟨fun hx => ?_, fun j o' hj hx => ?_⟩
      · have hne : ¬ x = nI k := by
          rw [e]
          simp only [List.length_cons] at hx
          omega
        unfold swt
        rw [if_neg hne]
        refine ih.1 ?_
        simp only [List.length_cons] at hx
        omega
      · cases j with
        | zero =>
          have : o = o' := by simpa using hj
          subst this
          have he : x = nI k := e.mpr (by omega)
          unfold swt
          rw [if_pos he]
          exact h.2.1
        | succ j =>
          have hne : ¬ x = nI k := by rw [e]; omega
          unfold swt
          rw [if_neg hne]
          exact ih.2 j o' (by simpa using hj) (by omega)
theorem okLS_t {pc : Nat} {x : Int32} {df : Int} {d : Nat} (hd : (pc : Int) + df = (d : Int)) : ∀ (ps : List (Int × Int)) (l : List Nat), okLS pc ps l = true → (pc : Int) + Op.lookupswitch.offset ps df x.toInt = (swt x d l : Int)
  | [], l, h => by
    cases l with
    | nil => exact hd
    | cons a l => exact absurd h (by cases l <;> simp [okLS])
  | o :: os, l, h => by
    match l, h with
    | [], h => exact absurd h (by simp [okLS])
    | [_], h => exact absurd h (by simp [okLS])
    | k :: t :: l, h =>
      have h : (decide (o.1 = (k : Int)) && (Nat.blt k 2147483648 && (decide ((pc : Int) + o.2 = (t : Int)) && okLS pc os l))) = true := h
      simp only [Bool.and_eq_true, decide_eq_true_eq] at h
      have e := toInt_nI (x := x) (k := k) (Nat.le_of_ble_eq_true h.2.1)
      obtain ⟨a, b⟩ := o
      rw [Op.lookupswitch.offset_cons]
      unfold swt
      have h1 : a = (k : Int) := h.1
      by_cases hx : x = nI k
      · rw [if_pos hx, if_pos (by rw [h1]; exact (e.mp hx).symm)]
        exact h.2.2.1
      · rw [if_neg hx, if_neg (fun q => hx (e.mpr (by rw [← q]; exact h1)))]
        exact okLS_t hd os l h.2.2.2
theorem nst_all : ∀ q ∈ MLs, q.2.2.2 = 2 → Cond.methodLinkNest (ownS q.1) q.2.1 (nmO q.2.2.1) RX4 = nstW := by decide +kernel
theorem sl_k : ∀ q ∈ SLs, 30 ≤ q.2.2 ∧ q.2.2 < 33 := by decide +kernel
theorem na_ml : ∀ y, y < 194 → naO y ≤ mlO y := by decide +kernel
def PcA (D : va_G) (ad : Nat → Nat → Nat) (C : CI4) (A : Nat → Prop) (S : Mem) (av : List AV) (M : Mem) : Array Value → State → Prop := fun v U => v = (av.map (cv ad)).toArray ∧ Wd D ad C A S M U.heap ∧ va_K D vwCl (tysC C) U ∧ va_Nw nstW U ∧ Sta ad S A U
def QcA (D : va_G) (ad : Nat → Nat → Nat) (C : CI4) (A : Nat → Prop) (S : Mem) (P : Option AV → Mem → Prop) : Array Value → State → Outcome → State → Prop := fun _ st oc t => (∃ (r : Option AV) (M' : Mem), oc = .returned (r.map (cv ad)) ∧ okr r ∧ P r M' ∧ Wd D ad C A S M' t.heap) ∧ va_F A st t
def MetA (l : Launch) (D : va_G) (ad : Nat → Nat → Nat) (C : CI4) (A : Nat → Prop) (S : Mem) (rm : Room) (y : Nat) (av : List AV) (M : Mem) (P : Option AV → Mem → Prop) : Prop := Met l (nmO y) (coW y :: gtb) rm (PcA D ad C A S av M) (QcA D ad C A S P) 0 0 A
theorem PcA.blind {D : va_G} {ad : Nat → Nat → Nat} {C : CI4} {A : Nat → Prop} {S : Mem} {av : List AV} {M : Mem} : FrameBlind (PcA D ad C A S av M) := by
  intro a U g mk q
  obtain ⟨q0, q1, q2, q3, q4⟩ := q
  exact ⟨q0, q1, va_K.moved (u := U) (U := U.calling g mk a) (Vm.Alike.refl U.vm) q2, va_Nw.same rfl (u := U) (U := U.calling g mk a) rfl q3, q4.go (U := U.calling g mk a) (Vm.Alike.refl U.vm) (fun _ _ _ => rfl)⟩
theorem gt_good : ∀ w ∈ gtb, (w.onTables && w.keeps) = true ∨ ∃ ty, w = .arrayClass ty := fun w h => good_of_word (List.mem_filter.mp h).2
theorem co_gtb {y : Nat} (hy : y < 194) : coW y ∈ gtb := gtb_of (co_all y hy) rfl
theorem gi_all {y : Nat} (hy : y < 194) : GoodIn gtb (coW y :: gtb) := by
  intro w hw
  rcases List.mem_cons.mp hw with h | h
  · rw [h]; exact ⟨co_gtb hy, gt_good _ (co_gtb hy)⟩
  · exact ⟨h, gt_good _ h⟩
theorem mr_mem : ∀ (l : List MR) (y : Nat), y < l.length → nthM l y ∈ l
  | [], _, h => absurd h (by simp)
  | _ :: _, 0, _ => List.mem_cons_self
  | _ :: l, y + 1, h => List.mem_cons_of_mem _ (mr_mem l y (by simpa using h))
theorem mr_chk {y : Nat} (hy : y < 194) : chkT (mrO y) = true := kt_all _ (mr_mem MRs y (by rw [mr_len]; exact hy))
theorem mr_use {y : Nat} (hy : y < 194) : plainName (nmO y).cls = true ∧ ((nmO y).cls ≠ "java/lang/invoke/MethodHandle" ∧ (nmO y).cls ≠ "java/lang/invoke/VarHandle") ∧ (nmO y).cls = ownS (owO y) ∧ owO y < 9 ∧ reK (reO y) (rtO y) = true ∧ mlO y ≤ 13 ∧ ∀ pc, okE (owO y) (byO y) pc (tbO y pc) = true := by
  have h := mr_chk hy
  unfold chkT at h
  simp only [Bool.and_eq_true, decide_eq_true_eq] at h
  refine ⟨h.1, h.2.1, h.2.2.1, Nat.le_of_ble_eq_true h.2.2.2.1, h.2.2.2.2.1, Nat.le_of_ble_eq_true h.2.2.2.2.2.1, fun pc => ?_⟩
  unfold tbO gtE
  cases hb : Nat.blt pc (mrO y).2.2.2.2.2.2.2.1 with
  | true => exact List.all_eq_true.mp h.2.2.2.2.2.2 pc (List.mem_range.mpr (Nat.le_of_ble_eq_true hb))
  | false => rfl
theorem ini_use {o : Nat} (ho : o < 9) : Cond.initialized (ownS o) ∈ gtb := gtb_of (isSub_mem _ _ sub_ini _ (List.mem_map.mpr ⟨_, ini_in o ho, rfl⟩)) rfl
section Snd2
variable {p : Program} {l : Launch} {e : Env} {R : Room} {s : State} {m : MethodId} {args : Array Value} {below : List Frame} {meth : Method} {c : Code} {cells slots : Nat} {Qw : State → Prop} {own : Nat} {bs : ByteArray} {nL : Nat} {D : va_G} {ad : Nat → Nat → Nat} {C : CI4} {A : Nat → Prop} {S : Mem}
variable {call : Call} {rt : Nat} {Q : Option AV → Mem → Prop} {pc len : Nat} {aux : List Nat} {kn : Int32} {L st : List AV} {M : Mem}

theorem st_getfield (hC : Ctx p s m args c own bs nL D ad C A S) {n : Nat} (hE : okE own bs pc (.getfield n, len, aux, kn) = true) (h : stp call rt Q (XS p l e R s m args below meth c cells slots Qw nL D ad C A S) (.getfield n, len, aux, kn) pc L st M) : (XS p l e R s m args below meth c cells slots Qw nL D ad C A S) (pc, L, st) M := by
  obtain ⟨hd, hl, hlk⟩ := okE_v hE rfl
  obtain ⟨hx, hb, hml, hown, hts, hK, hnw, hst⟩ := hC
  have hl : 3 = len := hl.resolve_left (by simp [elen])
  subst hl
  obtain ⟨k, i, r, rfl, h⟩ := sR_v h
  obtain ⟨hc, h⟩ := tB_v h
  have hc : kcls k = a1 aux := Nat.eq_of_beq_eq_true hc
  obtain ⟨f1, f2, f3, f4⟩ := fl_use (of_decide_eq_true hlk : FLs[a0 aux]? = some (own, n, a1 aux, a2 aux))
  intro H locs ls hW hS hL o1 o2
  have hc6 : kcls k < 6 := by rw [hc]; exact f1
  obtain ⟨g1, g2, g3⟩ := k_obj k (okv_lt (ok_h o2)) hc6
  obtain ⟨q, hq⟩ := cell_at g1 (ok_h o2)
  have he := ws_at (ad := ad) (C := C) (M := M) hq
  have hf := okv_fld (v := M k i (a2 aux)) g1 hc6 (Nat.lt_of_lt_of_le f2 (cls_24 _ f1)) (ok_h o2)
  rw [hc] at g3 hf
  rw [ent_0 g2, hc] at he
  show W p l e R s m args below meth c H locs cells slots Qw (F0 m pc ls (.ref (ad k i) :: r.map (cv ad)))
  refine va_get (D := D) (ci := a1 aux) hx hb hts (cl_ws _ f1) hown hK hW.1 q he (cl_get _ f1) (a2 aux) f2 (hts _ f4) (fun x hx => by rw [f3] at hx; exact hx) (fldW_get _ 0 (a2 aux) (by rw [g3]; exact f2)) hd ?_
  rw [Nat.zero_add]
  exact h H locs ls hW hS hL o1 (ok_c hf (ok_1 o2))
theorem st_putfield (hC : Ctx p s m args c own bs nL D ad C A S) {n : Nat} (hE : okE own bs pc (.putfield n, len, aux, kn) = true) (h : stp call rt Q (XS p l e R s m args below meth c cells slots Qw nL D ad C A S) (.putfield n, len, aux, kn) pc L st M) : (XS p l e R s m args below meth c cells slots Qw nL D ad C A S) (pc, L, st) M := by
  obtain ⟨hd, hl, hlk⟩ := okE_v hE rfl
  obtain ⟨hx, hb, hml, hown, hts, hK, hnw, hst⟩ := hC
  have hl : 3 = len := hl.resolve_left (by simp [elen])
  subst hl
  obtain ⟨v, k, i, r, rfl, h⟩ := sIR_v h
  obtain ⟨hc, h⟩ := tB_v h
  rw [Bool.and_eq_true] at hc
  obtain ⟨hc, hn⟩ := hc
  have hc : kcls k = a1 aux := Nat.eq_of_beq_eq_true hc
  have hlk : (decide (FLs[a0 aux]? = some (own, n, a1 aux, a2 aux)) && putOK (a1 aux) (a2 aux)) = true := hlk
  rw [Bool.and_eq_true] at hlk
  obtain ⟨hlk, hpo⟩ := hlk
  unfold putOK at hpo
  rw [Bool.and_eq_true, decide_eq_true_eq] at hpo
  have hfin : (clsT (a1 aux) (a2 aux)).2.2.2 = false := by simpa using hpo.1
  obtain ⟨f1, f2, f3, f4⟩ := fl_use (of_decide_eq_true hlk : FLs[a0 aux]? = some (own, n, a1 aux, a2 aux))
  intro H locs ls hW hS hL o1 o2
  have hc6 : kcls k < 6 := by rw [hc]; exact f1
  obtain ⟨g1, g2, g3⟩ := k_obj k (okv_lt (ok_h (ok_1 o2))) hc6
  obtain ⟨q, hq⟩ := cell_at g1 (ok_h (ok_1 o2))
  have he := ws_at (ad := ad) (C := C) (M := M) hq
  rw [hc] at g3
  rw [ent_0 g2, hc] at he
  show W p l e R s m args below meth c H locs cells slots Qw (F0 m pc ls (.int v :: .ref (ad k i) :: r.map (cv ad)))
  refine va_put (D := D) (ci := a1 aux) (ty := .int) (v := .int v) hx hb hts (cl_ws _ f1) (clsY (a1 aux)) (cl_ty _ f1) (cl_nm _ f1) hown hK hW.1 hW.2.1 hS q he (cl_get _ f1) (a2 aux) f2 (hts _ f4) (fun x hx => by rw [f3] at hx; exact hx) hfin hpo.2 rfl rfl (by rw [fldW_len, g3]; exact f2) hd (fun H1 locs1 hP1 hD1 hS1 => ?_)
  have e1 : entW ad C k i (upd (M k i) (a2 aux) v) = .inr (a1 aux, (fldW ad i (M k i) (cfd (a1 aux)) 0).set (a2 aux) (.int v)) := by rw [ent_0 g2, hc, fldW_set _ 0 _ hn, Nat.zero_add]
  exact h H1 locs1 ls (hW.row g1 hq e1 hP1 hD1) hS1 hL o1 (ok_1 (ok_1 o2))
theorem st_getstatic (hC : Ctx p s m args c own bs nL D ad C A S) {n : Nat} (hE : okE own bs pc (.getstatic n, len, aux, kn) = true) (h : stp call rt Q (XS p l e R s m args below meth c cells slots Qw nL D ad C A S) (.getstatic n, len, aux, kn) pc L st M) : (XS p l e R s m args below meth c cells slots Qw nL D ad C A S) (pc, L, st) M := by
  obtain ⟨hd, hl, hlk⟩ := okE_v hE rfl
  obtain ⟨hx, hb, hml, hown, hts, hK, hnw, hst⟩ := hC
  have hl : 3 = len := hl.resolve_left (by simp [elen])
  subst hl
  have hm := List.mem_of_getElem? (of_decide_eq_true hlk : SLs[a1 aux]? = some (own, n, a0 aux))
  have hk := sl_k _ hm
  intro H locs ls hW hS hL o1 o2
  show W p l e R s m args below meth c H locs cells slots Qw (F0 m pc ls (st.map (cv ad)))
  exact va_gets hx hb (hst.2.1 (a0 aux) hk.1 hk.2) hS hown (hts _ (gtb_of (isSub_mem _ _ sub_sl _ (List.mem_map.mpr ⟨_, hm, rfl⟩)) rfl)) (fun x hx => hx) hd (h H locs ls hW hS hL o1 (ok_c (Or.inr ⟨hk.1, Nat.lt_succ_of_lt hk.2, rfl⟩) o2))
theorem st_iaload (hC : Ctx p s m args c own bs nL D ad C A S) (hE : okE own bs pc (.iaload, len, aux, kn) = true) (h : stp call rt Q (XS p l e R s m args below meth c cells slots Qw nL D ad C A S) (.iaload, len, aux, kn) pc L st M) : (XS p l e R s m args below meth c cells slots Qw nL D ad C A S) (pc, L, st) M := by
  obtain ⟨hd, hl, hlk⟩ := okE_v hE rfl
  obtain ⟨hx, hb, hml, hown, hts, hK, hnw, hst⟩ := hC
  have hl : 1 = len := hl.resolve_left (by simp [elen])
  subst hl
  obtain ⟨x, k, i, r, rfl, h⟩ := sIR_v h
  obtain ⟨hi, hin, h⟩ := tB_v h
  intro H locs ls hW hS hL o1 o2
  have okk := ok_h (ok_1 o2)
  show W p l e R s m args below meth c H locs cells slots Qw (F0 m pc ls (.int x :: .ref (ad k i) :: r.map (cv ad)))
  rcases k_int k (okv_lt okk) hi with ⟨g1, g2⟩ | g
  · obtain ⟨q, hq⟩ := cell_at g1 okk
    have he := ws_at (ad := ad) (C := C) (M := M) hq
    rw [ent_1 g2] at he
    have hin : vp_in x (nthN lens k) := by unfold lenOf at hin; rw [k_33 k g1] at hin; exact hin
    exact va_iald hx hb hK hW.1 q 0 he rfl hin hd (h H locs ls hW hS hL o1 (ok_c trivial (ok_1 (ok_1 o2))))
  · have hi0 : i = 0 := by
      rcases okk with z | z
      · omega
      · exact z.2.2
    subst hi0
    have hT := hst.1 k g (okv_lt okk)
    have hin : vp_in x (lenOf k S) := by unfold lenOf at hin ⊢; rw [hW.2.2 33 (by omega)] at hin; exact hin
    exact va_ti hx hb hT hS hin (v := .int (M k 0 x.toNatClampNeg)) (by rw [hW.2.2 k g]) hd (h H locs ls hW hS hL o1 (ok_c trivial (ok_1 (ok_1 o2))))
theorem st_iastore (hC : Ctx p s m args c own bs nL D ad C A S) (hE : okE own bs pc (.iastore, len, aux, kn) = true) (h : stp call rt Q (XS p l e R s m args below meth c cells slots Qw nL D ad C A S) (.iastore, len, aux, kn) pc L st M) : (XS p l e R s m args below meth c cells slots Qw nL D ad C A S) (pc, L, st) M := by
  obtain ⟨hd, hl, hlk⟩ := okE_v hE rfl
  obtain ⟨hx, hb, hml, hown, hts, hK, hnw, hst⟩ := hC
  have hl : 1 = len := hl.resolve_left (by simp [elen])
  subst hl
  obtain ⟨v, x, k, i, r, rfl, h⟩ := sIIR_v h
  obtain ⟨hi, hin, h⟩ := tB_v h
  intro H locs ls hW hS hL o1 o2
  have okk := ok_h (ok_1 (ok_1 o2))
  show W p l e R s m args below meth c H locs cells slots Qw (F0 m pc ls (.int v :: .int x :: .ref (ad k i) :: r.map (cv ad)))
  obtain ⟨g1, g2⟩ := k_wr k (okv_lt okk) hi
  obtain ⟨q, hq⟩ := cell_at g1 okk
  have he := ws_at (ad := ad) (C := C) (M := M) hq
  rw [ent_1 g2] at he
  refine va_iast hx hb hK hW.1 hW.2.1 hS q 0 he rfl hin hd (fun H1 locs1 hP1 hD1 hS1 => ?_)
  exact h H1 locs1 ls (hW.row g1 hq (ent_1 g2) hP1 hD1) hS1 hL o1 (ok_1 (ok_1 (ok_1 o2)))
theorem st_baload (hC : Ctx p s m args c own bs nL D ad C A S) (hE : okE own bs pc (.baload, len, aux, kn) = true) (h : stp call rt Q (XS p l e R s m args below meth c cells slots Qw nL D ad C A S) (.baload, len, aux, kn) pc L st M) : (XS p l e R s m args below meth c cells slots Qw nL D ad C A S) (pc, L, st) M := by
  obtain ⟨hd, hl, hlk⟩ := okE_v hE rfl
  obtain ⟨hx, hb, hml, hown, hts, hK, hnw, hst⟩ := hC
  have hl : 1 = len := hl.resolve_left (by simp [elen])
  subst hl
  obtain ⟨x, k, i, r, rfl, h⟩ := sIR_v h
  obtain ⟨hi, hin, h⟩ := tB_v h
  intro H locs ls hW hS hL o1 o2
  have okk := ok_h (ok_1 o2)
  show W p l e R s m args below meth c H locs cells slots Qw (F0 m pc ls (.int x :: .ref (ad k i) :: r.map (cv ad)))
  obtain ⟨g1, g2⟩ := k_z k (okv_lt okk) hi
  obtain ⟨q, hq⟩ := cell_at g1 okk
  have he := ws_at (ad := ad) (C := C) (M := M) hq
  rw [ent_2 g2] at he
  exact va_zald hx hb hK hW.1 q 1 he rfl hin hd (h H locs ls hW hS hL o1 (ok_c trivial (ok_1 (ok_1 o2))))
theorem st_bastore (hC : Ctx p s m args c own bs nL D ad C A S) (hE : okE own bs pc (.bastore, len, aux, kn) = true) (h : stp call rt Q (XS p l e R s m args below meth c cells slots Qw nL D ad C A S) (.bastore, len, aux, kn) pc L st M) : (XS p l e R s m args below meth c cells slots Qw nL D ad C A S) (pc, L, st) M := by
  obtain ⟨hd, hl, hlk⟩ := okE_v hE rfl
  obtain ⟨hx, hb, hml, hown, hts, hK, hnw, hst⟩ := hC
  have hl : 1 = len := hl.resolve_left (by simp [elen])
  subst hl
  obtain ⟨v, x, k, i, r, rfl, h⟩ := sIIR_v h
  obtain ⟨hi, hv, hin, h5⟩ := tB_v h
  subst hv
  intro H locs ls hW hS hL o1 o2
  have okk := ok_h (ok_1 (ok_1 o2))
  show W p l e R s m args below meth c H locs cells slots Qw (F0 m pc ls (.int 1 :: .int x :: .ref (ad k i) :: r.map (cv ad)))
  obtain ⟨g1, g2⟩ := k_z k (okv_lt okk) hi
  obtain ⟨q, hq⟩ := cell_at g1 okk
  have he := ws_at (ad := ad) (C := C) (M := M) hq
  rw [ent_2 g2] at he
  refine va_zast hx hb hK hW.1 hW.2.1 hS q 1 he rfl hin hd (fun H1 locs1 hP1 hD1 hS1 => ?_)
  have e1 : vp_nar .boolean (1 : Int32) = 1 := by decide +kernel
  rw [e1] at hP1 hD1
  exact h5 H1 locs1 ls (hW.row g1 hq (ent_2 g2) hP1 hD1) hS1 hL o1 (ok_1 (ok_1 (ok_1 o2)))
theorem st_aaload (hC : Ctx p s m args c own bs nL D ad C A S) (hE : okE own bs pc (.aaload, len, aux, kn) = true) (h : stp call rt Q (XS p l e R s m args below meth c cells slots Qw nL D ad C A S) (.aaload, len, aux, kn) pc L st M) : (XS p l e R s m args below meth c cells slots Qw nL D ad C A S) (pc, L, st) M := by
  obtain ⟨hd, hl, hlk⟩ := okE_v hE rfl
  obtain ⟨hx, hb, hml, hown, hts, hK, hnw, hst⟩ := hC
  have hl : 1 = len := hl.resolve_left (by simp [elen])
  subst hl
  obtain ⟨x, k, i, r, rfl, h⟩ := sIR_v h
  obtain ⟨hi, hin, h⟩ := tB_v h
  intro H locs ls hW hS hL o1 o2
  have okk := ok_h (ok_1 o2)
  show W p l e R s m args below meth c H locs cells slots Qw (F0 m pc ls (.int x :: .ref (ad k i) :: r.map (cv ad)))
  obtain ⟨g1, g2, g3, g4⟩ := k_a k (okv_lt okk) hi
  obtain ⟨q, hq⟩ := cell_at g1 okk
  have he := ws_at (ad := ad) (C := C) (M := M) hq
  rw [ent_3 g2] at he
  have hlt : x.toNatClampNeg < nthN lens k := Nat.not_le.mp (fun z => hin (Or.inr z))
  have hv : okv (zR (kel k) (kbs k + x.toNatClampNeg)) := Or.inl ⟨g3, by omega⟩
  cases hk : Nat.beq k 1 with
  | true =>
    rw [hk] at he
    exact va_aldq (C := RX1) hx hb hK hW.1 q 2 he rfl hin hd (h H locs ls hW hS hL o1 (ok_c hv (ok_1 (ok_1 o2))))
  | false =>
    rw [hk] at he
    exact va_aldq (C := RX3) hx hb hK hW.1 q 3 he rfl hin hd (h H locs ls hW hS hL o1 (ok_c hv (ok_1 (ok_1 o2))))
theorem st_arraylength (hC : Ctx p s m args c own bs nL D ad C A S) (hE : okE own bs pc (.arraylength, len, aux, kn) = true) (h : stp call rt Q (XS p l e R s m args below meth c cells slots Qw nL D ad C A S) (.arraylength, len, aux, kn) pc L st M) : (XS p l e R s m args below meth c cells slots Qw nL D ad C A S) (pc, L, st) M := by
  obtain ⟨hd, hl, hlk⟩ := okE_v hE rfl
  obtain ⟨hx, hb, hml, hown, hts, hK, hnw, hst⟩ := hC
  have hl : 1 = len := hl.resolve_left (by simp [elen])
  subst hl
  obtain ⟨k, i, r, rfl, h⟩ := sR_v h
  obtain ⟨hk, h⟩ := tB_v h
  have hk : k = 33 := Nat.eq_of_beq_eq_true hk
  subst hk
  intro H locs ls hW hS hL o1 o2
  have okk := ok_h o2
  have hi0 : i = 0 := by
    rcases okk with z | z
    · omega
    · exact z.2.2
  subst hi0
  show W p l e R s m args below meth c H locs cells slots Qw (F0 m pc ls (.ref (ad 33 0) :: r.map (cv ad)))
  exact va_tlen hx hb (hst.1 33 (by omega) (by omega)) hS (v := M 33 1 0) (by rw [hW.2.2 33 (by omega)]; exact hst.2.2) hd (h H locs ls hW hS hL o1 (ok_c trivial (ok_1 o2)))
theorem st_tableswitch (hC : Ctx p s m args c own bs nL D ad C A S) {d lo hi : Int} {os : Array Int} (hE : okE own bs pc (.tableswitch d lo hi os, len, aux, kn) = true) (h : stp call rt Q (XS p l e R s m args below meth c cells slots Qw nL D ad C A S) (.tableswitch d lo hi os, len, aux, kn) pc L st M) : (XS p l e R s m args below meth c cells slots Qw nL D ad C A S) (pc, L, st) M := by
  obtain ⟨hd, hl, hlk⟩ := okE_v hE rfl
  obtain ⟨hx, hb, hml, hown, hts, hK, hnw, hst⟩ := hC
  obtain ⟨x, r, rfl, h⟩ := sI_v h
  have hlk : (decide ((pc : Int) + d = (a0 aux : Int)) && (decide (lo = (a0 (tl1 aux) : Int)) && (decide (hi + 1 = lo + os.size) && (Nat.blt (a0 (tl1 aux) + os.size) 2147483648 && okTS pc (a0 (tl1 aux)) os.toList (tl1 aux))))) = true := hlk
  simp only [Bool.and_eq_true, decide_eq_true_eq] at hlk
  obtain ⟨k1, k2, k3, k4, k5⟩ := hlk
  have k4 : a0 (tl1 aux) + os.size < 2147483648 := Nat.le_of_ble_eq_true k4
  have kt := okTS_t os.toList (a0 (tl1 aux)) (tl1 aux) k5 (by rw [Array.length_toList]; exact k4) x (a0 aux)
  have h := swl_t _ h
  intro H locs ls hW hS hL o1 o2
  show W p l e R s m args below meth c H locs cells slots Qw (F0 m pc ls (.int x :: r.map (cv ad)))
  rw [Array.length_toList] at kt
  by_cases hr : x.toInt < lo ∨ hi < x.toInt
  · have e1 := kt.1 (by omega)
    rw [e1] at h
    exact lv_tableOut hx hb hd hr k1 (h H locs ls hW hS hL o1 (ok_1 o2))
  · have hj : (x.toInt - lo).toNat < os.size := by omega
    have ho : os[(x.toInt - lo).toNat]? = some os[(x.toInt - lo).toNat] := Array.getElem?_eq_getElem hj
    have e1 := kt.2 (x.toInt - lo).toNat _ (by rw [Array.getElem?_toList]; exact ho) (by omega)
    exact lv_tableIn hx hb hd (fun z => hr (Or.inl z)) (fun z => hr (Or.inr z)) ho e1 (h H locs ls hW hS hL o1 (ok_1 o2))
theorem st_lookupswitch (hC : Ctx p s m args c own bs nL D ad C A S) {d : Int} {ps : Array (Int × Int)} (hE : okE own bs pc (.lookupswitch d ps, len, aux, kn) = true) (h : stp call rt Q (XS p l e R s m args below meth c cells slots Qw nL D ad C A S) (.lookupswitch d ps, len, aux, kn) pc L st M) : (XS p l e R s m args below meth c cells slots Qw nL D ad C A S) (pc, L, st) M := by
  obtain ⟨hd, hl, hlk⟩ := okE_v hE rfl
  obtain ⟨hx, hb, hml, hown, hts, hK, hnw, hst⟩ := hC
  obtain ⟨x, r, rfl, h⟩ := sI_v h
  have hlk : (decide ((pc : Int) + d = (a0 aux : Int)) && ((ps.toList.zip (ps.toList.drop 1)).all (fun (a, next) => a.1 < next.1) && okLS pc ps.toList (tl1 aux))) = true := hlk
  rw [Bool.and_eq_true, Bool.and_eq_true, decide_eq_true_eq] at hlk
  have h := swl_t _ h
  intro H locs ls hW hS hL o1 o2
  show W p l e R s m args below meth c H locs cells slots Qw (F0 m pc ls (.int x :: r.map (cv ad)))
  exact lv_lookup hx hb hd hlk.2.1 rfl (okLS_t hlk.1 ps.toList (tl1 aux) hlk.2.2) (h H locs ls hW hS hL o1 (ok_1 o2))
theorem call_end {H : Heap} {locs : List Loc} {ls : Array Slot} {st0 rest : List Value} {P : Option AV → Mem → Prop} {a : Array Value}
    (hr : va_Run p l e R s m args below meth c H locs cells slots 0 0 (F0 m pc ls st0) rest (QcA D ad C A S P a) A) (hS : va_S A s.heap H locs)
    (kk : ∀ (r : Option AV) (M' : Mem) (H1 : Heap) (locs1 : List Loc), okr r → P r M' → Wd D ad C A S M' H1 → va_S A s.heap H1 locs1 → W p l e R s m args below meth c H1 locs1 cells slots Qw (F0 m (pc + 3) ls ((r.map (cv ad)).toList ++ rest))) :
    W p l e R s m args below meth c H locs cells slots Qw (F0 m pc ls st0) := by
  intro T hT X
  obtain ⟨v, st₀, t, T', Ls, h0, X', hL, e1, e2, ⟨⟨r, M', hv, hok, hP, hWd⟩, hF⟩, go⟩ := hr T hT X
  have hv : v = r.map (cv ad) := by injection hv
  subst hv
  have hS1 : va_S A s.heap t.heap (locs ++ Ls) := by
    refine ⟨Nat.le_trans hS.1 (by rw [← h0]; exact hF.1), fun q hq hA => ?_, fun z hz => ?_⟩
    · rw [hF.2 q (by rw [h0]; exact Nat.lt_of_lt_of_le hq hS.1) hA, h0]
      exact hS.2.1 q hq hA
    · rcases List.mem_append.mp hz with h | h
      · exact hS.2.2 z h
      · exact hL z h
  obtain ⟨t2, a1, b1⟩ := kk r M' t.heap (locs ++ Ls) hok hP hWd hS1 T' e1 X'
  exact ⟨t2, go t2 a1, b1⟩
theorem PcA.go {H : Heap} {locs : List Loc} {av : List AV} (hK : va_K D vwCl (tysC C) s) (hnw : va_Nw nstW s) (hst : Sta ad S A s) (hW : Wd D ad C A S M H) (hS : va_S A s.heap H locs) :
    ∀ U : State, U.heap = H → s.WarmedH U.vm → PcA D ad C A S av M (av.map (cv ad)).toArray U := fun U hU hWm =>
  ⟨rfl, by rw [hU]; exact hW, va_K.moved hWm.alike hK, va_Nw.warmM hWm hnw, hst.go hWm.alike (fun a h1 h2 => by rw [hU]; exact hS.2.1 a h1 h2)⟩
theorem kO_v {rk : Nat} {r : Option AV} {rest : List AV} {K : List AV → Prop} (a : kO rk r rest K) : K (otl r rest) := by
  unfold kO at a
  cases hb : Nat.beq rk 0 with
  | true =>
    rw [hb] at a
    revert a
    cases r with
    | none => exact fun z => z
    | some v => exact fun z => z.elim
  | false =>
    rw [hb] at a
    revert a
    rcases r with _ | v | v
    · exact fun z => z.elim
    · exact fun z => z
    · exact fun z => z.elim
theorem otl_map {r : Option AV} {rest : List AV} : (otl r rest).map (cv ad) = (r.map (cv ad)).toList ++ rest.map (cv ad) := by
  cases r <;> rfl
theorem ok_otl {r : Option AV} {rest : List AV} (h : okr r) (g : ∀ v ∈ rest, okv v) : ∀ v ∈ otl r rest, okv v := by
  cases r with
  | none => exact g
  | some v => exact ok_c h g

theorem st_invokevirtual (hC : Ctx p s m args c own bs nL D ad C A S) {n : Nat} {rm : Room} (hcall : ∀ y av M P, call y av M P → y < 194 → (∀ v ∈ av, okv v) → av.all cat1 = true → av.length = naO y → MetA l D ad C A S rm y av M P) (hrm : rm.cells = 0 ∧ rm.slots = 0 ∧ rm.frames + 1 ≤ R.frames ∧ 32 + rm.locals ≤ R.locals) (hcs : cells ≤ R.cells ∧ slots ≤ R.slots) (hE : okE own bs pc (.invokevirtual n, len, aux, kn) = true) (h : stp call rt Q (XS p l e R s m args below meth c cells slots Qw nL D ad C A S) (.invokevirtual n, len, aux, kn) pc L st M) : (XS p l e R s m args below meth c cells slots Qw nL D ad C A S) (pc, L, st) M := by
  obtain ⟨hd, hl, hlk⟩ := okE_v hE rfl
  obtain ⟨hx, hb, hml, hown, hts, hK, hnw, hst⟩ := hC
  have hl : 3 = len := hl.resolve_left (by simp [elen])
  subst hl
  obtain ⟨hq, h⟩ := tB_v h
  simp only [Bool.and_eq_true] at hq
  obtain ⟨q1, q2, q3, q4⟩ := hq
  have hlk : (decide (MLs[a0 aux]? = some (own, n, a1 aux, 0)) && (Nat.beq (naO (a1 aux)) (a2 aux + 1) && (Nat.beq (owO (a1 aux)) (nthN (tl1 (tl1 (tl1 aux))) 0) && dsK (nmO (a1 aux)).desc (a2 aux)))) = true := hlk
  simp only [Bool.and_eq_true, decide_eq_true_eq] at hlk
  obtain ⟨k1, k2, k3, k4⟩ := hlk
  have hm := List.mem_of_getElem? k1
  have hmi := List.all_eq_true.mp ml_in _ hm
  simp only [Bool.and_eq_true, decide_eq_true_eq] at hmi
  obtain ⟨i1, i2, i3⟩ := hmi
  have hy : a1 aux < 194 := Nat.le_of_ble_eq_true i3
  obtain ⟨u1, u2, u3, u4, u5, u6, u7⟩ := mr_use hy
  generalize hav : (List.take (a2 aux + 1) st).reverse = av at q2 h
  generalize hre : List.drop (a2 aux + 1) st = rest at q3 h
  obtain ⟨k, i, av, rfl, hk⟩ : ∃ k i av2, av = zR k i :: av2 ∧ kcls k = nthN (tl1 (tl1 (tl1 aux))) 0 := by
    unfold recv at q2
    split at q2
    · exact ⟨_, _, _, rfl, Nat.eq_of_beq_eq_true q2⟩
    · cases q2
  have hst0 : st = av.reverse ++ zR k i :: rest := by
    have e1 : List.take (a2 aux + 1) st = av.reverse ++ [zR k i] := by rw [← List.reverse_reverse (List.take (a2 aux + 1) st), hav, List.reverse_cons]
    rw [← List.take_append_drop (a2 aux + 1) st, e1, hre, List.append_assoc]
    rfl
  have hlen : av.length = a2 aux := by
    have e1 := congrArg List.length hav
    have e2 := inB_lt st _ q1
    rw [List.length_reverse, List.length_take, List.length_cons] at e1
    omega
  intro H locs ls hW hS hL o1 o2
  have ov : ∀ v ∈ zR k i :: av, okv v := by
    intro v hv
    refine o2 v ?_
    rw [show (pc, L, st).2.2 = st from rfl, hst0]
    rcases List.mem_cons.mp hv with z | z
    · rw [z]; exact List.mem_append_right _ List.mem_cons_self
    · exact List.mem_append_left _ (List.mem_reverse.mpr z)
  have orr : ∀ v ∈ rest, okv v := fun v hv => o2 v (by rw [show (pc, L, st).2.2 = st from rfl, hst0]; exact List.mem_append_right _ (List.mem_cons_of_mem _ hv))
  have hc4 : (zR k i :: av).all cat1 = true := by rw [← hav, List.all_reverse]; exact q4
  have hM := hcall _ _ _ _ h hy ov hc4 (by rw [List.length_cons, hlen]; exact (Nat.eq_of_beq_eq_true k2).symm)
  have ho : kcls k = owO (a1 aux) := hk.trans (Nat.eq_of_beq_eq_true k3).symm
  have ho6 : kcls k < 6 := by
    have z := okv_lt (ok_h ov)
    have z2 : ∀ k, k < 34 → kcls k < 9 → kcls k < 6 := by decide +kernel
    exact z2 k z (by rw [ho]; exact u4)
  obtain ⟨g1, g2, -⟩ := k_obj k (okv_lt (ok_h ov)) ho6
  obtain ⟨q, hq⟩ := cell_at g1 (ok_h ov)
  have he := ws_at (ad := ad) (C := C) (M := M) hq
  rw [ent_0 g2] at he
  have hcl : (nmO (a1 aux)).cls = ownS (kcls k) := by rw [ho]; exact u3
  have hrc := va_recv hK hW.1 (cl_get _ ho6) he
  have hG : GoodIn gtb (wsV (ownS own) n (nmO (a1 aux)).cls (nmO (a1 aux)) (coW (a1 aux) :: gtb)) := by
    intro w hw
    have key : ∀ w, w ∈ gtb → w ∈ gtb ∧ ((w.onTables && w.keeps) = true ∨ ∃ ty, w = .arrayClass ty) := fun w z => ⟨z, gt_good _ z⟩
    unfold wsV at hw
    rcases List.mem_append.mp hw with z | z
    · simp only [List.mem_cons, List.not_mem_nil, or_false] at z
      rcases z with z | z | z | z
      · rw [z]; exact key _ (gtb_of (isSub_mem _ _ sub_ml _ (List.mem_map.mpr ⟨_, hm, rfl⟩)) rfl)
      · rw [z]; exact key _ (gtb_of (isSub_mem _ _ sub_inst _ (List.mem_map.mpr ⟨_, i1, rfl⟩)) rfl)
      · rw [z]; exact key _ (gtb_of (isSub_mem _ _ sub_sel _ (List.mem_map.mpr ⟨_, i2, rfl⟩)) rfl)
      · rw [z, u3]; exact key _ (ini_use u4)
    · exact gi_all hy w z
  have hds : (parseMethodDescriptor (nmO (a1 aux)).desc).map (fun d => d.parameters.length) = some (a2 aux) := of_decide_eq_true k4
  have hR : rm.frames + 1 ≤ R.frames ∧ 8 + (mlO (a1 aux) + 11) + rm.locals ≤ R.locals := ⟨hrm.2.2.1, by have := hrm.2.2.2; omega⟩
  show W p l e R s m args below meth c H locs cells slots Qw (F0 m pc ls (st.map (cv ad)))
  have hstk : (F0 m pc ls (st.map (cv ad))).stack = (av.map (cv ad)).reverse ++ .ref (ad k i) :: rest.map (cv ad) := by
    show st.map (cv ad) = _
    rw [hst0, List.map_append, List.map_reverse]
    rfl
  refine call_end (va_runV (As := av.map (cv ad)) (rest := rest.map (cv ad)) ⟨hx, hb, hml, hown, hts⟩ hM (cwV (a2 aux) hts hG rfl hrm.1 hrm.2.1 ⟨rfl, u2.1, u2.2, hds⟩ hR) ⟨PcA.blind, by rw [hcl]; exact hrc, PcA.go hK hnw hst hW hS⟩ rfl (by rw [List.length_map]; exact hlen) hL.1 hstk (lv_room (by rw [csum_cv]; exact Nat.le_of_ble_eq_true q3)) hd hcs) hS (fun r M1 H1 locs1 h1 h2 h3 h4 => ?_)
  have z := kO_v h2 H1 locs1 ls h3 h4 hL o1 (ok_otl h1 orr)
  rw [show (pc + 3, L, otl r rest).2.2 = otl r rest from rfl, otl_map] at z
  exact z
theorem st_invokestatic (hC : Ctx p s m args c own bs nL D ad C A S) {n : Nat} {rm : Room} (hcall : ∀ y av M P, call y av M P → y < 194 → (∀ v ∈ av, okv v) → av.all cat1 = true → av.length = naO y → MetA l D ad C A S rm y av M P) (hrm : rm.cells = 0 ∧ rm.slots = 0 ∧ rm.frames + 1 ≤ R.frames ∧ 32 + rm.locals ≤ R.locals) (hcs : cells ≤ R.cells ∧ slots ≤ R.slots) (hE : okE own bs pc (.invokestatic n, len, aux, kn) = true) (h : stp call rt Q (XS p l e R s m args below meth c cells slots Qw nL D ad C A S) (.invokestatic n, len, aux, kn) pc L st M) : (XS p l e R s m args below meth c cells slots Qw nL D ad C A S) (pc, L, st) M := by
  obtain ⟨hd, hl, hlk⟩ := okE_v hE rfl
  obtain ⟨hx, hb, hml, hown, hts, hK, hnw, hst⟩ := hC
  have hl : 3 = len := hl.resolve_left (by simp [elen])
  subst hl
  cases h9 : Nat.beq (a1 aux) 999 with
  | true =>
    have hlk : decide (MLs[a0 aux]? = some (own, n, a1 aux, 3)) = true := by
      have hlk : (match Nat.beq (a1 aux) 999 with
        | true => decide (MLs[a0 aux]? = some (own, n, a1 aux, 3))
        | false => _) = true := hlk
      rw [h9] at hlk; exact hlk
    have h : (match Nat.beq (a1 aux) 999 with
        | true => _
        | false => _) := h
    rw [h9] at h
    obtain ⟨nn, dp, k2, i2, sp, k1, i1, r, rfl, h⟩ := sCp_v h
    obtain ⟨hq, n1, n2, n3, n4, n5, h⟩ := tB_v h
    simp only [Bool.and_eq_true] at hq
    obtain ⟨w1, w2, w3⟩ := hq
    have hm := List.mem_of_getElem? (of_decide_eq_true hlk)
    intro H locs ls hW hS hL o1 o2
    have ok2 := ok_h (ok_1 (ok_1 o2))
    have ok1 := ok_h (ok_1 (ok_1 (ok_1 (ok_1 o2))))
    obtain ⟨g1, g2⟩ := k_wr k1 (okv_lt ok1) w1
    obtain ⟨f1, f2⟩ := k_wr k2 (okv_lt ok2) w2
    obtain ⟨q, hq⟩ := cell_at g1 ok1
    obtain ⟨q', hq'⟩ := cell_at f1 ok2
    have he := ws_at (ad := ad) (C := C) (M := M) hq
    have he' := ws_at (ad := ad) (C := C) (M := M) hq'
    rw [ent_1 g2] at he
    rw [ent_1 f2] at he'
    have hsum : ((r.map (cv ad)).map fun v => v.category).sum ≤ 8 := by rw [csum_cv]; exact Nat.le_of_ble_eq_true w3
    have hnf : nativeFrameWords "java/lang/System" "arraycopy" 5 = 7 := by decide +kernel
    show W p l e R s m args below meth c H locs cells slots Qw (F0 m pc ls (.int nn :: .int dp :: .ref (ad k2 i2) :: .int sp :: .ref (ad k1 i1) :: r.map (cv ad)))
    refine va_copyi hx hb (hml.trans hL.1.symm) hown (hts _ (gtb_of (isSub_mem _ _ sub_ml _ (List.mem_map.mpr ⟨_, hm, rfl⟩)) rfl)) (hts _ (gtb_of (isSub_mem _ _ sub_ac _ List.mem_cons_self) rfl)) (hts _ (gtb_of (isSub_mem _ _ sub_as _ List.mem_cons_self) rfl)) (hts _ (gtb_of (isSub_mem _ _ sub_ini _ (by decide +kernel)) rfl)) hK hW.1 hW.2.1 hS q q' 0 0 he he' rfl rfl rfl n1 n2 n3 n4 n5 (fun i hi => rfl) (by omega) (by rw [hnf]; omega) hd (fun H1 locs1 hP1 hD1 hS1 => ?_)
    exact h H1 locs1 ls (hW.row f1 hq' (ent_1 f2) hP1 hD1) hS1 hL o1 (ok_1 (ok_1 (ok_1 (ok_1 (ok_1 o2)))))
  | false =>
    have hlk : (match Nat.beq (a1 aux) 999 with
        | true => decide (MLs[a0 aux]? = some (own, n, a1 aux, 3))
        | false => _) = true := hlk
    rw [h9] at hlk
    have h : (match Nat.beq (a1 aux) 999 with
        | true => _
        | false => _) := h
    rw [h9] at h
    cases h8 : Nat.beq (a1 aux) 998 with
    | true =>
      have hlk : (match Nat.beq (a1 aux) 998 with
        | true => decide (MLs[a0 aux]? = some (own, n, a1 aux, 4))
        | false => _) = true := hlk
      rw [h8] at hlk
      have h : (match Nat.beq (a1 aux) 998 with
        | true => _
        | false => _) := h
      rw [h8] at h
      obtain ⟨x, y, r, rfl, h⟩ := sII_v h
      obtain ⟨w3, h⟩ := tB_v h
      have hm := List.mem_of_getElem? (of_decide_eq_true hlk)
      intro H locs ls hW hS hL o1 o2
      have hsum : ((r.map (cv ad)).map fun v => v.category).sum ≤ 8 := by rw [csum_cv]; exact Nat.le_of_ble_eq_true w3
      show W p l e R s m args below meth c H locs cells slots Qw (F0 m pc ls (.int y :: .int x :: r.map (cv ad)))
      exact va_mmin hx hb (hml.trans hL.1.symm) hown (hts _ (gtb_of (isSub_mem _ _ sub_ml _ (List.mem_map.mpr ⟨_, hm, rfl⟩)) rfl)) (hts _ (gtb_of (isSub_mem _ _ sub_mi _ List.mem_cons_self) rfl)) (hts _ (gtb_of (isSub_mem _ _ sub_ini _ (by decide +kernel)) rfl)) (hts _ (gtb_of (isSub_mem _ _ sub_mi _ (List.mem_cons_of_mem _ List.mem_cons_self)) rfl)) (by omega) (by omega) hcs.1 hcs.2 hd (h H locs ls hW hS hL o1 (ok_c trivial (ok_1 (ok_1 o2))))
    | false =>
      have hlk : (match Nat.beq (a1 aux) 998 with
        | true => decide (MLs[a0 aux]? = some (own, n, a1 aux, 4))
        | false => _) = true := hlk
      rw [h8] at hlk
      have h : (match Nat.beq (a1 aux) 998 with
        | true => _
        | false => _) := h
      rw [h8] at h
      cases h7 : Nat.beq (a1 aux) 997 with
      | true =>
        have hlk : (match Nat.beq (a1 aux) 997 with
          | true => decide (MLs[a0 aux]? = some (own, n, a1 aux, 5))
          | false => _) = true := hlk
        rw [h7] at hlk
        have h : (match Nat.beq (a1 aux) 997 with
          | true => _
          | false => _) := h
        rw [h7] at h
        obtain ⟨x, y, r, rfl, h⟩ := sII_v h
        obtain ⟨w3, h⟩ := tB_v h
        have hm := List.mem_of_getElem? (of_decide_eq_true hlk)
        intro H locs ls hW hS hL o1 o2
        have hsum : ((r.map (cv ad)).map fun v => v.category).sum ≤ 8 := by rw [csum_cv]; exact Nat.le_of_ble_eq_true w3
        show W p l e R s m args below meth c H locs cells slots Qw (F0 m pc ls (.int y :: .int x :: r.map (cv ad)))
        exact va_mmax hx hb (hml.trans hL.1.symm) hown (hts _ (gtb_of (isSub_mem _ _ sub_ml _ (List.mem_map.mpr ⟨_, hm, rfl⟩)) rfl)) (hts _ (gtb_of (isSub_mem _ _ sub_ma _ List.mem_cons_self) rfl)) (hts _ (gtb_of (isSub_mem _ _ sub_ini _ (by decide +kernel)) rfl)) (hts _ (gtb_of (isSub_mem _ _ sub_ma _ (List.mem_cons_of_mem _ List.mem_cons_self)) rfl)) (by omega) (by omega) hcs.1 hcs.2 hd (h H locs ls hW hS hL o1 (ok_c trivial (ok_1 (ok_1 o2))))
      | false =>
        have hlk : (match Nat.beq (a1 aux) 997 with
          | true => decide (MLs[a0 aux]? = some (own, n, a1 aux, 5))
          | false => (decide (MLs[a0 aux]? = some (own, n, a1 aux, 1)) || decide (MLs[a0 aux]? = some (own, n, a1 aux, 2))) && (Nat.beq (naO (a1 aux)) (a2 aux) && dsK (nmO (a1 aux)).desc (a2 aux))) = true := hlk
        rw [h7] at hlk
        simp only [Bool.and_eq_true, Bool.or_eq_true, decide_eq_true_eq] at hlk
        obtain ⟨k1, k2, k4⟩ := hlk
        have h : (match Nat.beq (a1 aux) 997 with
          | true => _
          | false => _) := h
        rw [h7] at h
        obtain ⟨hq, h⟩ := tB_v h
        simp only [Bool.and_eq_true] at hq
        obtain ⟨q1, q3, q4⟩ := hq
        generalize hav : (List.take (a2 aux) st).reverse = av at h
        generalize hre : List.drop (a2 aux) st = rest at q3 h
        have hst0 : st = av.reverse ++ rest := by rw [← hav, List.reverse_reverse, ← hre, List.take_append_drop]
        have hlen : av.length = a2 aux := by
          have e1 := congrArg List.length hav
          have e2 := Nat.le_of_ble_eq_true q1
          rw [List.length_reverse, List.length_take] at e1
          omega
        intro H locs ls hW hS hL o1 o2
        have ov : ∀ v ∈ av, okv v := fun v hv => o2 v (by rw [show (pc, L, st).2.2 = st from rfl, hst0]; exact List.mem_append_left _ (List.mem_reverse.mpr hv))
        have orr : ∀ v ∈ rest, okv v := fun v hv => o2 v (by rw [show (pc, L, st).2.2 = st from rfl, hst0]; exact List.mem_append_right _ hv)
        have hc4 : av.all cat1 = true := by rw [← hav, List.all_reverse]; exact q4
        have hds : (parseMethodDescriptor (nmO (a1 aux)).desc).map (fun d => d.parameters.length) = some (a2 aux) := of_decide_eq_true k4
        have hstk : (F0 m pc ls (st.map (cv ad))).stack = (av.map (cv ad)).reverse ++ rest.map (cv ad) := by
          show st.map (cv ad) = _
          rw [hst0, List.map_append, List.map_reverse]
        show W p l e R s m args below meth c H locs cells slots Qw (F0 m pc ls (st.map (cv ad)))
        rcases k1 with k1 | k1
        · have hm := List.mem_of_getElem? k1
          have hmi := List.all_eq_true.mp ml_in _ hm
          simp only [Bool.and_eq_true, decide_eq_true_eq] at hmi
          obtain ⟨i1, i3⟩ := hmi
          have hy : a1 aux < 194 := Nat.le_of_ble_eq_true i3
          obtain ⟨u1, u2, u3, u4, u5, u6, u7⟩ := mr_use hy
          have hM := hcall _ _ _ _ h hy ov hc4 (by rw [hlen]; exact (Nat.eq_of_beq_eq_true k2).symm)
          have hR : rm.frames + 1 ≤ R.frames ∧ 8 + (mlO (a1 aux) + 11) + rm.locals ≤ R.locals := ⟨hrm.2.2.1, by have := hrm.2.2.2; omega⟩
          have hG : GoodIn gtb (va_wsS (ownS own) n (nmO (a1 aux)) (coW (a1 aux) :: gtb)) := by
            intro w hw
            have key : ∀ w, w ∈ gtb → w ∈ gtb ∧ ((w.onTables && w.keeps) = true ∨ ∃ ty, w = .arrayClass ty) := fun w z => ⟨z, gt_good _ z⟩
            unfold va_wsS at hw
            rcases List.mem_append.mp hw with z | z
            · simp only [List.mem_cons, List.not_mem_nil, or_false] at z
              rcases z with z | z | z
              · rw [z]; exact key _ (gtb_of (isSub_mem _ _ sub_ml _ (List.mem_map.mpr ⟨_, hm, rfl⟩)) rfl)
              · rw [z]; exact key _ (gtb_of (isSub_mem _ _ sub_stat _ (List.mem_map.mpr ⟨_, i1, rfl⟩)) rfl)
              · rw [z, u3]; exact key _ (ini_use u4)
            · exact gi_all hy w z
          refine call_end (va_runS (As := av.map (cv ad)) (rest := rest.map (cv ad)) ⟨hx, hb, hml, hown, hts⟩ hM (va_cwS (a2 aux) hts hG rfl hrm.1 hrm.2.1 ⟨u2.1, u2.2, hds⟩ hR) ⟨PcA.blind, PcA.go hK hnw hst hW hS⟩ rfl (by rw [List.length_map]; exact hlen) hL.1 hstk (lv_room (by rw [csum_cv]; exact Nat.le_of_ble_eq_true q3)) hd hcs) hS (fun r M1 H1 locs1 h1 h2 h3 h4 => ?_)
          have z := kO_v h2 H1 locs1 ls h3 h4 hL o1 (ok_otl h1 orr)
          rw [show (pc + 3, L, otl r rest).2.2 = otl r rest from rfl, otl_map] at z
          exact z
        · have hm := List.mem_of_getElem? k1
          have hmi := List.all_eq_true.mp ml_in _ hm
          simp only [Bool.and_eq_true, decide_eq_true_eq] at hmi
          obtain ⟨i1, i3⟩ := hmi
          have hy : a1 aux < 194 := Nat.le_of_ble_eq_true i3
          obtain ⟨u1, u2, u3, u4, u5, u6, u7⟩ := mr_use hy
          have hM := hcall _ _ _ _ h hy ov hc4 (by rw [hlen]; exact (Nat.eq_of_beq_eq_true k2).symm)
          have hR : rm.frames + 1 ≤ R.frames ∧ 8 + (mlO (a1 aux) + 11) + rm.locals ≤ R.locals := ⟨hrm.2.2.1, by have := hrm.2.2.2; omega⟩
          have hnest : Cond.methodLinkNest (ownS own) n (nmO (a1 aux)) RX4 = nstW := nst_all _ hm rfl
          have hstat : (Cond.static (nmO (a1 aux))).before args s = true := hts _ (gtb_of (isSub_mem _ _ sub_stat _ (List.mem_map.mpr ⟨_, i1, rfl⟩)) rfl)
          have hini : (Cond.initialized (nmO (a1 aux)).cls).before args s = true := hts _ (by rw [u3]; exact ini_use u4)
          refine call_end (va_runSN (host := RX4) (As := av.map (cv ad)) (rest := rest.map (cv ad)) ⟨hx, hb, hml, hown, hts⟩ hM ⟨va_cnB (a2 aux) hts (gi_all hy) rfl hrm.1 hrm.2.1 (by rw [hnest]; exact hnw) hini ⟨u2.1, u2.2, hds⟩ hR, hstat, trivial⟩ ⟨PcA.blind, PcA.go hK hnw hst hW hS⟩ rfl (by rw [List.length_map]; exact hlen) hL.1 hstk (lv_room (by rw [csum_cv]; exact Nat.le_of_ble_eq_true q3)) hd hcs) hS (fun r M1 H1 locs1 h1 h2 h3 h4 => ?_)
          have z := kO_v h2 H1 locs1 ls h3 h4 hL o1 (ok_otl h1 orr)
          rw [show (pc + 3, L, otl r rest).2.2 = otl r rest from rfl, otl_map] at z
          exact z
end Snd2
