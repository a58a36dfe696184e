/-! THE WORLD OF A MEMORY -/
def ninst (k : Nat) : Nat := nthN [1, 1, 8, 8, 1, 1, 28, 28, 28, 28, 28, 28, 1, 1, 1, 1, 1, 1, 1, 1, 1, 1, 3, 0, 0, 1, 1, 1, 1, 1] k
def cellsL : List (Nat × Nat) := (List.range 30).flatMap (fun k => (List.range (ninst k)).map (fun i => (k, i)))
theorem cellsL_mem {k i : Nat} (hk : k < 30) (hi : i < ninst k) : (k, i) ∈ cellsL := List.mem_flatMap.mpr ⟨k, List.mem_range.mpr hk, List.mem_map.mpr ⟨i, List.mem_range.mpr hi, rfl⟩⟩
theorem cellsL_nd : cellsL.Nodup := by decide +kernel
abbrev CI4 : Type := ClassId × ClassId × ClassId × ClassId
def cv (ad : Nat → Nat → Nat) (v : AV) : Value := match v with
  | .inl x => .int x
  | .inr (.inl x) => .long x
  | .inr (.inr (.inl (k, i))) => .ref (ad k i)
  | _ => .null
def fldW (ad : Nat → Nat → Nat) (i : Nat) (f : Nat → Int32) : List (Option (Nat × Option Nat)) → Nat → List Value
  | [], _ => []
  | fd :: l, j => cv ad (fldX fd i (f j)) :: fldW ad i f l (j + 1)
def kcc (C : CI4) (k : Nat) : ClassId := match kty k with
  | 2 => C.2.1
  | 3 => bif Nat.beq k 1 then C.2.2.1 else C.2.2.2
  | _ => C.1
def entW (ad : Nat → Nat → Nat) (C : CI4) (k i : Nat) (f : Nat → Int32) : va_E := match kty k with
  | 0 => .inr (kcls k, fldW ad i f (cfd (kcls k)) 0)
  | 3 => .inl (kcc C k, nthN lens k, .inr (.inr (.inr (.inr (fun j => some (ad (kel k) (kbs k + j)))))))
  | _ => .inl (kcc C k, nthN lens k, .inl f)
def wsOf (ad : Nat → Nat → Nat) (C : CI4) (M : Mem) : va_W := cellsL.map (fun q => (ad q.1 q.2, entW ad C q.1 q.2 (M q.1 q.2)))
def tysC (C : CI4) : List (ClassId × FieldType) := [(C.1, .int), (C.2.1, .boolean), (C.2.2.1, .object RX1), (C.2.2.2, .object RX3)]
def gtb : List Cond := lw_tbl.filter goodWord
theorem ws_at {ad : Nat → Nat → Nat} {C : CI4} {M : Mem} {k i q : Nat} (h : cellsL[q]? = some (k, i)) : (wsOf ad C M)[q]? = some (ad k i, entW ad C k i (M k i)) := by
  unfold wsOf
  rw [List.getElem?_map, h]
  rfl
theorem mrow_s (M : Mem) (k i : Nat) (f : Nat → Int32) : mrow M k i f k i = f := by simp [mrow]
theorem mrow_n {M : Mem} {k i k' i' : Nat} {f : Nat → Int32} (h : ¬ (k' = k ∧ i' = i)) : mrow M k i f k' i' = M k' i' := by simp [mrow, h]
theorem ws_set {ad : Nat → Nat → Nat} {C : CI4} {M : Mem} {k i q : Nat} {f : Nat → Int32} (h : cellsL[q]? = some (k, i)) : (wsOf ad C M).set q (ad k i, entW ad C k i f) = wsOf ad C (mrow M k i f) := by
  apply List.ext_getElem?
  intro n
  have hq : q < cellsL.length := (List.getElem?_eq_some_iff.mp h).1
  have hl : q < (wsOf ad C M).length := by unfold wsOf; rw [List.length_map]; exact hq
  by_cases e : n = q
  · subst e
    rw [List.getElem?_set_self hl, ws_at h, mrow_s]
  · rw [List.getElem?_set_ne (Ne.symm e)]
    unfold wsOf
    rw [List.getElem?_map, List.getElem?_map]
    cases hn : cellsL[n]? with
    | none => rfl
    | some z =>
      obtain ⟨k', i'⟩ := z
      have hne : ¬ (k' = k ∧ i' = i) := by
        rintro ⟨rfl, rfl⟩
        exact e ((List.getElem?_inj (List.getElem?_eq_some_iff.mp hn).1 cellsL_nd).mp (hn.trans h.symm))
      simp [mrow_n hne]
/-- the arrays that nobody writes: the class's three tables (30..32), the script (33) -/
def Sta (ad : Nat → Nat → Nat) (S : Mem) (A : Nat → Prop) (U : State) : Prop :=
  (∀ k, 30 ≤ k → k < 34 → va_T .int (ad k 0) (lenOf k S) (fun j => .int (S k 0 j)) A U U.heap) ∧ (∀ k, 30 ≤ k → k < 33 → va_Z RX4 (sName k) "[I" (.ref (ad k 0)) A U U.heap) ∧ Int32.ofNat (S 33 1 0).toNatClampNeg = S 33 1 0
theorem Sta.go {ad : Nat → Nat → Nat} {S : Mem} {A : Nat → Prop} {s U : State} (h : Sta ad S A s) (hvm : s.vm.Alike U.vm) (hq : ∀ a : Nat, a < s.heap.size → ¬ A a → U.heap[a]? = s.heap[a]?) : Sta ad S A U :=
  ⟨fun k a b => va_T.moved hvm ((h.1 k a b).kept hq), fun k a b => va_Z.moved hvm ((h.2.1 k a b).kept hq), h.2.2⟩
def nstW : Cond := .methodLinkNest RX3 61 ⟨RX4, "hasBit", "(II)Z"⟩ RX4
def Wd (D : va_G) (ad : Nat → Nat → Nat) (C : CI4) (A : Nat → Prop) (S M : Mem) (H : Heap) : Prop :=
  va_P D vwCl (wsOf ad C M) H ∧ va_D A (wsOf ad C M) ∧ ∀ k, 30 ≤ k → M k = S k
def okv (v : AV) : Prop := match v with
  | .inr (.inr (.inl (k, i))) => (k < 30 ∧ i < ninst k) ∨ (30 ≤ k ∧ k < 34 ∧ i = 0)
  | _ => True
def okr (r : Option AV) : Prop := match r with
  | some v => okv v
  | none => True
def isU (v : AV) : Bool := match v with
  | .inr (.inr (.inr _)) => true
  | _ => false
def LH (ad : Nat → Nat → Nat) (ls : Array Slot) (nL : Nat) (L : List AV) : Prop := ls.size = nL ∧ lv_wf ls ∧ L.length = nL ∧ ∀ n, n < nL → isU (nthV L n) = false → ls[n]? = some (.val (cv ad (nthV L n)))
def lvl (ad : Nat → Nat → Nat) (nL : Nat) (L : List AV) : List (Nat × Value) := (List.range nL).filterMap (fun n => bif isU (nthV L n) then none else some (n, cv ad (nthV L n)))
theorem lvl_mem {ad : Nat → Nat → Nat} {nL n : Nat} {L : List AV} (h : n < nL) (hu : isU (nthV L n) = false) : (n, cv ad (nthV L n)) ∈ lvl ad nL L :=
  List.mem_filterMap.mpr ⟨n, List.mem_range.mpr h, by rw [hu]; rfl⟩
theorem LH.lv {ad : Nat → Nat → Nat} {ls : Array Slot} {nL : Nat} {L : List AV} (h : LH ad ls nL L) : lv_has ls nL (lvl ad nL L) := by
  refine ⟨h.1, h.2.1, fun q hq => ?_⟩
  obtain ⟨n, h1, h2⟩ := List.mem_filterMap.mp hq
  cases hu : isU (nthV L n) with
  | true => rw [hu] at h2; cases h2
  | false =>
    rw [hu] at h2
    cases h2
    exact h.2.2.2 n (List.mem_range.mp h1) hu
theorem setV_len : ∀ (L : List AV) (n : Nat) (v : AV), (setV L n v).length = L.length
  | [], _, _ => rfl
  | _ :: _, 0, _ => rfl
  | _ :: l, n + 1, v => by simp [setV, setV_len l n v]
theorem setV_s : ∀ (L : List AV) (n : Nat) (v : AV), inB L n = true → nthV (setV L n v) n = v
  | [], _, _, h => by simp [inB] at h
  | _ :: _, 0, _, _ => rfl
  | _ :: l, n + 1, v, h => setV_s l n v h
theorem setV_n : ∀ (L : List AV) (n j : Nat) (v : AV), j ≠ n → nthV (setV L n v) j = nthV L j
  | [], _, _, _, _ => rfl
  | _ :: _, 0, 0, _, h => absurd rfl h
  | _ :: _, 0, _ + 1, _, _ => rfl
  | _ :: _, _ + 1, 0, _, _ => rfl
  | _ :: l, n + 1, j + 1, v, h => setV_n l n j v (fun e => h (by rw [e]))
theorem inB_lt : ∀ (L : List AV) (n : Nat), inB L n = true → n < L.length
  | [], _, h => by simp [inB] at h
  | _ :: _, 0, _ => by simp
  | _ :: l, n + 1, h => by have := inB_lt l n h; simp; omega
theorem setV_mem : ∀ (L : List AV) (n : Nat) (v w : AV), w ∈ setV L n v → w = v ∨ w ∈ L
  | [], _, _, _, h => by simp [setV] at h
  | _ :: _, 0, _, _, h => by
    rcases List.mem_cons.mp h with q | q
    · exact Or.inl q
    · exact Or.inr (List.mem_cons_of_mem _ q)
  | _ :: l, n + 1, v, w, h => by
    rcases List.mem_cons.mp h with q | q
    · exact Or.inr (by rw [q]; exact List.mem_cons_self)
    · rcases setV_mem l n v w q with z | z
      · exact Or.inl z
      · exact Or.inr (List.mem_cons_of_mem _ z)
theorem nthV_mem : ∀ (L : List AV) (n : Nat), nthV L n = zU ∨ nthV L n ∈ L
  | [], _ => Or.inl rfl
  | _ :: _, 0 => Or.inr List.mem_cons_self
  | _ :: l, n + 1 => (nthV_mem l n).elim Or.inl (fun h => Or.inr (List.mem_cons_of_mem _ h))
theorem nthV_lt : ∀ (L : List AV) (n : Nat), isU (nthV L n) = false → n < L.length
  | [], _, h => by simp [nthV, isU] at h
  | _ :: _, 0, _ => by simp
  | _ :: l, n + 1, h => by have := nthV_lt l n h; simp; omega
theorem cat_cv {ad : Nat → Nat → Nat} {v : AV} (h : cat1 v = true) : (cv ad v).category = 1 := by
  unfold cat1 at h
  split at h
  · cases h
  · rename_i q
    rcases v with x | x | ⟨k, i⟩ | x
    · rfl
    · exact absurd rfl (q x)
    · rfl
    · rfl
theorem LH.at {ad : Nat → Nat → Nat} {ls : Array Slot} {nL n : Nat} {L : List AV} (h : LH ad ls nL L) (hu : isU (nthV L n) = false) : ls[n]? = some (.val (cv ad (nthV L n))) :=
  h.2.2.2 n (by rw [← h.2.2.1]; exact nthV_lt L n hu) hu
/-- behind a store -/
theorem LH.st {ad : Nat → Nat → Nat} {ls ls' : Array Slot} {nL n : Nat} {L : List AV} {v : AV} (h : LH ad ls nL L) (hp : pre1 L n = true) (hb : inB L n = true)
    (h' : lv_has ls' nL ((n, cv ad v) :: (lvl ad nL L).filter (fun q => !(q.1 == n) && !(q.1 + 1 == n && q.2.category == 2)))) : LH ad ls' nL (setV L n v) := by
  refine ⟨h'.1, h'.2.1, by rw [setV_len]; exact h.2.2.1, fun j hj hu => ?_⟩
  by_cases e : j = n
  · subst e
    rw [setV_s L j v hb]
    exact h'.2.2 _ List.mem_cons_self
  · rw [setV_n L n j v e] at hu ⊢
    refine h'.2.2 (j, cv ad (nthV L j)) (List.mem_cons_of_mem _ (List.mem_filter.mpr ⟨lvl_mem hj hu, ?_⟩))
    have h1 : (j == n) = false := by simpa using e
    by_cases e2 : j + 1 = n
    · subst e2
      have hc : (cv ad (nthV L j)).category = 1 := cat_cv hp
      simp [hc]
    · have h2 : (j + 1 == n) = false := by simpa using e2
      simp [h1, h2]
theorem LH.stJ {ad : Nat → Nat → Nat} {ls ls' : Array Slot} {nL n : Nat} {L : List AV} {x : Int64} (h : LH ad ls nL L) (hp : pre1 L n = true) (hb : inB L (n + 1) = true)
    (h' : lv_has ls' nL ((n, Value.long x) :: (lvl ad nL L).filter (fun q => !(q.1 == n) && (!(q.1 == n + 1) && !(q.1 + 1 == n && q.2.category == 2))))) : LH ad ls' nL (setV (setV L n (zJ x)) (n + 1) zU) := by
  have hb0 : ∀ (L : List AV) (n : Nat), inB L (n + 1) = true → inB L n = true := by
    intro L
    induction L with
    | nil => intro n h; simp [inB] at h
    | cons a l ih =>
      intro n h
      cases n with
      | zero => rfl
      | succ n => exact ih n h
  refine ⟨h'.1, h'.2.1, by rw [setV_len, setV_len]; exact h.2.2.1, fun j hj hu => ?_⟩
  by_cases e1 : j = n + 1
  · subst e1
    have hi : inB (setV L n (zJ x)) (n + 1) = true := by
      have : ∀ (L : List AV) (n m : Nat) (v : AV), inB (setV L n v) m = inB L m := by
        intro L
        induction L with
        | nil => intro n m v; rfl
        | cons a l ih =>
          intro n m v
          cases n with
          | zero => cases m <;> rfl
          | succ n => cases m with
            | zero => rfl
            | succ m => exact ih n m v
      rw [this]; exact hb
    rw [setV_s _ _ _ hi] at hu
    cases hu
  · rw [setV_n _ _ _ _ e1] at hu ⊢
    by_cases e : j = n
    · subst e
      rw [setV_s L j _ (hb0 L j hb)]
      exact h'.2.2 _ List.mem_cons_self
    · rw [setV_n L n j _ e] at hu ⊢
      refine h'.2.2 (j, cv ad (nthV L j)) (List.mem_cons_of_mem _ (List.mem_filter.mpr ⟨lvl_mem hj hu, ?_⟩))
      have h1 : (j == n) = false := by simpa using e
      have h3 : (j == n + 1) = false := by simpa using e1
      by_cases e2 : j + 1 = n
      · subst e2
        have hc : (cv ad (nthV L j)).category = 1 := cat_cv hp
        simp [hc]
        omega
      · have h2 : (j + 1 == n) = false := by simpa using e2
        simp [h1, h2, h3]
theorem csum_cv {ad : Nat → Nat → Nat} : ∀ r : List AV, ((r.map (cv ad)).map fun v => v.category).sum = csum r
  | [] => rfl
  | .inl _ :: l => by simp only [List.map_cons, List.sum_cons, csum_cv l]; rfl
  | .inr (.inl _) :: l => by simp only [List.map_cons, List.sum_cons, csum_cv l]; rfl
  | .inr (.inr (.inl (_, _))) :: l => by simp only [List.map_cons, List.sum_cons, csum_cv l]; rfl
  | .inr (.inr (.inr _)) :: l => by simp only [List.map_cons, List.sum_cons, csum_cv l]; rfl
theorem fldW_get {ad : Nat → Nat → Nat} {i : Nat} {f : Nat → Int32} : ∀ (l : List (Option (Nat × Option Nat))) (b j : Nat), j < l.length → (fldW ad i f l b)[j]? = some (cv ad (fldX (nthF l j) i (f (b + j))))
  | [], _, _, h => by simp at h
  | fd :: l, b, 0, _ => rfl
  | fd :: l, b, j + 1, h => by
    have h1 : j < l.length := by simpa using h
    have := fldW_get (ad := ad) (i := i) (f := f) l (b + 1) j h1
    show (fldW ad i f l (b + 1))[j]? = _
    rw [this, Nat.add_right_comm]
    rfl
theorem fldW_len {ad : Nat → Nat → Nat} {i : Nat} {f : Nat → Int32} : ∀ (l : List (Option (Nat × Option Nat))) (b : Nat), (fldW ad i f l b).length = l.length
  | [], _ => rfl
  | _ :: l, b => by simp [fldW, fldW_len l (b + 1)]
theorem fldW_old {ad : Nat → Nat → Nat} {i : Nat} {f g : Nat → Int32} : ∀ (l : List (Option (Nat × Option Nat))) (b : Nat), (∀ j, b ≤ j → g j = f j) → fldW ad i g l b = fldW ad i f l b
  | [], _, _ => rfl
  | fd :: l, b, h => by
    unfold fldW
    rw [h b (Nat.le_refl b), fldW_old l (b + 1) (fun j hj => h j (by omega))]
theorem fldW_set {ad : Nat → Nat → Nat} {i : Nat} {f : Nat → Int32} {v : Int32} : ∀ (l : List (Option (Nat × Option Nat))) (b j : Nat), isN (nthF l j) = true → (fldW ad i f l b).set j (.int v) = fldW ad i (upd f (b + j) v) l b
  | [], _, _, _ => rfl
  | fd :: l, b, 0, h => by
    have hfd : fd = none := by
      cases fd with
      | none => rfl
      | some z => exact absurd h (by simp [nthF, isN])
    subst hfd
    unfold fldW
    rw [fldW_old (g := upd f (b + 0) v) (f := f) l (b + 1) (fun j hj => pk_un (by omega))]
    show Value.int v :: _ = _
    rw [show upd f (b + 0) v b = v from by simp [upd]]
    rfl
  | fd :: l, b, j + 1, h => by
    unfold fldW
    rw [show upd f (b + (j + 1)) v b = f b from pk_un (by omega)]
    show cv ad (fldX fd i (f b)) :: (fldW ad i f l (b + 1)).set j (.int v) = _
    rw [fldW_set l (b + 1) j h, Nat.add_right_comm, Nat.add_assoc]
theorem sI_v {st : List AV} {K : Int32 → List AV → Prop} (a : sI st K) : ∃ x r, st = .inl x :: r ∧ K x r := by
  unfold sI at a; split at a
  · exact ⟨_, _, rfl, a⟩
  · exact a.elim
theorem sII_v {st : List AV} {K : Int32 → Int32 → List AV → Prop} (a : sII st K) : ∃ x y r, st = .inl y :: .inl x :: r ∧ K x y r := by
  unfold sII at a; split at a
  · exact ⟨_, _, _, rfl, a⟩
  · exact a.elim
theorem sJ_v {st : List AV} {K : Int64 → List AV → Prop} (a : sJ st K) : ∃ x r, st = .inr (.inl x) :: r ∧ K x r := by
  unfold sJ at a; split at a
  · exact ⟨_, _, rfl, a⟩
  · exact a.elim
theorem sJJ_v {st : List AV} {K : Int64 → Int64 → List AV → Prop} (a : sJJ st K) : ∃ x y r, st = .inr (.inl y) :: .inr (.inl x) :: r ∧ K x y r := by
  unfold sJJ at a; split at a
  · exact ⟨_, _, _, rfl, a⟩
  · exact a.elim
theorem sR_v {st : List AV} {K : Nat → Nat → List AV → Prop} (a : sR st K) : ∃ k i r, st = .inr (.inr (.inl (k, i))) :: r ∧ K k i r := by
  unfold sR at a; split at a
  · exact ⟨_, _, _, rfl, a⟩
  · exact a.elim
theorem sIR_v {st : List AV} {K : Int32 → Nat → Nat → List AV → Prop} (a : sIR st K) : ∃ x k i r, st = .inl x :: .inr (.inr (.inl (k, i))) :: r ∧ K x k i r := by
  unfold sIR at a; split at a
  · exact ⟨_, _, _, _, rfl, a⟩
  · exact a.elim
theorem sIIR_v {st : List AV} {K : Int32 → Int32 → Nat → Nat → List AV → Prop} (a : sIIR st K) : ∃ v x k i r, st = .inl v :: .inl x :: .inr (.inr (.inl (k, i))) :: r ∧ K v x k i r := by
  unfold sIIR at a; split at a
  · exact ⟨_, _, _, _, _, rfl, a⟩
  · exact a.elim
theorem sCp_v {st : List AV} {K : Int32 → Int32 → Nat → Nat → Int32 → Nat → Nat → List AV → Prop} (a : sCp st K) : ∃ n dp k2 i2 sp k1 i1 r, st = .inl n :: .inl dp :: .inr (.inr (.inl (k2, i2))) :: .inl sp :: .inr (.inr (.inl (k1, i1))) :: r ∧ K n dp k2 i2 sp k1 i1 r := by
  unfold sCp at a; split at a
  · exact ⟨_, _, _, _, _, _, _, _, rfl, a⟩
  · exact a.elim
theorem s1_v {st : List AV} {K : AV → List AV → Prop} (a : s1 st K) : ∃ v r, st = v :: r ∧ cat1 v = true ∧ K v r := by
  unfold s1 at a; split at a
  · split at a
    · rename_i q; exact ⟨_, _, rfl, q, a⟩
    · exact a.elim
  · exact a.elim
theorem s2_v {st : List AV} {K : AV → AV → List AV → Prop} (a : s2 st K) : ∃ v w r, st = v :: w :: r ∧ cat1 v = true ∧ cat1 w = true ∧ K v w r := by
  unfold s2 at a; split at a
  · split at a
    · rename_i q
      rw [Bool.and_eq_true] at q
      exact ⟨_, _, _, rfl, q.1, q.2, a⟩
    · exact a.elim
  · exact a.elim
theorem gI_v {v : AV} {K : Int32 → Prop} (a : gI v K) : ∃ x, v = .inl x ∧ K x := by
  unfold gI at a; split at a
  · exact ⟨_, rfl, a⟩
  · exact a.elim
theorem gJ_v {v : AV} {K : Int64 → Prop} (a : gJ v K) : ∃ x, v = .inr (.inl x) ∧ K x := by
  unfold gJ at a; split at a
  · exact ⟨_, rfl, a⟩
  · exact a.elim
theorem gR_v {v : AV} {K : Nat → Nat → Prop} (a : gR v K) : ∃ k i, v = .inr (.inr (.inl (k, i))) ∧ K k i := by
  unfold gR at a; split at a
  · exact ⟨_, _, rfl, a⟩
  · exact a.elim
theorem tB_v {b : Bool} {P : Prop} (a : tB b P) : b = true ∧ P := by
  unfold tB at a; split at a
  · exact ⟨rfl, a⟩
  · exact a.elim
theorem nilS_v {r : List AV} {P : Prop} (a : nilS r P) : r = [] ∧ P := by
  unfold nilS at a; split at a
  · exact ⟨rfl, a⟩
  · exact a.elim
/-- what a decoded place says -/
theorem okE_v {own : Nat} {bs : ByteArray} {pc : Nat} {E : Ent} (h : okE own bs pc E = true) (hn : isNop E.1 = false) : decode bs pc = .ok (E.1, E.2.1) ∧ (elen E.1 = 0 ∨ elen E.1 = E.2.1) ∧ lkE own pc E = true := by
  unfold okE at h
  rw [hn, Bool.false_or, Bool.and_eq_true, Bool.and_eq_true, Bool.or_eq_true] at h
  obtain ⟨h1, h2, h3⟩ := h
  refine ⟨?_, ?_, h3⟩
  · revert h1
    cases decode bs pc with
    | error z => intro h1; cases h1
    | ok q =>
      intro h1
      have h1 : (decide (q.1 = E.1) && Nat.beq q.2 E.2.1) = true := h1
      rw [Bool.and_eq_true, decide_eq_true_eq] at h1
      have h4 := Nat.eq_of_beq_eq_true h1.2
      rw [← h1.1, ← h4]
  · rcases h2 with q | q
    · exact Or.inl (Nat.eq_of_beq_eq_true q)
    · exact Or.inr (Nat.eq_of_beq_eq_true q)

