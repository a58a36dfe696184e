/-! THE ABSTRACT MACHINE: ints, longs, references (kind, number); a memory of ints by kind, number, place; one step as a predicate transformer -/
abbrev AV : Type := Int32 ⊕ (Int64 ⊕ ((Nat × Nat) ⊕ Unit))
abbrev Mem : Type := Nat → Nat → Nat → Int32
abbrev Fr : Type := Nat × List AV × List AV
abbrev Ent : Type := Instr × Nat × List Nat × Int32
abbrev zI (x : Int32) : AV := Sum.inl x
abbrev zJ (x : Int64) : AV := Sum.inr (Sum.inl x)
abbrev zR (k i : Nat) : AV := Sum.inr (Sum.inr (Sum.inl (k, i)))
abbrev zU : AV := Sum.inr (Sum.inr (Sum.inr ()))
def mrow (M : Mem) (k i : Nat) (f : Nat → Int32) : Mem := fun k' i' => if k' = k ∧ i' = i then f else M k' i'
def mup (M : Mem) (k i j : Nat) (v : Int32) : Mem := mrow M k i (upd (M k i) j v)
def nopE : Ent := (.nop, 0, [], 0)
def lfE (n : Nat) (E : Ent) (pc : Nat) : Ent := bif Nat.beq pc n then E else nopE
def gtE (n : Nat) (t : Nat → Ent) (pc : Nat) : Ent := bif Nat.blt pc n then t pc else nopE
def nthN : List Nat → Nat → Nat
  | [], _ => 0
  | a :: _, 0 => a
  | _ :: l, n + 1 => nthN l n
def nthV : List AV → Nat → AV
  | [], _ => zU
  | a :: _, 0 => a
  | _ :: l, n + 1 => nthV l n
def inB : List AV → Nat → Bool
  | [], _ => false
  | _ :: _, 0 => true
  | _ :: l, n + 1 => inB l n
def setV : List AV → Nat → AV → List AV
  | [], _, _ => []
  | _ :: l, 0, v => v :: l
  | a :: l, n + 1, v => a :: setV l n v
def cat1 (v : AV) : Bool := match v with
  | .inr (.inl _) => false
  | _ => true
def csum : List AV → Nat
  | [] => 0
  | .inr (.inl _) :: l => 2 + csum l
  | _ :: l => 1 + csum l
def pre1 (L : List AV) (i : Nat) : Bool := match i with
  | 0 => true
  | j + 1 => cat1 (nthV L j)
def sI (st : List AV) (K : Int32 → List AV → Prop) : Prop := match st with
  | .inl x :: r => K x r
  | _ => False
def sII (st : List AV) (K : Int32 → Int32 → List AV → Prop) : Prop := match st with
  | .inl y :: .inl x :: r => K x y r
  | _ => False
def sJ (st : List AV) (K : Int64 → List AV → Prop) : Prop := match st with
  | .inr (.inl x) :: r => K x r
  | _ => False
def sJJ (st : List AV) (K : Int64 → Int64 → List AV → Prop) : Prop := match st with
  | .inr (.inl y) :: .inr (.inl x) :: r => K x y r
  | _ => False
def sR (st : List AV) (K : Nat → Nat → List AV → Prop) : Prop := match st with
  | .inr (.inr (.inl (k, i))) :: r => K k i r
  | _ => False
def sIR (st : List AV) (K : Int32 → Nat → Nat → List AV → Prop) : Prop := match st with
  | .inl x :: .inr (.inr (.inl (k, i))) :: r => K x k i r
  | _ => False
def sIIR (st : List AV) (K : Int32 → Int32 → Nat → Nat → List AV → Prop) : Prop := match st with
  | .inl v :: .inl x :: .inr (.inr (.inl (k, i))) :: r => K v x k i r
  | _ => False
def sCp (st : List AV) (K : Int32 → Int32 → Nat → Nat → Int32 → Nat → Nat → List AV → Prop) : Prop := match st with
  | .inl n :: .inl dp :: .inr (.inr (.inl (k2, i2))) :: .inl sp :: .inr (.inr (.inl (k1, i1))) :: r => K n dp k2 i2 sp k1 i1 r
  | _ => False
def s1 (st : List AV) (K : AV → List AV → Prop) : Prop := match st with
  | v :: r => (match cat1 v with
    | true => K v r
    | false => False)
  | _ => False
def s2 (st : List AV) (K : AV → AV → List AV → Prop) : Prop := match st with
  | v :: w :: r => (match cat1 v && cat1 w with
    | true => K v w r
    | false => False)
  | _ => False
def gI (v : AV) (K : Int32 → Prop) : Prop := match v with
  | .inl x => K x
  | _ => False
def gJ (v : AV) (K : Int64 → Prop) : Prop := match v with
  | .inr (.inl x) => K x
  | _ => False
def gR (v : AV) (K : Nat → Nat → Prop) : Prop := match v with
  | .inr (.inr (.inl (k, i))) => K k i
  | _ => False
def tB (b : Bool) (P : Prop) : Prop := match b with
  | true => P
  | false => False
def nilS (r : List AV) (P : Prop) : Prop := match r with
  | [] => P
  | _ => False
def brc (c : ClassFile.Cond) (x y : Int32) (A B : Prop) : Prop := match c with
  | .eq => (x = y → A) ∧ (¬ x = y → B)
  | .ne => (¬ x = y → A) ∧ (x = y → B)
  | .lt => (x < y → A) ∧ (¬ x < y → B)
  | .ge => (y ≤ x → A) ∧ (¬ y ≤ x → B)
  | .gt => (y < x → A) ∧ (¬ y < x → B)
  | .le => (x ≤ y → A) ∧ (¬ x ≤ y → B)
def swl (x : Int32) (d : Nat) (K : Nat → Prop) : List Nat → Prop
  | k :: t :: l => (x = nI k → K t) ∧ (¬ x = nI k → swl x d K l)
  | _ => K d
def a0 (l : List Nat) : Nat := match l with
  | a :: _ => a
  | _ => 0
def a1 (l : List Nat) : Nat := match l with
  | _ :: a :: _ => a
  | _ => 0
def a2 (l : List Nat) : Nat := match l with
  | _ :: _ :: a :: _ => a
  | _ => 0
def tl1 (l : List Nat) : List Nat := match l with
  | _ :: l => l
  | _ => []
def otl (r : Option AV) (rest : List AV) : List AV := match r with
  | some v => v :: rest
  | none => rest
/-! kinds: 0 the object; 1 rows; 2 Row; 3 its items; 4 Tape; 5 letters; 6 Town; 7 oil 8 sitters 9 sort 10 at 11 way; 12 images; 13 Acts; 14 before; 15 traced; 16 the reference; 17 lane 18 many 19 items 20 spare 21 tape 22 towns of the reference: 0 now, 1 draft, 2 tried; 25 past 26 images 27 kept 28 sitting 29 trace; 30 IS_ALSO 31 SIZE 32 MARK; 33 script -/
def kcls (k : Nat) : Nat := nthN [4, 99, 1, 99, 2, 99, 3, 99, 99, 99, 99, 99, 99, 0, 99, 99, 5, 99, 99, 99, 99, 99, 99, 99, 99, 99, 99, 99, 99, 99, 99, 99, 99, 99] k
def nthF : List (Option (Nat × Option Nat)) → Nat → Option (Nat × Option Nat)
  | [], _ => none
  | a :: _, 0 => a
  | _ :: l, n + 1 => nthF l n
/-- by class: the fields; none: an int; some (kind, none): the one of the same number; some (kind, some c): number c -/
def cfd (c : Nat) : List (Option (Nat × Option Nat)) := match c with
  | 0 => [some (14, some 0), none, none]
  | 1 => [some (3, none), none, none]
  | 2 => [some (5, some 0), none, none, none, none]
  | 3 => [some (7, none), some (8, none), some (9, none), some (10, none), some (11, none), none, none, none, none, none, none, none]
  | 4 => [some (1, some 0), some (4, some 0), some (6, some 0), some (6, some 1), some (12, some 0), some (13, some 0), some (15, some 0), none, none]
  | 5 => [some (17, some 0), some (18, some 0), some (19, some 0), some (20, some 0), none, some (21, some 0), none, none, none, none, none, none, none, none, some (22, some 0), some (22, some 1), some (22, some 2), some (25, some 0), none, some (26, some 0), some (27, some 0), some (28, some 0), some (29, some 0), none]
  | _ => []
def lens : List Nat := [0, 8, 0, 40, 0, 90, 0, 8, 8, 6, 6, 6, 2, 0, 24, 16, 0, 8, 8, 320, 40, 90, 45, 45, 45, 1080, 90, 2, 8, 16, 6, 6, 6, 0]
/-- 0 none, 1 ints, 2 booleans, 3 references, 4 ints that nobody writes -/
def kty (k : Nat) : Nat := nthN [0, 3, 0, 1, 0, 1, 0, 1, 1, 1, 1, 1, 3, 0, 3, 1, 0, 1, 1, 1, 1, 1, 1, 1, 1, 1, 1, 2, 1, 1, 4, 4, 4, 4] k
def isI (k : Nat) : Bool := Nat.beq (kty k) 1 || Nat.beq (kty k) 4
def isW (k : Nat) : Bool := Nat.beq (kty k) 1
def isZ (k : Nat) : Bool := Nat.beq (kty k) 2
def isA (k : Nat) : Bool := Nat.beq (kty k) 3
def lenOf (k : Nat) (M : Mem) : Nat := bif Nat.beq k 33 then (M 33 1 0).toNatClampNeg else nthN lens k
/-- the references in the arrays of references: their kind, the number of the first -/
def kel (k : Nat) : Nat := bif Nat.beq k 1 then 2 else 6
def kbs (k : Nat) : Nat := bif Nat.beq k 1 then 0 else bif Nat.beq k 12 then 2 else 4
def fldX (fd : Option (Nat × Option Nat)) (i : Nat) (v : Int32) : AV := match fd with
  | none => zI v
  | some (k, none) => zR k i
  | some (k, some c) => zR k c
def isN (fd : Option (Nat × Option Nat)) : Bool := match fd with
  | none => true
  | _ => false
def recv (c : Nat) (l : List AV) : Bool := match l with
  | .inr (.inr (.inl (k, _))) :: _ => Nat.beq (kcls k) c
  | _ => false
def gN (r : Option AV) (P : Prop) : Prop := match r with
  | none => P
  | _ => False
def gO (r : Option AV) (K : Int32 → Prop) : Prop := match r with
  | some (.inl v) => K v
  | _ => False
def kO (rk : Nat) (r : Option AV) (rest : List AV) (K : List AV → Prop) : Prop := match Nat.beq rk 0 with
  | true => gN r (K rest)
  | false => gO r (fun v => K (zI v :: rest))
def zB (rt : Nat) (v : Int32) (P : Prop) : Prop := match Nat.beq rt 2 with
  | true => (v = 0 ∨ v = 1) ∧ P
  | false => P
theorem zB_m {rt : Nat} {v : Int32} {P P' : Prop} (h : P → P') (a : zB rt v P) : zB rt v P' := by
  unfold zB at a ⊢
  cases hb : Nat.beq rt 2 with
  | true => rw [hb] at a; exact ⟨a.1, h a.2⟩
  | false => rw [hb] at a; exact h a
theorem zB_v {rt : Nat} {v : Int32} {P : Prop} (a : zB rt v P) : (rt = 2 → v = 0 ∨ v = 1) ∧ P := by
  unfold zB at a
  cases hb : Nat.beq rt 2 with
  | true => rw [hb] at a; exact ⟨fun _ => a.1, a.2⟩
  | false => rw [hb] at a; exact ⟨fun h => absurd hb (by rw [h]; simp), a⟩
abbrev Call : Type := Nat → List AV → Mem → (Option AV → Mem → Prop) → Prop
/-- one step -/
def stp (call : Call) (rt : Nat) (Q : Option AV → Mem → Prop) (X : Fr → Mem → Prop) (E : Ent) (pc : Nat) (L st : List AV) (M : Mem) : Prop :=
  match E.1 with
  | .iconst _ => X (pc + 1, L, zI E.2.2.2 :: st) M
  | .bipush _ => X (pc + 2, L, zI E.2.2.2 :: st) M
  | .sipush _ => X (pc + 3, L, zI E.2.2.2 :: st) M
  | .ldc _ => X (pc + 2, L, zI E.2.2.2 :: st) M
  | .ldc_w _ => X (pc + 3, L, zI E.2.2.2 :: st) M
  | .ldc2_w _ => X (pc + 3, L, zJ E.2.2.2.toInt64 :: st) M
  | .lconst _ => X (pc + 1, L, zJ E.2.2.2.toInt64 :: st) M
  | .iload n => gI (nthV L n) fun x => X (pc + 2, L, zI x :: st) M
  | .iload_n n => gI (nthV L n.val) fun x => X (pc + 1, L, zI x :: st) M
  | .aload n => gR (nthV L n) fun k i => X (pc + 2, L, zR k i :: st) M
  | .aload_n n => gR (nthV L n.val) fun k i => X (pc + 1, L, zR k i :: st) M
  | .lload n => gJ (nthV L n) fun x => X (pc + 2, L, zJ x :: st) M
  | .istore n => sI st fun x r => tB (pre1 L n && inB L n) (X (pc + 2, setV L n (zI x), r) M)
  | .istore_n n => sI st fun x r => tB (pre1 L n.val && inB L n.val) (X (pc + 1, setV L n.val (zI x), r) M)
  | .astore n => sR st fun k i r => tB (pre1 L n && inB L n) (X (pc + 2, setV L n (zR k i), r) M)
  | .astore_n n => sR st fun k i r => tB (pre1 L n.val && inB L n.val) (X (pc + 1, setV L n.val (zR k i), r) M)
  | .lstore n => sJ st fun x r => tB (pre1 L n && inB L (n + 1)) (X (pc + 2, setV (setV L n (zJ x)) (n + 1) zU, r) M)
  | .iinc n _ => gI (nthV L n) fun x => tB (pre1 L n && inB L n) (X (pc + 3, setV L n (zI (x + E.2.2.2)), st) M)
  | .iadd => sII st fun x y r => X (pc + 1, L, zI (x + y) :: r) M
  | .isub => sII st fun x y r => X (pc + 1, L, zI (x - y) :: r) M
  | .imul => sII st fun x y r => X (pc + 1, L, zI (x * y) :: r) M
  | .iand => sII st fun x y r => X (pc + 1, L, zI (x &&& y) :: r) M
  | .ior => sII st fun x y r => X (pc + 1, L, zI (x ||| y) :: r) M
  | .ixor => sII st fun x y r => X (pc + 1, L, zI (x ^^^ y) :: r) M
  | .ishl => sII st fun x y r => X (pc + 1, L, zI (x <<< (y &&& 31)) :: r) M
  | .ishr => sII st fun x y r => X (pc + 1, L, zI (x >>> (y &&& 31)) :: r) M
  | .iushr => sII st fun x y r => X (pc + 1, L, zI (x.toUInt32 >>> (y.toUInt32 &&& Int32.toUInt32 31)).toInt32 :: r) M
  | .ineg => sI st fun x r => X (pc + 1, L, zI (-x) :: r) M
  | .idiv => sII st fun x y r => ¬ y = 0 ∧ X (pc + 1, L, zI (x / y) :: r) M
  | .irem => sII st fun x y r => ¬ y = 0 ∧ X (pc + 1, L, zI (x - x / y * y) :: r) M
  | .lmul => sJJ st fun x y r => X (pc + 1, L, zJ (x * y) :: r) M
  | .lrem => sJJ st fun x y r => ¬ y = 0 ∧ X (pc + 1, L, zJ (x - x / y * y) :: r) M
  | .lcmp => sJJ st fun x y r => X (pc + 1, L, zI (lg_cmp x y) :: r) M
  | .i2l => sI st fun x r => X (pc + 1, L, zJ x.toInt64 :: r) M
  | .l2i => sJ st fun x r => X (pc + 1, L, zI x.toInt32 :: r) M
  | .i2b => sI st fun x r => X (pc + 1, L, zI x.toInt8.toInt32 :: r) M
  | .i2s => sI st fun x r => X (pc + 1, L, zI x.toInt16.toInt32 :: r) M
  | .dup => s1 st fun v r => X (pc + 1, L, v :: v :: r) M
  | .dup2 => s2 st fun v w r => X (pc + 1, L, v :: w :: v :: w :: r) M
  | .pop => s1 st fun _ r => X (pc + 1, L, r) M
  | .goto _ => X (a0 E.2.2.1, L, st) M
  | .ifCond c _ => sI st fun x r => brc c x 0 (X (a0 E.2.2.1, L, r) M) (X (pc + 3, L, r) M)
  | .if_icmp c _ => sII st fun x y r => brc c x y (X (a0 E.2.2.1, L, r) M) (X (pc + 3, L, r) M)
  | .getfield _ => sR st fun k i r => tB (Nat.beq (kcls k) (a1 E.2.2.1)) (X (pc + 3, L, fldX (nthF (cfd (a1 E.2.2.1)) (a2 E.2.2.1)) i (M k i (a2 E.2.2.1)) :: r) M)
  | .putfield _ => sIR st fun v k i r => tB (Nat.beq (kcls k) (a1 E.2.2.1) && isN (nthF (cfd (a1 E.2.2.1)) (a2 E.2.2.1))) (X (pc + 3, L, r) (mup M k i (a2 E.2.2.1) v))
  | .getstatic _ => X (pc + 3, L, zR (a0 E.2.2.1) 0 :: st) M
  | .iaload => sIR st fun x k i r => tB (isI k) (vp_in x (lenOf k M) ∧ X (pc + 1, L, zI (M k i x.toNatClampNeg) :: r) M)
  | .iastore => sIIR st fun v x k i r => tB (isW k) (vp_in x (nthN lens k) ∧ X (pc + 1, L, r) (mup M k i x.toNatClampNeg v))
  | .baload => sIR st fun x k i r => tB (isZ k) (vp_in x (nthN lens k) ∧ X (pc + 1, L, zI (M k i x.toNatClampNeg) :: r) M)
  | .bastore => sIIR st fun v x k i r => tB (isZ k) (v = 1 ∧ vp_in x (nthN lens k) ∧ X (pc + 1, L, r) (mup M k i x.toNatClampNeg 1))
  | .aaload => sIR st fun x k _ r => tB (isA k) (vp_in x (nthN lens k) ∧ X (pc + 1, L, zR (kel k) (kbs k + x.toNatClampNeg) :: r) M)
  | .arraylength => sR st fun k _ r => tB (Nat.beq k 33) (X (pc + 1, L, zI (M 33 1 0) :: r) M)
  | .tableswitch _ _ _ _ => sI st fun x r => swl x (a0 E.2.2.1) (fun t => X (t, L, r) M) (tl1 E.2.2.1)
  | .lookupswitch _ _ => sI st fun x r => swl x (a0 E.2.2.1) (fun t => X (t, L, r) M) (tl1 E.2.2.1)
  | .invokevirtual _ => tB (inB st (a2 E.2.2.1) && (recv (nthN (tl1 (tl1 (tl1 E.2.2.1))) 0) (st.take (a2 E.2.2.1 + 1)).reverse && (Nat.ble (csum (st.drop (a2 E.2.2.1 + 1))) 8 && (st.take (a2 E.2.2.1 + 1)).all cat1))) (call (a1 E.2.2.1) (st.take (a2 E.2.2.1 + 1)).reverse M (fun r M' => kO (nthN (tl1 (tl1 (tl1 E.2.2.1))) 1) r (st.drop (a2 E.2.2.1 + 1)) (fun st' => X (pc + 3, L, st') M')))
  | .invokestatic _ => (match Nat.beq (a1 E.2.2.1) 999 with
    | true => sCp st fun n dp k2 i2 sp k1 i1 r => tB (isW k1 && (isW k2 && Nat.ble (csum r) 8)) (¬ sp < 0 ∧ ¬ dp < 0 ∧ ¬ n < 0 ∧ sp.toNatClampNeg + n.toNatClampNeg ≤ nthN lens k1 ∧ dp.toNatClampNeg + n.toNatClampNeg ≤ nthN lens k2 ∧ X (pc + 3, L, r) (mrow M k2 i2 (va_cpy (M k1 i1) (M k2 i2) sp.toNatClampNeg dp.toNatClampNeg n.toNatClampNeg)))
    | false => (match Nat.beq (a1 E.2.2.1) 998 with
      | true => sII st fun x y r => tB (Nat.ble (csum r) 8) (X (pc + 3, L, zI (if y < x then y else x) :: r) M)
      | false => (match Nat.beq (a1 E.2.2.1) 997 with
        | true => sII st fun x y r => tB (Nat.ble (csum r) 8) (X (pc + 3, L, zI (if x < y then y else x) :: r) M)
        | false => tB (Nat.ble (a2 E.2.2.1) st.length && (Nat.ble (csum (st.drop (a2 E.2.2.1))) 8 && (st.take (a2 E.2.2.1)).all cat1)) (call (a1 E.2.2.1) (st.take (a2 E.2.2.1)).reverse M (fun r M' => kO (nthN (tl1 (tl1 (tl1 E.2.2.1))) 1) r (st.drop (a2 E.2.2.1)) (fun st' => X (pc + 3, L, st') M'))))))
  | .ireturn => sI st fun v r => nilS r (tB (Nat.blt 0 rt) (zB rt v (Q (some (zI v)) M)))
  | .return_ => nilS st (tB (Nat.beq rt 0) (Q none M))
  | _ => False
theorem sI_m {st : List AV} {K K' : Int32 → List AV → Prop} (h : ∀ x r, K x r → K' x r) (a : sI st K) : sI st K' := by
  unfold sI at a ⊢; split at a
  · exact h _ _ a
  · exact a.elim
theorem sII_m {st : List AV} {K K' : Int32 → Int32 → List AV → Prop} (h : ∀ x y r, K x y r → K' x y r) (a : sII st K) : sII st K' := by
  unfold sII at a ⊢; split at a
  · exact h _ _ _ a
  · exact a.elim
theorem sJ_m {st : List AV} {K K' : Int64 → List AV → Prop} (h : ∀ x r, K x r → K' x r) (a : sJ st K) : sJ st K' := by
  unfold sJ at a ⊢; split at a
  · exact h _ _ a
  · exact a.elim
theorem sJJ_m {st : List AV} {K K' : Int64 → Int64 → List AV → Prop} (h : ∀ x y r, K x y r → K' x y r) (a : sJJ st K) : sJJ st K' := by
  unfold sJJ at a ⊢; split at a
  · exact h _ _ _ a
  · exact a.elim
theorem sR_m {st : List AV} {K K' : Nat → Nat → List AV → Prop} (h : ∀ k i r, K k i r → K' k i r) (a : sR st K) : sR st K' := by
  unfold sR at a ⊢; split at a
  · exact h _ _ _ a
  · exact a.elim
theorem sIR_m {st : List AV} {K K' : Int32 → Nat → Nat → List AV → Prop} (h : ∀ x k i r, K x k i r → K' x k i r) (a : sIR st K) : sIR st K' := by
  unfold sIR at a ⊢; split at a
  · exact h _ _ _ _ a
  · exact a.elim
theorem sIIR_m {st : List AV} {K K' : Int32 → Int32 → Nat → Nat → List AV → Prop} (h : ∀ v x k i r, K v x k i r → K' v x k i r) (a : sIIR st K) : sIIR st K' := by
  unfold sIIR at a ⊢; split at a
  · exact h _ _ _ _ _ a
  · exact a.elim
theorem sCp_m {st : List AV} {K K' : Int32 → Int32 → Nat → Nat → Int32 → Nat → Nat → List AV → Prop} (h : ∀ n dp k2 i2 sp k1 i1 r, K n dp k2 i2 sp k1 i1 r → K' n dp k2 i2 sp k1 i1 r) (a : sCp st K) : sCp st K' := by
  unfold sCp at a ⊢; split at a
  · exact h _ _ _ _ _ _ _ _ a
  · exact a.elim
theorem s1_m {st : List AV} {K K' : AV → List AV → Prop} (h : ∀ v r, K v r → K' v r) (a : s1 st K) : s1 st K' := by
  unfold s1 at a ⊢; split at a
  · split at a
    · exact h _ _ a
    · exact a.elim
  · exact a.elim
theorem s2_m {st : List AV} {K K' : AV → AV → List AV → Prop} (h : ∀ v w r, K v w r → K' v w r) (a : s2 st K) : s2 st K' := by
  unfold s2 at a ⊢; split at a
  · split at a
    · exact h _ _ _ a
    · exact a.elim
  · exact a.elim
theorem gI_m {v : AV} {K K' : Int32 → Prop} (h : ∀ x, K x → K' x) (a : gI v K) : gI v K' := by
  unfold gI at a ⊢; split at a
  · exact h _ a
  · exact a.elim
theorem gJ_m {v : AV} {K K' : Int64 → Prop} (h : ∀ x, K x → K' x) (a : gJ v K) : gJ v K' := by
  unfold gJ at a ⊢; split at a
  · exact h _ a
  · exact a.elim
theorem gR_m {v : AV} {K K' : Nat → Nat → Prop} (h : ∀ k i, K k i → K' k i) (a : gR v K) : gR v K' := by
  unfold gR at a ⊢; split at a
  · exact h _ _ a
  · exact a.elim
theorem tB_m {b : Bool} {P P' : Prop} (h : P → P') (a : tB b P) : tB b P' := by
  unfold tB at a ⊢; split at a
  · exact h a
  · exact a.elim
theorem nilS_m {r : List AV} {P P' : Prop} (h : P → P') (a : nilS r P) : nilS r P' := by
  unfold nilS at a ⊢; split at a
  · exact h a
  · exact a.elim
theorem brc_m {c : ClassFile.Cond} {x y : Int32} {A B A' B' : Prop} (h : A → A') (g : B → B') (a : brc c x y A B) : brc c x y A' B' := by
  unfold brc at a ⊢; split at a <;> exact ⟨fun z => h (a.1 z), fun z => g (a.2 z)⟩
theorem swl_m {x : Int32} {d : Nat} {K K' : Nat → Prop} (h : ∀ t, K t → K' t) : ∀ l, swl x d K l → swl x d K' l
  | [], a => h _ a
  | [_], a => h _ a
  | k :: t :: l, a => ⟨fun z => h _ (a.1 z), fun z => swl_m h l (a.2 z)⟩
theorem kO_m {rk : Nat} {r : Option AV} {rest : List AV} {K K' : List AV → Prop} (h : ∀ st, K st → K' st) (a : kO rk r rest K) : kO rk r rest K' := by
  unfold kO at a ⊢
  cases hb : Nat.beq rk 0 with
  | true =>
    rw [hb] at a
    revert a
    cases r with
    | none => exact h _
    | some v => exact fun z => z
  | false =>
    rw [hb] at a
    revert a
    rcases r with _ | v | v
    · exact fun z => z
    · exact h _
    · exact fun z => z
set_option maxHeartbeats 4000000 in
theorem stp_m {call call' : Call} {rt : Nat} {Q Q' : Option AV → Mem → Prop} {X X' : Fr → Mem → Prop} {E : Ent} {pc : Nat} {L st : List AV} {M : Mem}
    (hc : ∀ y a M P P', (∀ r M, P r M → P' r M) → call y a M P → call' y a M P') (hQ : ∀ r M, Q r M → Q' r M) (hX : ∀ F M, X F M → X' F M) (h : stp call rt Q X E pc L st M) : stp call' rt Q' X' E pc L st M := by
  unfold stp at h ⊢
  cases he : E.1 <;> rw [he] at h <;> first
    | exact h.elim
    | exact hX _ _ h
    | exact gI_m (fun _ => hX _ _) h
    | exact gJ_m (fun _ => hX _ _) h
    | exact gR_m (fun _ _ => hX _ _) h
    | exact sI_m (fun _ _ => hX _ _) h
    | exact sJ_m (fun _ _ => hX _ _) h
    | exact sII_m (fun _ _ _ => hX _ _) h
    | exact sJJ_m (fun _ _ _ => hX _ _) h
    | exact s1_m (fun _ _ => hX _ _) h
    | exact s2_m (fun _ _ _ => hX _ _) h
    | exact sI_m (fun _ _ => tB_m (hX _ _)) h
    | exact sR_m (fun _ _ _ => tB_m (hX _ _)) h
    | exact sJ_m (fun _ _ => tB_m (hX _ _)) h
    | exact gI_m (fun _ => tB_m (hX _ _)) h
    | exact sII_m (fun _ _ _ q => ⟨q.1, hX _ _ q.2⟩) h
    | exact sJJ_m (fun _ _ _ q => ⟨q.1, hX _ _ q.2⟩) h
    | exact sI_m (fun _ _ => brc_m (hX _ _) (hX _ _)) h
    | exact sII_m (fun _ _ _ => brc_m (hX _ _) (hX _ _)) h
    | exact sIR_m (fun _ _ _ _ => tB_m (hX _ _)) h
    | exact sIR_m (fun _ _ _ _ => tB_m (fun q => ⟨q.1, hX _ _ q.2⟩)) h
    | exact sIIR_m (fun _ _ _ _ _ => tB_m (fun q => ⟨q.1, hX _ _ q.2⟩)) h
    | exact sIIR_m (fun _ _ _ _ _ => tB_m (fun q => ⟨q.1, q.2.1, hX _ _ q.2.2⟩)) h
    | exact sI_m (fun _ _ => swl_m (fun _ => hX _ _) _) h
    | exact tB_m (hc _ _ _ _ _ (fun _ _ => kO_m (fun _ => hX _ _))) h
    | exact sI_m (fun _ _ => nilS_m (tB_m (zB_m (hQ _ _)))) h
    | exact nilS_m (tB_m (hQ _ _)) h
    | (revert h; dsimp only; cases Nat.beq (a1 E.2.2.1) 999
       · cases Nat.beq (a1 E.2.2.1) 998
         · cases Nat.beq (a1 E.2.2.1) 997
           · exact tB_m (hc _ _ _ _ _ (fun _ _ => kO_m (fun _ => hX _ _)))
           · exact sII_m (fun _ _ _ => tB_m (hX _ _))
         · exact sII_m (fun _ _ _ => tB_m (hX _ _))
       · exact sCp_m (fun _ _ _ _ _ _ _ _ => tB_m (fun q => ⟨q.1, q.2.1, q.2.2.1, q.2.2.2.1, q.2.2.2.2.1, hX _ _ q.2.2.2.2.2⟩)))
/-- the least set that is closed under steps -/
def WP (call : Call) (rt : Nat) (T : Nat → Ent) (Q : Option AV → Mem → Prop) (F : Fr) (M : Mem) : Prop :=
  ∀ X : Fr → Mem → Prop, (∀ F M, stp call rt Q X (T F.1) F.1 F.2.1 F.2.2 M → X F M) → X F M
def stps (call : Call) (rt : Nat) (T : Nat → Ent) (Q : Option AV → Mem → Prop) (X : Fr → Mem → Prop) : Nat → Fr → Mem → Prop
  | 0 => X
  | n + 1 => fun F M => stp call rt Q (stps call rt T Q X n) (T F.1) F.1 F.2.1 F.2.2 M
def Mono (call : Call) : Prop := ∀ y a M P P', (∀ r M, P r M → P' r M) → call y a M P → call y a M P'
theorem WP.fold {call : Call} {rt : Nat} {T : Nat → Ent} {Q : Option AV → Mem → Prop} {F : Fr} {M : Mem} (hc : Mono call) (h : stp call rt Q (WP call rt T Q) (T F.1) F.1 F.2.1 F.2.2 M) : WP call rt T Q F M := by
  intro X hX
  exact hX F M (stp_m hc (fun _ _ q => q) (fun _ _ q => q X hX) h)
theorem WP.k {call : Call} {rt : Nat} {T : Nat → Ent} {Q : Option AV → Mem → Prop} (hc : Mono call) : ∀ (n : Nat) {F : Fr} {M : Mem}, stps call rt T Q (WP call rt T Q) n F M → WP call rt T Q F M
  | 0, _, _, h => h
  | n + 1, _, _, h => WP.fold hc (stp_m hc (fun _ _ q => q) (fun _ _ q => WP.k hc n q) h)
theorem WP.m {call call' : Call} {rt : Nat} {T : Nat → Ent} {Q Q' : Option AV → Mem → Prop} {F : Fr} {M : Mem} (hc : ∀ y a M P P', (∀ r M, P r M → P' r M) → call y a M P → call' y a M P') (hQ : ∀ r M, Q r M → Q' r M) (h : WP call rt T Q F M) : WP call' rt T Q' F M := by
  intro X hX
  exact h X (fun F M q => hX F M (stp_m hc hQ (fun _ _ q => q) q))
def entL (n : Nat) (av : List AV) : List AV := av ++ List.replicate (n - av.length) zU
theorem gO_i {v : Int32} {K : Int32 → Prop} (h : K v) : gO (some (zI v)) K := h
theorem gN_i {P : Prop} (h : P) : gN none P := h
