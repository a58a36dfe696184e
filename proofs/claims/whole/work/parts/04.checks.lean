/-! the tables against the class files: by the kernel -/
def clsT (c : Nat) : u_T := match c with
  | 0 => TX0
  | 1 => TX1
  | 2 => TX2
  | 3 => TX3
  | 4 => TX4
  | _ => TX5
def clsN (c : Nat) : Nat := match c with
  | 0 => 3
  | 1 => 3
  | 2 => 5
  | 3 => 12
  | 4 => 9
  | _ => 24
def nthM : List MR → Nat → MR
  | [], _ => (⟨"", "", ""⟩, ⟨#[]⟩, 0, none, 0, 0, 0, 0, fun _ => nopE)
  | a :: _, 0 => a
  | _ :: l, n + 1 => nthM l n
def mrO (y : Nat) : MR := nthM MRs y
def nmO (y : Nat) : MethodName := (mrO y).1
def byO (y : Nat) : ByteArray := (mrO y).2.1
def mlO (y : Nat) : Nat := (mrO y).2.2.1
def reO (y : Nat) : Option FieldType := (mrO y).2.2.2.1
def owO (y : Nat) : Nat := (mrO y).2.2.2.2.1
def rtO (y : Nat) : Nat := (mrO y).2.2.2.2.2.1
def naO (y : Nat) : Nat := (mrO y).2.2.2.2.2.2.1
def tbO (y : Nat) : Nat → Ent := gtE (mrO y).2.2.2.2.2.2.2.1 (mrO y).2.2.2.2.2.2.2.2
def flW (q : Nat × Nat × Nat × Nat) : Cond := .fieldLink (ownS q.1) q.2.1 (ownS q.2.2.1) (clsT q.2.2.1 q.2.2.2).2.1 (clsT q.2.2.1 q.2.2.2).2.2.1
theorem lw_good : lw_tbl.all goodWord = true := by decide +kernel
theorem fl_ok : FLs.all (fun q => decide (flW q ∈ lw_tbl) && (Nat.blt q.2.2.1 6 && (Nat.blt q.2.2.2 (clsN q.2.2.1) && decide ((clsT q.2.2.1 q.2.2.2).1 = ownS q.2.2.1)))) = true := by decide +kernel
theorem cl_ok : CLs.all (fun q => decide (Cond.constant (ownS q.1) q.2.1 q.2.2 ∈ lw_tbl)) = true := by decide +kernel
theorem cj_ok : CJs.all (fun q => decide (Cond.constantLong (ownS q.1) q.2.1 q.2.2.toInt64 ∈ lw_tbl)) = true := by decide +kernel
theorem sl_ok : SLs.all (fun q => decide (Cond.fieldLink (ownS q.1) q.2.1 RX4 (sName q.2.2) "[I" ∈ lw_tbl)) = true := by decide +kernel
def mlC (q : Nat × Nat × Nat × Nat) : Bool := match q.2.2.2 with
  | 0 => decide (Cond.methodLink (ownS q.1) q.2.1 (nmO q.2.2.1) ∈ lw_tbl) && (decide (Cond.instanceMethod (nmO q.2.2.1) ∈ lw_tbl) && (decide (Cond.selects (nmO q.2.2.1).cls (nmO q.2.2.1) (nmO q.2.2.1) ∈ lw_tbl) && Nat.blt q.2.2.1 195))
  | 1 => decide (Cond.methodLink (ownS q.1) q.2.1 (nmO q.2.2.1) ∈ lw_tbl) && (decide (Cond.static (nmO q.2.2.1) ∈ lw_tbl) && Nat.blt q.2.2.1 195)
  | 2 => decide (Cond.methodLinkNest (ownS q.1) q.2.1 (nmO q.2.2.1) RX4 ∈ lw_tbl) && (decide (Cond.static (nmO q.2.2.1) ∈ lw_tbl) && Nat.blt q.2.2.1 195)
  | _ => decide (Cond.methodLink (ownS q.1) q.2.1 arraycopyName ∈ lw_tbl) && (decide (Cond.native arraycopyName ∈ lw_tbl) && (decide (Cond.static arraycopyName ∈ lw_tbl) && decide (Cond.initialized "java/lang/System" ∈ lw_tbl)))
theorem ml_ok : MLs.all mlC = true := by decide +kernel
def elen (i : Instr) : Nat := match i with
  | .bipush _ | .ldc _ | .iload _ | .aload _ | .lload _ | .istore _ | .astore _ | .lstore _ => 2
  | .sipush _ | .ldc_w _ | .ldc2_w _ | .iinc _ _ | .goto _ | .ifCond _ _ | .if_icmp _ _ | .getfield _ | .putfield _ | .getstatic _ | .invokevirtual _ | .invokestatic _ => 3
  | .tableswitch _ _ _ _ | .lookupswitch _ _ => 0
  | _ => 1
def okTS (pc : Nat) : Nat → List Int → List Nat → Bool
  | _, [], [] => true
  | lo, o :: os, k :: t :: l => Nat.beq k lo && (decide ((pc : Int) + o = (t : Int)) && okTS pc (lo + 1) os l)
  | _, _, _ => false
def okLS (pc : Nat) : List (Int × Int) → List Nat → Bool
  | [], [] => true
  | o :: os, k :: t :: l => decide (o.1 = (k : Int)) && (Nat.blt k 2147483648 && (decide ((pc : Int) + o.2 = (t : Int)) && okLS pc os l))
  | _, _ => false
def putOK (c j : Nat) : Bool := !(clsT c j).2.2.2 && decide (parseFieldDescriptor (clsT c j).2.2.1 = some .int)
def lkE (own pc : Nat) (E : Ent) : Bool := match E.1 with
  | .iconst n => decide (Int32.ofInt n = E.2.2.2)
  | .bipush n => decide ((Int8.ofInt n).toInt32 = E.2.2.2)
  | .sipush n => decide ((Int16.ofInt n).toInt32 = E.2.2.2)
  | .ldc i => decide (CLs[a0 E.2.2.1]? = some (own, i, E.2.2.2))
  | .ldc_w i => decide (CLs[a0 E.2.2.1]? = some (own, i, E.2.2.2))
  | .ldc2_w i => decide (CJs[a0 E.2.2.1]? = some (own, i, E.2.2.2))
  | .lconst n => decide (Int64.ofNat n.val = E.2.2.2.toInt64)
  | .iinc _ n => decide (Int32.ofInt n = E.2.2.2)
  | .goto o => decide ((pc : Int) + o = (a0 E.2.2.1 : Int))
  | .ifCond _ o => decide ((pc : Int) + o = (a0 E.2.2.1 : Int))
  | .if_icmp _ o => decide ((pc : Int) + o = (a0 E.2.2.1 : Int))
  | .getfield i => decide (FLs[a0 E.2.2.1]? = some (own, i, a1 E.2.2.1, a2 E.2.2.1))
  | .putfield i => decide (FLs[a0 E.2.2.1]? = some (own, i, a1 E.2.2.1, a2 E.2.2.1)) && putOK (a1 E.2.2.1) (a2 E.2.2.1)
  | .getstatic i => decide (SLs[a1 E.2.2.1]? = some (own, i, a0 E.2.2.1))
  | .tableswitch d lo hi os => decide ((pc : Int) + d = (a0 E.2.2.1 : Int)) && (decide (lo = (a0 (tl1 E.2.2.1) : Int)) && (decide (hi + 1 = lo + os.size) && (Nat.blt (a0 (tl1 E.2.2.1) + os.size) 2147483648 && okTS pc (a0 (tl1 E.2.2.1)) os.toList (tl1 E.2.2.1))))
  | .lookupswitch d ps => decide ((pc : Int) + d = (a0 E.2.2.1 : Int)) && ((ps.toList.zip (ps.toList.drop 1)).all (fun (a, next) => a.1 < next.1) && okLS pc ps.toList (tl1 E.2.2.1))
  | .invokevirtual i => decide (MLs[a0 E.2.2.1]? = some (own, i, a1 E.2.2.1, 0)) && (Nat.beq (naO (a1 E.2.2.1)) (a2 E.2.2.1 + 1) && Nat.beq (owO (a1 E.2.2.1)) (nthN (tl1 (tl1 (tl1 E.2.2.1))) 0))
  | .invokestatic i => (match Nat.beq (a1 E.2.2.1) 999 with
    | true => decide (MLs[a0 E.2.2.1]? = some (own, i, a1 E.2.2.1, 3))
    | false => (decide (MLs[a0 E.2.2.1]? = some (own, i, a1 E.2.2.1, 1)) || decide (MLs[a0 E.2.2.1]? = some (own, i, a1 E.2.2.1, 2))) && Nat.beq (naO (a1 E.2.2.1)) (a2 E.2.2.1))
  | _ => true
def isNop (i : Instr) : Bool := match i with
  | .nop => true
  | _ => false
def okE (own : Nat) (bs : ByteArray) (pc : Nat) (E : Ent) : Bool :=
  isNop E.1 || ((match decode bs pc with
    | .ok q => decide (q.1 = E.1) && Nat.beq q.2 E.2.1
    | _ => false) && ((Nat.beq (elen E.1) 0 || Nat.beq (elen E.1) E.2.1) && lkE own pc E))
def reK (r : Option FieldType) (k : Nat) : Bool := match k with
  | 0 => decide (r = none)
  | 1 => decide (r = some .int)
  | _ => Nat.beq k 2 && decide (r = some .boolean)
def chkM (r : MR) : Bool :=
  decide (Cond.code r.1 r.2.1 r.2.2.1 r.2.2.2.1 ∈ lw_tbl) && (plainName r.1.cls && (decide (r.1.cls ≠ "java/lang/invoke/MethodHandle" ∧ r.1.cls ≠ "java/lang/invoke/VarHandle") && (decide (r.1.cls = ownS r.2.2.2.2.1) && (reK r.2.2.2.1 r.2.2.2.2.2.1 && (decide (Cond.initialized r.1.cls ∈ lw_tbl) && (Nat.ble r.2.2.1 13 && (List.range r.2.2.2.2.2.2.2.1).all (fun pc => okE r.2.2.2.2.1 r.2.1 pc (r.2.2.2.2.2.2.2.2 pc))))))))
theorem ck_0 : MRs_0.all chkM = true := by decide +kernel
theorem ck_1 : MRs_1.all chkM = true := by decide +kernel
theorem ck_2 : MRs_2.all chkM = true := by decide +kernel
theorem ck_3 : MRs_3.all chkM = true := by decide +kernel
theorem ck_4 : MRs_4.all chkM = true := by decide +kernel
theorem ck_law : (List.range 1308).all (fun pc => Nat.blt pc 16 || okE 6 code pc (U_L_law pc)) = true := by decide +kernel
