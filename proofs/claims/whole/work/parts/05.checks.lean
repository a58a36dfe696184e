def dsK (d : String) (n : Nat) : Bool := decide ((parseMethodDescriptor d).map (fun d => d.parameters.length) = some n)
def elen (i : Instr) : Nat := match i with
  | .bipush _ | .ldc _ | .iload _ | .aload _ | .lload _ | .istore _ | .astore _ | .lstore _ => 2
  | .sipush _ | .ldc_w _ | .ldc2_w _ | .iinc _ _ | .goto _ | .ifCond _ _ | .if_icmp _ _ | .getfield _ | .putfield _ | .getstatic _ | .invokevirtual _ | .invokestatic _ => 3
  | .tableswitch _ _ _ _ | .lookupswitch _ _ => 0
  | _ => 1
def okTS (pc : Nat) : Nat → List Int → List Nat → Bool
  | _, [], [] => true
  | lo, o :: os, k :: t :: l => Nat.beq k lo && (decide ((pc : Int) + o = (t : Int)) && okTS pc (lo + 1) os l)
  | _, _, _ => false
def okLS (pc : Nat) : List (Int × Int) → List Nat → Bool
  | [], [] => true
  | o :: os, k :: t :: l => decide (o.1 = (k : Int)) && (Nat.blt k 2147483648 && (decide ((pc : Int) + o.2 = (t : Int)) && okLS pc os l))
  | _, _ => false
def putOK (c j : Nat) : Bool := !(clsT c j).2.2.2 && decide (parseFieldDescriptor (clsT c j).2.2.1 = some .int)
def lkE (own pc : Nat) (E : Ent) : Bool := match E.1 with
  | .iconst n => decide (Int32.ofInt n = E.2.2.2)
  | .bipush n => decide ((Int8.ofInt n).toInt32 = E.2.2.2)
  | .sipush n => decide ((Int16.ofInt n).toInt32 = E.2.2.2)
  | .ldc i => decide (CLs[a0 E.2.2.1]? = some (own, i, E.2.2.2))
  | .ldc_w i => decide (CLs[a0 E.2.2.1]? = some (own, i, E.2.2.2))
  | .ldc2_w i => decide (CJs[a0 E.2.2.1]? = some (own, i, E.2.2.2))
  | .lconst n => decide (Int64.ofNat n.val = E.2.2.2.toInt64)
  | .iinc _ n => decide (Int32.ofInt n = E.2.2.2)
  | .goto o => decide ((pc : Int) + o = (a0 E.2.2.1 : Int))
  | .ifCond _ o => decide ((pc : Int) + o = (a0 E.2.2.1 : Int))
  | .if_icmp _ o => decide ((pc : Int) + o = (a0 E.2.2.1 : Int))
  | .getfield i => decide (FLs[a0 E.2.2.1]? = some (own, i, a1 E.2.2.1, a2 E.2.2.1))
  | .putfield i => decide (FLs[a0 E.2.2.1]? = some (own, i, a1 E.2.2.1, a2 E.2.2.1)) && putOK (a1 E.2.2.1) (a2 E.2.2.1)
  | .getstatic i => decide (SLs[a1 E.2.2.1]? = some (own, i, a0 E.2.2.1))
  | .tableswitch d lo hi os => decide ((pc : Int) + d = (a0 E.2.2.1 : Int)) && (decide (lo = (a0 (tl1 E.2.2.1) : Int)) && (decide (hi + 1 = lo + os.size) && (Nat.blt (a0 (tl1 E.2.2.1) + os.size) 2147483648 && okTS pc (a0 (tl1 E.2.2.1)) os.toList (tl1 E.2.2.1))))
  | .lookupswitch d ps => decide ((pc : Int) + d = (a0 E.2.2.1 : Int)) && ((ps.toList.zip (ps.toList.drop 1)).all (fun (a, next) => a.1 < next.1) && okLS pc ps.toList (tl1 E.2.2.1))
  | .invokevirtual i => decide (MLs[a0 E.2.2.1]? = some (own, i, a1 E.2.2.1, 0)) && (Nat.beq (naO (a1 E.2.2.1)) (a2 E.2.2.1 + 1) && (Nat.beq (owO (a1 E.2.2.1)) (nthN (tl1 (tl1 (tl1 E.2.2.1))) 0) && dsK (nmO (a1 E.2.2.1)).desc (a2 E.2.2.1)))
  | .invokestatic i => (match Nat.beq (a1 E.2.2.1) 999 with
    | true => decide (MLs[a0 E.2.2.1]? = some (own, i, a1 E.2.2.1, 3))
    | false => (match Nat.beq (a1 E.2.2.1) 998 with
      | true => decide (MLs[a0 E.2.2.1]? = some (own, i, a1 E.2.2.1, 4))
      | false => (match Nat.beq (a1 E.2.2.1) 997 with
        | true => decide (MLs[a0 E.2.2.1]? = some (own, i, a1 E.2.2.1, 5))
        | false => (decide (MLs[a0 E.2.2.1]? = some (own, i, a1 E.2.2.1, 1)) || decide (MLs[a0 E.2.2.1]? = some (own, i, a1 E.2.2.1, 2))) && (Nat.beq (naO (a1 E.2.2.1)) (a2 E.2.2.1) && dsK (nmO (a1 E.2.2.1)).desc (a2 E.2.2.1)))))
  | _ => true
def isNop (i : Instr) : Bool := match i with
  | .nop => true
  | _ => false
def okE (own : Nat) (bs : ByteArray) (pc : Nat) (E : Ent) : Bool :=
  isNop E.1 || ((match decode bs pc with
    | .ok q => decide (q.1 = E.1) && Nat.beq q.2 E.2.1
    | _ => false) && ((Nat.beq (elen E.1) 0 || Nat.beq (elen E.1) E.2.1) && lkE own pc E))
def reK (r : Option FieldType) (k : Nat) : Bool := match k with
  | 0 => decide (r = none)
  | 1 => decide (r = some .int)
  | _ => Nat.beq k 2 && decide (r = some .boolean)
/-- a method's row: its names, its return, every place of its table against its bytes -/
def chkT (r : MR) : Bool :=
  plainName r.1.cls && (decide (r.1.cls ≠ "java/lang/invoke/MethodHandle" ∧ r.1.cls ≠ "java/lang/invoke/VarHandle") && (decide (r.1.cls = ownS r.2.2.2.2.1) && (Nat.blt r.2.2.2.2.1 9 && (reK r.2.2.2.1 r.2.2.2.2.2.1 && (Nat.ble r.2.2.1 13 && (List.range r.2.2.2.2.2.2.2.1).all (fun pc => okE r.2.2.2.2.1 r.2.1 pc (r.2.2.2.2.2.2.2.2 pc)))))))
theorem kt_X0_keep : chkT R_X0_keep = true := by decide +kernel
theorem kt_X0_takeBack : chkT R_X0_takeBack = true := by decide +kernel
theorem kt_X0_forget : chkT R_X0_forget = true := by decide +kernel
theorem kt_X1_isMissing : chkT R_X1_isMissing = true := by decide +kernel
theorem kt_X1_begin : chkT R_X1_begin = true := by decide +kernel
theorem kt_X1_end : chkT R_X1_end = true := by decide +kernel
theorem kt_X1_hasItems : chkT R_X1_hasItems = true := by decide +kernel
theorem kt_X1_narrowed : chkT R_X1_narrowed = true := by decide +kernel
theorem kt_X2_isFull : chkT R_X2_isFull = true := by decide +kernel
theorem kt_X2_add : chkT R_X2_add = true := by decide +kernel
theorem kt_X2_clear : chkT R_X2_clear = true := by decide +kernel
theorem kt_X2_readInto : chkT R_X2_readInto = true := by decide +kernel
theorem kt_X2_readLaw : chkT R_X2_readLaw = true := by decide +kernel
theorem kt_X2_readFlames : chkT R_X2_readFlames = true := by decide +kernel
theorem kt_X2_readFlame : chkT R_X2_readFlame = true := by decide +kernel
theorem kt_X2_readSitters : chkT R_X2_readSitters = true := by decide +kernel
theorem kt_X2_readPlayers : chkT R_X2_readPlayers = true := by decide +kernel
theorem kt_X2_readPlayer : chkT R_X2_readPlayer = true := by decide +kernel
theorem kt_X2_sortOf : chkT R_X2_sortOf = true := by decide +kernel
theorem kt_X2_isNext : chkT R_X2_isNext = true := by decide +kernel
theorem kt_X2_passes : chkT R_X2_passes = true := by decide +kernel
theorem kt_X2_readNumber : chkT R_X2_readNumber = true := by decide +kernel
theorem kt_X2_isFigure : chkT R_X2_isFigure = true := by decide +kernel
theorem kt_X2_faultHere : chkT R_X2_faultHere = true := by decide +kernel
theorem kt_X3_stands : chkT R_X3_stands = true := by decide +kernel
theorem kt_X3_hasPlace : chkT R_X3_hasPlace = true := by decide +kernel
theorem kt_X3_hasPlayer : chkT R_X3_hasPlayer = true := by decide +kernel
theorem kt_X3_hasCrossed : chkT R_X3_hasCrossed = true := by decide +kernel
theorem kt_X3_clear : chkT R_X3_clear = true := by decide +kernel
theorem kt_X3_become : chkT R_X3_become = true := by decide +kernel
theorem kt_X3_addPlayer : chkT R_X3_addPlayer = true := by decide +kernel
theorem kt_X3_addOil : chkT R_X3_addOil = true := by decide +kernel
theorem kt_X3_fillUp : chkT R_X3_fillUp = true := by decide +kernel
theorem kt_X3_putOut : chkT R_X3_putOut = true := by decide +kernel
theorem kt_X3_turnRound : chkT R_X3_turnRound = true := by decide +kernel
theorem kt_X3_placeOf : chkT R_X3_placeOf = true := by decide +kernel
theorem kt_X3_playersAt : chkT R_X3_playersAt = true := by decide +kernel
theorem kt_X3_sittersInAll : chkT R_X3_sittersInAll = true := by decide +kernel
theorem kt_X3_litPlaces : chkT R_X3_litPlaces = true := by decide +kernel
theorem kt_X3_clapsFor : chkT R_X3_clapsFor = true := by decide +kernel
theorem kt_X3_passEvenings : chkT R_X3_passEvenings = true := by decide +kernel
theorem kt_X3_letsCross : chkT R_X3_letsCross = true := by decide +kernel
theorem kt_X3_passEvening : chkT R_X3_passEvening = true := by decide +kernel
theorem kt_X3_takeDraw : chkT R_X3_takeDraw = true := by decide +kernel
theorem kt_X3_letGo : chkT R_X3_letGo = true := by decide +kernel
theorem kt_X3_goAsFarmer : chkT R_X3_goAsFarmer = true := by decide +kernel
theorem kt_X3_goAsLad : chkT R_X3_goAsLad = true := by decide +kernel
theorem kt_X3_goAsChild : chkT R_X3_goAsChild = true := by decide +kernel
theorem kt_X3_goAsCart : chkT R_X3_goAsCart = true := by decide +kernel
theorem kt_X3_nextByWay : chkT R_X3_nextByWay = true := by decide +kernel
theorem kt_X3_stepTowards : chkT R_X3_stepTowards = true := by decide +kernel
theorem kt_X3_clap : chkT R_X3_clap = true := by decide +kernel
theorem kt_X3_seat : chkT R_X3_seat = true := by decide +kernel
theorem kt_X3_burnDown : chkT R_X3_burnDown = true := by decide +kernel
theorem kt_X4_row : chkT R_X4_row = true := by decide +kernel
theorem kt_X4_set : chkT R_X4_set = true := by decide +kernel
theorem kt_X4_copy : chkT R_X4_copy = true := by decide +kernel
theorem kt_X4_drop : chkT R_X4_drop = true := by decide +kernel
theorem kt_X4_feed : chkT R_X4_feed = true := by decide +kernel
theorem kt_X4_town : chkT R_X4_town = true := by decide +kernel
theorem kt_X4_fault : chkT R_X4_fault = true := by decide +kernel
theorem kt_X4_evenings : chkT R_X4_evenings = true := by decide +kernel
theorem kt_X4_pour : chkT R_X4_pour = true := by decide +kernel
theorem kt_X4_quench : chkT R_X4_quench = true := by decide +kernel
theorem kt_X4_move : chkT R_X4_move = true := by decide +kernel
theorem kt_X4_turn : chkT R_X4_turn = true := by decide +kernel
theorem kt_X4_undo : chkT R_X4_undo = true := by decide +kernel
theorem kt_X4_player : chkT R_X4_player = true := by decide +kernel
theorem kt_X4_place : chkT R_X4_place = true := by decide +kernel
theorem kt_X4_ahead : chkT R_X4_ahead = true := by decide +kernel
theorem kt_X4_oil : chkT R_X4_oil = true := by decide +kernel
theorem kt_X4_later : chkT R_X4_later = true := by decide +kernel
theorem kt_X4_crossing : chkT R_X4_crossing = true := by decide +kernel
theorem kt_X4_out : chkT R_X4_out = true := by decide +kernel
theorem kt_X4_gap : chkT R_X4_gap = true := by decide +kernel
theorem kt_X4_hold : chkT R_X4_hold = true := by decide +kernel
theorem kt_X4_fill : chkT R_X4_fill = true := by decide +kernel
theorem kt_X4_lure : chkT R_X4_lure = true := by decide +kernel
theorem kt_X4_fits : chkT R_X4_fits = true := by decide +kernel
theorem kt_X4_sits : chkT R_X4_sits = true := by decide +kernel
theorem kt_X4_wind : chkT R_X4_wind = true := by decide +kernel
theorem kt_X4_drawn : chkT R_X4_drawn = true := by decide +kernel
theorem kt_X4_image : chkT R_X4_image = true := by decide +kernel
theorem kt_X4_restore : chkT R_X4_restore = true := by decide +kernel
theorem kt_X4_kind : chkT R_X4_kind = true := by decide +kernel
theorem kt_X4_as : chkT R_X4_as = true := by decide +kernel
theorem kt_X4_ask : chkT R_X4_ask = true := by decide +kernel
theorem kt_X4_trace : chkT R_X4_trace = true := by decide +kernel
theorem kt_X4_count : chkT R_X4_count = true := by decide +kernel
theorem kt_X4_status : chkT R_X4_status = true := by decide +kernel
theorem kt_X4_isRow : chkT R_X4_isRow = true := by decide +kernel
theorem kt_X4_isWithin : chkT R_X4_isWithin = true := by decide +kernel
theorem kt_X4_isEither : chkT R_X4_isEither = true := by decide +kernel
theorem kt_X4_hasBit : chkT R_X4_hasBit = true := by decide +kernel
theorem kt_X4_found : chkT R_X4_found = true := by decide +kernel
theorem kt_X4_foundNothing : chkT R_X4_foundNothing = true := by decide +kernel
theorem kt_X4_rowsThatAre : chkT R_X4_rowsThatAre = true := by decide +kernel
theorem kt_X4_foretellNow : chkT R_X4_foretellNow = true := by decide +kernel
theorem kt_X4_fewestFilled : chkT R_X4_fewestFilled = true := by decide +kernel
theorem kt_X4_fitting : chkT R_X4_fitting = true := by decide +kernel
theorem kt_X4_goesAsTold : chkT R_X4_goesAsTold = true := by decide +kernel
theorem kt_X4_clapsAsTold : chkT R_X4_clapsAsTold = true := by decide +kernel
theorem kt_X4_flamesThatMatter : chkT R_X4_flamesThatMatter = true := by decide +kernel
theorem kt_X4_crossedByWind : chkT R_X4_crossedByWind = true := by decide +kernel
theorem kt_X4_power : chkT R_X4_power = true := by decide +kernel
theorem kt_X4_greatestCommon : chkT R_X4_greatestCommon = true := by decide +kernel
theorem kt_X4_firstBody : chkT R_X4_firstBody = true := by decide +kernel
theorem kt_X4_beginBody : chkT R_X4_beginBody = true := by decide +kernel
theorem kt_X4_leaveTrace : chkT R_X4_leaveTrace = true := by decide +kernel
theorem kt_X5_in : chkT R_X5_in = true := by decide +kernel
theorem kt_X5_has : chkT R_X5_has = true := by decide +kernel
theorem kt_X5_ones : chkT R_X5_ones = true := by decide +kernel
theorem kt_X5_lesser : chkT R_X5_lesser = true := by decide +kernel
theorem kt_X5_found : chkT R_X5_found = true := by decide +kernel
theorem kt_X5_well : chkT R_X5_well = true := by decide +kernel
theorem kt_X5_copies : chkT R_X5_copies = true := by decide +kernel
theorem kt_X5_isRow : chkT R_X5_isRow = true := by decide +kernel
theorem kt_X5_isMissing : chkT R_X5_isMissing = true := by decide +kernel
theorem kt_X5_cut : chkT R_X5_cut = true := by decide +kernel
theorem kt_X5_row : chkT R_X5_row = true := by decide +kernel
theorem kt_X5_set : chkT R_X5_set = true := by decide +kernel
theorem kt_X5_isPart : chkT R_X5_isPart = true := by decide +kernel
theorem kt_X5_copy : chkT R_X5_copy = true := by decide +kernel
theorem kt_X5_drop : chkT R_X5_drop = true := by decide +kernel
theorem kt_X5_feed : chkT R_X5_feed = true := by decide +kernel
theorem kt_X5_byteAt : chkT R_X5_byteAt = true := by decide +kernel
theorem kt_X5_advances : chkT R_X5_advances = true := by decide +kernel
theorem kt_X5_isWell : chkT R_X5_isWell = true := by decide +kernel
theorem kt_X5_takes : chkT R_X5_takes = true := by decide +kernel
theorem kt_X5_figure : chkT R_X5_figure = true := by decide +kernel
theorem kt_X5_kindOf : chkT R_X5_kindOf = true := by decide +kernel
theorem kt_X5_follows : chkT R_X5_follows = true := by decide +kernel
theorem kt_X5_readsFlame : chkT R_X5_readsFlame = true := by decide +kernel
theorem kt_X5_readsSitter : chkT R_X5_readsSitter = true := by decide +kernel
theorem kt_X5_readsPlayer : chkT R_X5_readsPlayer = true := by decide +kernel
theorem kt_X5_must : chkT R_X5_must = true := by decide +kernel
theorem kt_X5_town : chkT R_X5_town = true := by decide +kernel
theorem kt_X5_fault : chkT R_X5_fault = true := by decide +kernel
theorem kt_X5_isTown : chkT R_X5_isTown = true := by decide +kernel
theorem kt_X5_isPlace : chkT R_X5_isPlace = true := by decide +kernel
theorem kt_X5_isPlayer : chkT R_X5_isPlayer = true := by decide +kernel
theorem kt_X5_hasCrossed : chkT R_X5_hasCrossed = true := by decide +kernel
theorem kt_X5_litOf : chkT R_X5_litOf = true := by decide +kernel
theorem kt_X5_nearest : chkT R_X5_nearest = true := by decide +kernel
theorem kt_X5_nearer : chkT R_X5_nearer = true := by decide +kernel
theorem kt_X5_crosses : chkT R_X5_crosses = true := by decide +kernel
theorem kt_X5_goes : chkT R_X5_goes = true := by decide +kernel
theorem kt_X5_clapsAt : chkT R_X5_clapsAt = true := by decide +kernel
theorem kt_X5_passes : chkT R_X5_passes = true := by decide +kernel
theorem kt_X5_crossed : chkT R_X5_crossed = true := by decide +kernel
theorem kt_X5_whereIs : chkT R_X5_whereIs = true := by decide +kernel
theorem kt_X5_notes : chkT R_X5_notes = true := by decide +kernel
theorem kt_X5_evenings : chkT R_X5_evenings = true := by decide +kernel
theorem kt_X5_pour : chkT R_X5_pour = true := by decide +kernel
theorem kt_X5_quench : chkT R_X5_quench = true := by decide +kernel
theorem kt_X5_move : chkT R_X5_move = true := by decide +kernel
theorem kt_X5_turn : chkT R_X5_turn = true := by decide +kernel
theorem kt_X5_undo : chkT R_X5_undo = true := by decide +kernel
theorem kt_X5_player : chkT R_X5_player = true := by decide +kernel
theorem kt_X5_playersIn : chkT R_X5_playersIn = true := by decide +kernel
theorem kt_X5_place : chkT R_X5_place = true := by decide +kernel
theorem kt_X5_goesOn : chkT R_X5_goesOn = true := by decide +kernel
theorem kt_X5_ahead : chkT R_X5_ahead = true := by decide +kernel
theorem kt_X5_oil : chkT R_X5_oil = true := by decide +kernel
theorem kt_X5_later : chkT R_X5_later = true := by decide +kernel
theorem kt_X5_crossing : chkT R_X5_crossing = true := by decide +kernel
theorem kt_X5_out : chkT R_X5_out = true := by decide +kernel
theorem kt_X5_gap : chkT R_X5_gap = true := by decide +kernel
theorem kt_X5_isNear : chkT R_X5_isNear = true := by decide +kernel
theorem kt_X5_hold : chkT R_X5_hold = true := by decide +kernel
theorem kt_X5_fill : chkT R_X5_fill = true := by decide +kernel
theorem kt_X5_lure : chkT R_X5_lure = true := by decide +kernel
theorem kt_X5_isSeen : chkT R_X5_isSeen = true := by decide +kernel
theorem kt_X5_fits : chkT R_X5_fits = true := by decide +kernel
theorem kt_X5_sits : chkT R_X5_sits = true := by decide +kernel
theorem kt_X5_wind : chkT R_X5_wind = true := by decide +kernel
theorem kt_X5_drawn : chkT R_X5_drawn = true := by decide +kernel
theorem kt_X5_image : chkT R_X5_image = true := by decide +kernel
theorem kt_X5_restore : chkT R_X5_restore = true := by decide +kernel
theorem kt_X5_kindIn : chkT R_X5_kindIn = true := by decide +kernel
theorem kt_X5_kind : chkT R_X5_kind = true := by decide +kernel
theorem kt_X5_as : chkT R_X5_as = true := by decide +kernel
theorem kt_X5_begins : chkT R_X5_begins = true := by decide +kernel
theorem kt_X5_farmerMark : chkT R_X5_farmerMark = true := by decide +kernel
theorem kt_X5_cartSize : chkT R_X5_cartSize = true := by decide +kernel
theorem kt_X5_farmerSize : chkT R_X5_farmerSize = true := by decide +kernel
theorem kt_X5_cartMark : chkT R_X5_cartMark = true := by decide +kernel
theorem kt_X5_ask : chkT R_X5_ask = true := by decide +kernel
theorem kt_X5_trace : chkT R_X5_trace = true := by decide +kernel
theorem kt_X5_sitters : chkT R_X5_sitters = true := by decide +kernel
theorem kt_X5_count : chkT R_X5_count = true := by decide +kernel
theorem kt_X5_status : chkT R_X5_status = true := by decide +kernel
theorem kt_J6_bitCount_0f7a4 : chkT R_J6_bitCount_0f7a4 = true := by decide +kernel
theorem kt_X4_bodyGives : chkT R_X4_bodyGives = true := by decide +kernel
set_option maxRecDepth 100000 in
theorem kt_all : ∀ r ∈ MRs, chkT r = true := List.forall_mem_cons.mpr ⟨kt_X0_keep, List.forall_mem_cons.mpr ⟨kt_X0_takeBack, List.forall_mem_cons.mpr ⟨kt_X0_forget, List.forall_mem_cons.mpr ⟨kt_X1_isMissing, List.forall_mem_cons.mpr ⟨kt_X1_begin, List.forall_mem_cons.mpr ⟨kt_X1_end, List.forall_mem_cons.mpr ⟨kt_X1_hasItems, List.forall_mem_cons.mpr ⟨kt_X1_narrowed, List.forall_mem_cons.mpr ⟨kt_X2_isFull, List.forall_mem_cons.mpr ⟨kt_X2_add, List.forall_mem_cons.mpr ⟨kt_X2_clear, List.forall_mem_cons.mpr ⟨kt_X2_readInto, List.forall_mem_cons.mpr ⟨kt_X2_readLaw, List.forall_mem_cons.mpr ⟨kt_X2_readFlames, List.forall_mem_cons.mpr ⟨kt_X2_readFlame, List.forall_mem_cons.mpr ⟨kt_X2_readSitters, List.forall_mem_cons.mpr ⟨kt_X2_readPlayers, List.forall_mem_cons.mpr ⟨kt_X2_readPlayer, List.forall_mem_cons.mpr ⟨kt_X2_sortOf, List.forall_mem_cons.mpr ⟨kt_X2_isNext, List.forall_mem_cons.mpr ⟨kt_X2_passes, List.forall_mem_cons.mpr ⟨kt_X2_readNumber, List.forall_mem_cons.mpr ⟨kt_X2_isFigure, List.forall_mem_cons.mpr ⟨kt_X2_faultHere, List.forall_mem_cons.mpr ⟨kt_X3_stands, List.forall_mem_cons.mpr ⟨kt_X3_hasPlace, List.forall_mem_cons.mpr ⟨kt_X3_hasPlayer, List.forall_mem_cons.mpr ⟨kt_X3_hasCrossed, List.forall_mem_cons.mpr ⟨kt_X3_clear, List.forall_mem_cons.mpr ⟨kt_X3_become, List.forall_mem_cons.mpr ⟨kt_X3_addPlayer, List.forall_mem_cons.mpr ⟨kt_X3_addOil, List.forall_mem_cons.mpr ⟨kt_X3_fillUp, List.forall_mem_cons.mpr ⟨kt_X3_putOut, List.forall_mem_cons.mpr ⟨kt_X3_turnRound, List.forall_mem_cons.mpr ⟨kt_X3_placeOf, List.forall_mem_cons.mpr ⟨kt_X3_playersAt, List.forall_mem_cons.mpr ⟨kt_X3_sittersInAll, List.forall_mem_cons.mpr ⟨kt_X3_litPlaces, List.forall_mem_cons.mpr ⟨kt_X3_clapsFor, List.forall_mem_cons.mpr ⟨kt_X3_passEvenings, List.forall_mem_cons.mpr ⟨kt_X3_letsCross, List.forall_mem_cons.mpr ⟨kt_X3_passEvening, List.forall_mem_cons.mpr ⟨kt_X3_takeDraw, List.forall_mem_cons.mpr ⟨kt_X3_letGo, List.forall_mem_cons.mpr ⟨kt_X3_goAsFarmer, List.forall_mem_cons.mpr ⟨kt_X3_goAsLad, List.forall_mem_cons.mpr ⟨kt_X3_goAsChild, List.forall_mem_cons.mpr ⟨kt_X3_goAsCart, List.forall_mem_cons.mpr ⟨kt_X3_nextByWay, List.forall_mem_cons.mpr ⟨kt_X3_stepTowards, List.forall_mem_cons.mpr ⟨kt_X3_clap, List.forall_mem_cons.mpr ⟨kt_X3_seat, List.forall_mem_cons.mpr ⟨kt_X3_burnDown, List.forall_mem_cons.mpr ⟨kt_X4_row, List.forall_mem_cons.mpr ⟨kt_X4_set, List.forall_mem_cons.mpr ⟨kt_X4_copy, List.forall_mem_cons.mpr ⟨kt_X4_drop, List.forall_mem_cons.mpr ⟨kt_X4_feed, List.forall_mem_cons.mpr ⟨kt_X4_town, List.forall_mem_cons.mpr ⟨kt_X4_fault, List.forall_mem_cons.mpr ⟨kt_X4_evenings, List.forall_mem_cons.mpr ⟨kt_X4_pour, List.forall_mem_cons.mpr ⟨kt_X4_quench, List.forall_mem_cons.mpr ⟨kt_X4_move, List.forall_mem_cons.mpr ⟨kt_X4_turn, List.forall_mem_cons.mpr ⟨kt_X4_undo, List.forall_mem_cons.mpr ⟨kt_X4_player, List.forall_mem_cons.mpr ⟨kt_X4_place, List.forall_mem_cons.mpr ⟨kt_X4_ahead, List.forall_mem_cons.mpr ⟨kt_X4_oil, List.forall_mem_cons.mpr ⟨kt_X4_later, List.forall_mem_cons.mpr ⟨kt_X4_crossing, List.forall_mem_cons.mpr ⟨kt_X4_out, List.forall_mem_cons.mpr ⟨kt_X4_gap, List.forall_mem_cons.mpr ⟨kt_X4_hold, List.forall_mem_cons.mpr ⟨kt_X4_fill, List.forall_mem_cons.mpr ⟨kt_X4_lure, List.forall_mem_cons.mpr ⟨kt_X4_fits, List.forall_mem_cons.mpr ⟨kt_X4_sits, List.forall_mem_cons.mpr ⟨kt_X4_wind, List.forall_mem_cons.mpr ⟨kt_X4_drawn, List.forall_mem_cons.mpr ⟨kt_X4_image, List.forall_mem_cons.mpr ⟨kt_X4_restore, List.forall_mem_cons.mpr ⟨kt_X4_kind, List.forall_mem_cons.mpr ⟨kt_X4_as, List.forall_mem_cons.mpr ⟨kt_X4_ask, List.forall_mem_cons.mpr ⟨kt_X4_trace, List.forall_mem_cons.mpr ⟨kt_X4_count, List.forall_mem_cons.mpr ⟨kt_X4_status, List.forall_mem_cons.mpr ⟨kt_X4_isRow, List.forall_mem_cons.mpr ⟨kt_X4_isWithin, List.forall_mem_cons.mpr ⟨kt_X4_isEither, List.forall_mem_cons.mpr ⟨kt_X4_hasBit, List.forall_mem_cons.mpr ⟨kt_X4_found, List.forall_mem_cons.mpr ⟨kt_X4_foundNothing, List.forall_mem_cons.mpr ⟨kt_X4_rowsThatAre, List.forall_mem_cons.mpr ⟨kt_X4_foretellNow, List.forall_mem_cons.mpr ⟨kt_X4_fewestFilled, List.forall_mem_cons.mpr ⟨kt_X4_fitting, List.forall_mem_cons.mpr ⟨kt_X4_goesAsTold, List.forall_mem_cons.mpr ⟨kt_X4_clapsAsTold, List.forall_mem_cons.mpr ⟨kt_X4_flamesThatMatter, List.forall_mem_cons.mpr ⟨kt_X4_crossedByWind, List.forall_mem_cons.mpr ⟨kt_X4_power, List.forall_mem_cons.mpr ⟨kt_X4_greatestCommon, List.forall_mem_cons.mpr ⟨kt_X4_firstBody, List.forall_mem_cons.mpr ⟨kt_X4_beginBody, List.forall_mem_cons.mpr ⟨kt_X4_leaveTrace, List.forall_mem_cons.mpr ⟨kt_X5_in, List.forall_mem_cons.mpr ⟨kt_X5_has, List.forall_mem_cons.mpr ⟨kt_X5_ones, List.forall_mem_cons.mpr ⟨kt_X5_lesser, List.forall_mem_cons.mpr ⟨kt_X5_found, List.forall_mem_cons.mpr ⟨kt_X5_well, List.forall_mem_cons.mpr ⟨kt_X5_copies, List.forall_mem_cons.mpr ⟨kt_X5_isRow, List.forall_mem_cons.mpr ⟨kt_X5_isMissing, List.forall_mem_cons.mpr ⟨kt_X5_cut, List.forall_mem_cons.mpr ⟨kt_X5_row, List.forall_mem_cons.mpr ⟨kt_X5_set, List.forall_mem_cons.mpr ⟨kt_X5_isPart, List.forall_mem_cons.mpr ⟨kt_X5_copy, List.forall_mem_cons.mpr ⟨kt_X5_drop, List.forall_mem_cons.mpr ⟨kt_X5_feed, List.forall_mem_cons.mpr ⟨kt_X5_byteAt, List.forall_mem_cons.mpr ⟨kt_X5_advances, List.forall_mem_cons.mpr ⟨kt_X5_isWell, List.forall_mem_cons.mpr ⟨kt_X5_takes, List.forall_mem_cons.mpr ⟨kt_X5_figure, List.forall_mem_cons.mpr ⟨kt_X5_kindOf, List.forall_mem_cons.mpr ⟨kt_X5_follows, List.forall_mem_cons.mpr ⟨kt_X5_readsFlame, List.forall_mem_cons.mpr ⟨kt_X5_readsSitter, List.forall_mem_cons.mpr ⟨kt_X5_readsPlayer, List.forall_mem_cons.mpr ⟨kt_X5_must, List.forall_mem_cons.mpr ⟨kt_X5_town, List.forall_mem_cons.mpr ⟨kt_X5_fault, List.forall_mem_cons.mpr ⟨kt_X5_isTown, List.forall_mem_cons.mpr ⟨kt_X5_isPlace, List.forall_mem_cons.mpr ⟨kt_X5_isPlayer, List.forall_mem_cons.mpr ⟨kt_X5_hasCrossed, List.forall_mem_cons.mpr ⟨kt_X5_litOf, List.forall_mem_cons.mpr ⟨kt_X5_nearest, List.forall_mem_cons.mpr ⟨kt_X5_nearer, List.forall_mem_cons.mpr ⟨kt_X5_crosses, List.forall_mem_cons.mpr ⟨kt_X5_goes, List.forall_mem_cons.mpr ⟨kt_X5_clapsAt, List.forall_mem_cons.mpr ⟨kt_X5_passes, List.forall_mem_cons.mpr ⟨kt_X5_crossed, List.forall_mem_cons.mpr ⟨kt_X5_whereIs, List.forall_mem_cons.mpr ⟨kt_X5_notes, List.forall_mem_cons.mpr ⟨kt_X5_evenings, List.forall_mem_cons.mpr ⟨kt_X5_pour, List.forall_mem_cons.mpr ⟨kt_X5_quench, List.forall_mem_cons.mpr ⟨kt_X5_move, List.forall_mem_cons.mpr ⟨kt_X5_turn, List.forall_mem_cons.mpr ⟨kt_X5_undo, List.forall_mem_cons.mpr ⟨kt_X5_player, List.forall_mem_cons.mpr ⟨kt_X5_playersIn, List.forall_mem_cons.mpr ⟨kt_X5_place, List.forall_mem_cons.mpr ⟨kt_X5_goesOn, List.forall_mem_cons.mpr ⟨kt_X5_ahead, List.forall_mem_cons.mpr ⟨kt_X5_oil, List.forall_mem_cons.mpr ⟨kt_X5_later, List.forall_mem_cons.mpr ⟨kt_X5_crossing, List.forall_mem_cons.mpr ⟨kt_X5_out, List.forall_mem_cons.mpr ⟨kt_X5_gap, List.forall_mem_cons.mpr ⟨kt_X5_isNear, List.forall_mem_cons.mpr ⟨kt_X5_hold, List.forall_mem_cons.mpr ⟨kt_X5_fill, List.forall_mem_cons.mpr ⟨kt_X5_lure, List.forall_mem_cons.mpr ⟨kt_X5_isSeen, List.forall_mem_cons.mpr ⟨kt_X5_fits, List.forall_mem_cons.mpr ⟨kt_X5_sits, List.forall_mem_cons.mpr ⟨kt_X5_wind, List.forall_mem_cons.mpr ⟨kt_X5_drawn, List.forall_mem_cons.mpr ⟨kt_X5_image, List.forall_mem_cons.mpr ⟨kt_X5_restore, List.forall_mem_cons.mpr ⟨kt_X5_kindIn, List.forall_mem_cons.mpr ⟨kt_X5_kind, List.forall_mem_cons.mpr ⟨kt_X5_as, List.forall_mem_cons.mpr ⟨kt_X5_begins, List.forall_mem_cons.mpr ⟨kt_X5_farmerMark, List.forall_mem_cons.mpr ⟨kt_X5_cartSize, List.forall_mem_cons.mpr ⟨kt_X5_farmerSize, List.forall_mem_cons.mpr ⟨kt_X5_cartMark, List.forall_mem_cons.mpr ⟨kt_X5_ask, List.forall_mem_cons.mpr ⟨kt_X5_trace, List.forall_mem_cons.mpr ⟨kt_X5_sitters, List.forall_mem_cons.mpr ⟨kt_X5_count, List.forall_mem_cons.mpr ⟨kt_X5_status, List.forall_mem_cons.mpr ⟨kt_J6_bitCount_0f7a4, List.forall_mem_cons.mpr ⟨kt_X4_bodyGives, fun _ h => absurd h List.not_mem_nil⟩⟩⟩⟩⟩⟩⟩⟩⟩⟩⟩⟩⟩⟩⟩⟩⟩⟩⟩⟩⟩⟩⟩⟩⟩⟩⟩⟩⟩⟩⟩⟩⟩⟩⟩⟩⟩⟩⟩⟩⟩⟩⟩⟩⟩⟩⟩⟩⟩⟩⟩⟩⟩⟩⟩⟩⟩⟩⟩⟩⟩⟩⟩⟩⟩⟩⟩⟩⟩⟩⟩⟩⟩⟩⟩⟩⟩⟩⟩⟩⟩⟩⟩⟩⟩⟩⟩⟩⟩⟩⟩⟩⟩⟩⟩⟩⟩⟩⟩⟩⟩⟩⟩⟩⟩⟩⟩⟩⟩⟩⟩⟩⟩⟩⟩⟩⟩⟩⟩⟩⟩⟩⟩⟩⟩⟩⟩⟩⟩⟩⟩⟩⟩⟩⟩⟩⟩⟩⟩⟩⟩⟩⟩⟩⟩⟩⟩⟩⟩⟩⟩⟩⟩⟩⟩⟩⟩⟩⟩⟩⟩⟩⟩⟩⟩⟩⟩⟩⟩⟩⟩⟩⟩⟩⟩⟩⟩⟩⟩⟩⟩⟩⟩⟩⟩⟩⟩⟩⟩⟩⟩⟩⟩⟩
