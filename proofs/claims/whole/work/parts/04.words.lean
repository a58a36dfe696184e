/-! the tables against the class files: by the kernel -/
def clsT (c : Nat) : u_T := match c with
  | 0 => TX0
  | 1 => TX1
  | 2 => TX2
  | 3 => TX3
  | 4 => TX4
  | _ => TX5
def clsN (c : Nat) : Nat := match c with
  | 0 => 3
  | 1 => 3
  | 2 => 5
  | 3 => 12
  | 4 => 9
  | _ => 24
def nthM : List MR → Nat → MR
  | [], _ => (⟨"", "", ""⟩, ⟨#[]⟩, 0, none, 0, 0, 0, 0, fun _ => nopE)
  | a :: _, 0 => a
  | _ :: l, n + 1 => nthM l n
def mrO (y : Nat) : MR := nthM MRs y
def nmO (y : Nat) : MethodName := (mrO y).1
def byO (y : Nat) : ByteArray := (mrO y).2.1
def mlO (y : Nat) : Nat := (mrO y).2.2.1
def reO (y : Nat) : Option FieldType := (mrO y).2.2.2.1
def owO (y : Nat) : Nat := (mrO y).2.2.2.2.1
def rtO (y : Nat) : Nat := (mrO y).2.2.2.2.2.1
def naO (y : Nat) : Nat := (mrO y).2.2.2.2.2.2.1
def tbO (y : Nat) : Nat → Ent := gtE (mrO y).2.2.2.2.2.2.2.1 (mrO y).2.2.2.2.2.2.2.2
def flW (q : Nat × Nat × Nat × Nat) : Cond := .fieldLink (ownS q.1) q.2.1 (ownS q.2.2.1) (clsT q.2.2.1 q.2.2.2).2.1 (clsT q.2.2.1 q.2.2.2).2.2.1
/-- one pass: the words of the first list stand in the second, in its order -/
def isSub : List Cond → List Cond → Bool
  | [], _ => true
  | _ :: _, [] => false
  | a :: as, b :: bs => bif decide (a = b) then isSub as bs else isSub (a :: as) bs
theorem isSub_mem : ∀ (big ws : List Cond), isSub ws big = true → ∀ w ∈ ws, w ∈ big
  | _, [], _, w, h => absurd h List.not_mem_nil
  | [], _ :: _, h, _, _ => by simp [isSub] at h
  | b :: bs, a :: as, h, w, hw => by
    unfold isSub at h
    by_cases e : a = b
    · simp only [e, decide_true, cond_true] at h
      rcases List.mem_cons.mp hw with q | q
      · rw [q, e]; exact List.mem_cons_self
      · exact List.mem_cons_of_mem _ (isSub_mem bs as h w q)
    · simp only [e, decide_false, cond_false] at h
      exact List.mem_cons_of_mem _ (isSub_mem bs (a :: as) h w hw)
def oCode : List Nat := [54, 90, 94, 4, 95, 55, 3, 6, 7, 56, 57, 5, 58, 8, 9, 59, 11, 28, 12, 20, 19, 23, 21, 22, 13, 14, 15, 16, 17, 18, 30, 10, 29, 2, 60, 61, 24, 0, 42, 38, 27, 44, 45, 93, 50, 46, 47, 49, 25, 34, 48, 51, 39, 52, 53, 62, 31, 63, 64, 26, 65, 66, 1, 67, 35, 68, 36, 69, 91, 97, 40, 70, 71, 92, 72, 73, 74, 75, 41, 76, 98, 32, 192, 77, 33, 78, 99, 100, 79, 101, 80, 102, 104, 103, 105, 81, 43, 82, 83, 84, 85, 86, 106, 107, 108, 193, 87, 88, 96, 37, 89, 119, 116, 109, 113, 114, 120, 117, 118, 122, 121, 123, 124, 136, 126, 125, 128, 127, 129, 132, 135, 133, 130, 134, 131, 115, 137, 152, 138, 151, 148, 142, 146, 144, 143, 110, 145, 147, 112, 153, 139, 154, 155, 140, 141, 156, 157, 158, 150, 160, 159, 162, 161, 163, 164, 165, 166, 167, 169, 168, 170, 111, 171, 149, 173, 172, 174, 175, 176, 177, 178, 180, 179, 181, 187, 184, 182, 185, 183, 186, 188, 190, 189, 191]
def oInst : List Nat := [54, 94, 4, 95, 55, 3, 6, 7, 56, 57, 5, 58, 8, 9, 59, 11, 28, 12, 20, 19, 23, 21, 13, 14, 15, 16, 17, 30, 10, 29, 2, 60, 61, 24, 0, 42, 38, 27, 44, 45, 46, 47, 49, 25, 34, 48, 51, 39, 52, 53, 62, 31, 63, 64, 26, 65, 66, 1, 67, 35, 68, 36, 69, 97, 40, 70, 71, 72, 73, 74, 75, 41, 76, 98, 32, 77, 33, 78, 99, 100, 79, 101, 80, 102, 103, 81, 43, 82, 83, 84, 85, 86, 106, 107, 108, 193, 87, 88, 96, 37, 89, 119, 113, 114, 120, 117, 122, 121, 123, 124, 136, 126, 125, 128, 127, 129, 132, 135, 133, 134, 131, 137, 152, 138, 151, 148, 153, 139, 154, 155, 140, 141, 156, 157, 158, 160, 159, 162, 161, 163, 164, 165, 166, 167, 169, 170, 171, 173, 172, 174, 175, 176, 177, 178, 180, 179, 181, 187, 184, 182, 185, 183, 186, 188, 190, 189, 191]
def oStat : List Nat := [90, 22, 18, 93, 50, 91, 92, 192, 104, 105, 116, 109, 118, 130, 115, 142, 146, 144, 143, 110, 145, 147, 112, 150, 168, 111, 149]
def oSel : List Nat := [94, 95, 12, 20, 19, 23, 21, 13, 14, 15, 16, 17, 44, 45, 46, 47, 49, 48, 51, 52, 53, 97, 98, 99, 100, 101, 102, 103, 106, 107, 108, 193, 96, 113, 114, 117, 121, 126, 125, 128, 127, 129, 132, 135, 133, 134, 131, 138, 151, 148, 139, 140, 141, 159, 161, 172, 179, 184, 182, 185, 183, 186, 189, 54, 4, 55, 3, 6, 7, 56, 57, 5, 58, 8, 9, 59, 11, 28, 30, 10, 29, 2, 60, 61, 24, 0, 42, 38, 27, 25, 34, 39, 62, 31, 63, 64, 26, 65, 66, 1, 67, 35, 68, 36, 69, 40, 70, 71, 72, 73, 74, 75, 41, 76, 32, 77, 33, 78, 79, 80, 81, 43, 82, 83, 84, 85, 86, 87, 88, 37, 89, 119, 120, 122, 123, 124, 136, 137, 152, 153, 154, 155, 156, 157, 158, 160, 162, 163, 164, 165, 166, 167, 169, 170, 171, 173, 174, 175, 176, 177, 178, 180, 181, 187, 188, 190, 191]

def mlW (q : Nat × Nat × Nat × Nat) : Cond := match q.2.2.2 with
  | 2 => .methodLinkNest (ownS q.1) q.2.1 (nmO q.2.2.1) RX4
  | 3 => .methodLink (ownS q.1) q.2.1 arraycopyName
  | 4 => .methodLink (ownS q.1) q.2.1 Lib.Math.min.name
  | 5 => .methodLink (ownS q.1) q.2.1 Lib.Math.max.name
  | _ => .methodLink (ownS q.1) q.2.1 (nmO q.2.2.1)
def coW (y : Nat) : Cond := .code (nmO y) (byO y) (mlO y) (reO y)
theorem sub_fl : isSub (FLs.map flW) lw_tbl = true := by decide +kernel
theorem fl_ok : FLs.all (fun q => Nat.blt q.2.2.1 6 && (Nat.blt q.2.2.2 (clsN q.2.2.1) && decide ((clsT q.2.2.1 q.2.2.2).1 = ownS q.2.2.1))) = true := by decide +kernel
theorem sub_cl : isSub (CLs.map (fun q => Cond.constant (ownS q.1) q.2.1 q.2.2)) lw_tbl = true := by decide +kernel
theorem sub_cj : isSub (CJs.map (fun q => Cond.constantLong (ownS q.1) q.2.1 q.2.2.toInt64)) lw_tbl = true := by decide +kernel
theorem sub_sl : isSub (SLs.map (fun q => Cond.fieldLink (ownS q.1) q.2.1 RX4 (sName q.2.2) "[I")) lw_tbl = true := by decide +kernel
theorem sub_ml : isSub (MLs.map mlW) lw_tbl = true := by decide +kernel
theorem tm_1 {w : Cond} (h : w ∈ tables_1_1) : w ∈ lw_tbl := List.mem_append_right _ (List.mem_append_left _ h)
theorem tm_2 {w : Cond} (h : w ∈ tables_1_2) : w ∈ lw_tbl := List.mem_append_right _ (List.mem_append_right _ (List.mem_append_left _ h))
theorem tm_3 {w : Cond} (h : w ∈ tables_1_3) : w ∈ lw_tbl := List.mem_append_right _ (List.mem_append_right _ (List.mem_append_right _ (List.mem_append_left _ h)))
theorem tm_4 {w : Cond} (h : w ∈ tables_1_4) : w ∈ lw_tbl := List.mem_append_right _ (List.mem_append_right _ (List.mem_append_right _ (List.mem_append_right _ (List.mem_append_left _ h))))
theorem tm_5 {w : Cond} (h : w ∈ tables_1_5) : w ∈ lw_tbl := List.mem_append_right _ (List.mem_append_right _ (List.mem_append_right _ (List.mem_append_right _ (List.mem_append_right _ h))))
theorem sub_inst : isSub (oInst.map (fun y => Cond.instanceMethod (nmO y))) lw_tbl = true := by decide +kernel
theorem sub_stat : isSub (oStat.map (fun y => Cond.static (nmO y))) lw_tbl = true := by decide +kernel
theorem sub_sel : isSub (oSel.map (fun y => Cond.selects (nmO y).cls (nmO y) (nmO y))) lw_tbl = true := by decide +kernel
theorem sub_ini : isSub ([RL, RX4, RX1, RX2, RX3, RX0, RX5, "java/lang/System", RJ9, RJ6].map (fun c => Cond.initialized c)) lw_tbl = true := by decide +kernel
theorem sub_ac : isSub [Cond.native arraycopyName] lw_tbl = true := by decide +kernel
theorem sub_mi : isSub [Cond.static Lib.Math.min.name, Cond.code Lib.Math.min.name Lib.Math.min.code 2 (some .int)] lw_tbl = true := by decide +kernel
theorem sub_ma : isSub [Cond.static Lib.Math.max.name, Cond.code Lib.Math.max.name Lib.Math.max.code 2 (some .int)] lw_tbl = true := by decide +kernel
theorem sub_as : isSub [Cond.static arraycopyName] lw_tbl = true := by decide +kernel
theorem co_X0_keep : coW 0 ∈ lw_tbl := tm_2 (List.mem_of_getElem? (i := 88) rfl)
theorem co_X0_takeBack : coW 1 ∈ lw_tbl := tm_2 (List.mem_of_getElem? (i := 199) rfl)
theorem co_X0_forget : coW 2 ∈ lw_tbl := tm_2 (List.mem_of_getElem? (i := 71) rfl)
theorem co_X1_isMissing : coW 3 ∈ lw_tbl := tm_1 (List.mem_of_getElem? (i := 199) rfl)
theorem co_X1_begin : coW 4 ∈ lw_tbl := tm_1 (List.mem_of_getElem? (i := 187) rfl)
theorem co_X1_end : coW 5 ∈ lw_tbl := tm_1 (List.mem_of_getElem? (i := 222) rfl)
theorem co_X1_hasItems : coW 6 ∈ lw_tbl := tm_1 (List.mem_of_getElem? (i := 203) rfl)
theorem co_X1_narrowed : coW 7 ∈ lw_tbl := tm_1 (List.mem_of_getElem? (i := 207) rfl)
theorem co_X2_isFull : coW 8 ∈ lw_tbl := tm_1 (List.mem_of_getElem? (i := 230) rfl)
theorem co_X2_add : coW 9 ∈ lw_tbl := tm_1 (List.mem_of_getElem? (i := 235) rfl)
theorem co_X2_clear : coW 10 ∈ lw_tbl := tm_2 (List.mem_of_getElem? (i := 61) rfl)
theorem co_X2_readInto : coW 11 ∈ lw_tbl := tm_2 (List.mem_of_getElem? (i := 3) rfl)
theorem co_X2_readLaw : coW 12 ∈ lw_tbl := tm_2 (List.mem_of_getElem? (i := 11) rfl)
theorem co_X2_readFlames : coW 13 ∈ lw_tbl := tm_2 (List.mem_of_getElem? (i := 34) rfl)
theorem co_X2_readFlame : coW 14 ∈ lw_tbl := tm_2 (List.mem_of_getElem? (i := 38) rfl)
theorem co_X2_readSitters : coW 15 ∈ lw_tbl := tm_2 (List.mem_of_getElem? (i := 42) rfl)
theorem co_X2_readPlayers : coW 16 ∈ lw_tbl := tm_2 (List.mem_of_getElem? (i := 46) rfl)
theorem co_X2_readPlayer : coW 17 ∈ lw_tbl := tm_2 (List.mem_of_getElem? (i := 50) rfl)
theorem co_X2_sortOf : coW 18 ∈ lw_tbl := tm_2 (List.mem_of_getElem? (i := 53) rfl)
theorem co_X2_isNext : coW 19 ∈ lw_tbl := tm_2 (List.mem_of_getElem? (i := 19) rfl)
theorem co_X2_passes : coW 20 ∈ lw_tbl := tm_2 (List.mem_of_getElem? (i := 15) rfl)
theorem co_X2_readNumber : coW 21 ∈ lw_tbl := tm_2 (List.mem_of_getElem? (i := 27) rfl)
theorem co_X2_isFigure : coW 22 ∈ lw_tbl := tm_2 (List.mem_of_getElem? (i := 30) rfl)
theorem co_X2_faultHere : coW 23 ∈ lw_tbl := tm_2 (List.mem_of_getElem? (i := 23) rfl)
theorem co_X3_stands : coW 24 ∈ lw_tbl := tm_2 (List.mem_of_getElem? (i := 83) rfl)
theorem co_X3_hasPlace : coW 25 ∈ lw_tbl := tm_2 (List.mem_of_getElem? (i := 134) rfl)
theorem co_X3_hasPlayer : coW 26 ∈ lw_tbl := tm_2 (List.mem_of_getElem? (i := 185) rfl)
theorem co_X3_hasCrossed : coW 27 ∈ lw_tbl := tm_2 (List.mem_of_getElem? (i := 104) rfl)
theorem co_X3_clear : coW 28 ∈ lw_tbl := tm_2 (List.mem_of_getElem? (i := 7) rfl)
theorem co_X3_become : coW 29 ∈ lw_tbl := tm_2 (List.mem_of_getElem? (i := 66) rfl)
theorem co_X3_addPlayer : coW 30 ∈ lw_tbl := tm_2 (List.mem_of_getElem? (i := 57) rfl)
theorem co_X3_addOil : coW 31 ∈ lw_tbl := tm_2 (List.mem_of_getElem? (i := 173) rfl)
theorem co_X3_fillUp : coW 32 ∈ lw_tbl := tm_3 (List.mem_of_getElem? (i := 38) rfl)
theorem co_X3_putOut : coW 33 ∈ lw_tbl := tm_3 (List.mem_of_getElem? (i := 52) rfl)
theorem co_X3_turnRound : coW 34 ∈ lw_tbl := tm_2 (List.mem_of_getElem? (i := 138) rfl)
theorem co_X3_placeOf : coW 35 ∈ lw_tbl := tm_2 (List.mem_of_getElem? (i := 207) rfl)
theorem co_X3_playersAt : coW 36 ∈ lw_tbl := tm_2 (List.mem_of_getElem? (i := 217) rfl)
theorem co_X3_sittersInAll : coW 37 ∈ lw_tbl := tm_3 (List.mem_of_getElem? (i := 162) rfl)
theorem co_X3_litPlaces : coW 38 ∈ lw_tbl := tm_2 (List.mem_of_getElem? (i := 100) rfl)
theorem co_X3_clapsFor : coW 39 ∈ lw_tbl := tm_2 (List.mem_of_getElem? (i := 150) rfl)
theorem co_X3_passEvenings : coW 40 ∈ lw_tbl := tm_2 (List.mem_of_getElem? (i := 233) rfl)
theorem co_X3_letsCross : coW 41 ∈ lw_tbl := tm_3 (List.mem_of_getElem? (i := 26) rfl)
theorem co_X3_passEvening : coW 42 ∈ lw_tbl := tm_2 (List.mem_of_getElem? (i := 96) rfl)
theorem co_X3_takeDraw : coW 43 ∈ lw_tbl := tm_3 (List.mem_of_getElem? (i := 102) rfl)
theorem co_X3_letGo : coW 44 ∈ lw_tbl := tm_2 (List.mem_of_getElem? (i := 108) rfl)
theorem co_X3_goAsFarmer : coW 45 ∈ lw_tbl := tm_2 (List.mem_of_getElem? (i := 112) rfl)
theorem co_X3_goAsLad : coW 46 ∈ lw_tbl := tm_2 (List.mem_of_getElem? (i := 122) rfl)
theorem co_X3_goAsChild : coW 47 ∈ lw_tbl := tm_2 (List.mem_of_getElem? (i := 126) rfl)
theorem co_X3_goAsCart : coW 48 ∈ lw_tbl := tm_2 (List.mem_of_getElem? (i := 142) rfl)
theorem co_X3_nextByWay : coW 49 ∈ lw_tbl := tm_2 (List.mem_of_getElem? (i := 130) rfl)
theorem co_X3_stepTowards : coW 50 ∈ lw_tbl := tm_2 (List.mem_of_getElem? (i := 118) rfl)
theorem co_X3_clap : coW 51 ∈ lw_tbl := tm_2 (List.mem_of_getElem? (i := 146) rfl)
theorem co_X3_seat : coW 52 ∈ lw_tbl := tm_2 (List.mem_of_getElem? (i := 156) rfl)
theorem co_X3_burnDown : coW 53 ∈ lw_tbl := tm_2 (List.mem_of_getElem? (i := 160) rfl)
theorem co_X4_row : coW 54 ∈ lw_tbl := tm_1 (List.mem_of_getElem? (i := 174) rfl)
theorem co_X4_set : coW 55 ∈ lw_tbl := tm_1 (List.mem_of_getElem? (i := 195) rfl)
theorem co_X4_copy : coW 56 ∈ lw_tbl := tm_1 (List.mem_of_getElem? (i := 211) rfl)
theorem co_X4_drop : coW 57 ∈ lw_tbl := tm_1 (List.mem_of_getElem? (i := 218) rfl)
theorem co_X4_feed : coW 58 ∈ lw_tbl := tm_1 (List.mem_of_getElem? (i := 226) rfl)
theorem co_X4_town : coW 59 ∈ lw_tbl := tm_1 (List.mem_of_getElem? (i := 239) rfl)
theorem co_X4_fault : coW 60 ∈ lw_tbl := tm_2 (List.mem_of_getElem? (i := 75) rfl)
theorem co_X4_evenings : coW 61 ∈ lw_tbl := tm_2 (List.mem_of_getElem? (i := 79) rfl)
theorem co_X4_pour : coW 62 ∈ lw_tbl := tm_2 (List.mem_of_getElem? (i := 168) rfl)
theorem co_X4_quench : coW 63 ∈ lw_tbl := tm_2 (List.mem_of_getElem? (i := 177) rfl)
theorem co_X4_move : coW 64 ∈ lw_tbl := tm_2 (List.mem_of_getElem? (i := 181) rfl)
theorem co_X4_turn : coW 65 ∈ lw_tbl := tm_2 (List.mem_of_getElem? (i := 190) rfl)
theorem co_X4_undo : coW 66 ∈ lw_tbl := tm_2 (List.mem_of_getElem? (i := 195) rfl)
theorem co_X4_player : coW 67 ∈ lw_tbl := tm_2 (List.mem_of_getElem? (i := 203) rfl)
theorem co_X4_place : coW 68 ∈ lw_tbl := tm_2 (List.mem_of_getElem? (i := 213) rfl)
theorem co_X4_ahead : coW 69 ∈ lw_tbl := tm_2 (List.mem_of_getElem? (i := 222) rfl)
theorem co_X4_oil : coW 70 ∈ lw_tbl := tm_2 (List.mem_of_getElem? (i := 238) rfl)
theorem co_X4_later : coW 71 ∈ lw_tbl := tm_3 (List.mem_of_getElem? (i := 2) rfl)
theorem co_X4_crossing : coW 72 ∈ lw_tbl := tm_3 (List.mem_of_getElem? (i := 9) rfl)
theorem co_X4_out : coW 73 ∈ lw_tbl := tm_3 (List.mem_of_getElem? (i := 14) rfl)
theorem co_X4_gap : coW 74 ∈ lw_tbl := tm_3 (List.mem_of_getElem? (i := 18) rfl)
theorem co_X4_hold : coW 75 ∈ lw_tbl := tm_3 (List.mem_of_getElem? (i := 22) rfl)
theorem co_X4_fill : coW 76 ∈ lw_tbl := tm_3 (List.mem_of_getElem? (i := 30) rfl)
theorem co_X4_lure : coW 77 ∈ lw_tbl := tm_3 (List.mem_of_getElem? (i := 48) rfl)
theorem co_X4_fits : coW 78 ∈ lw_tbl := tm_3 (List.mem_of_getElem? (i := 56) rfl)
theorem co_X4_sits : coW 79 ∈ lw_tbl := tm_3 (List.mem_of_getElem? (i := 68) rfl)
theorem co_X4_wind : coW 80 ∈ lw_tbl := tm_3 (List.mem_of_getElem? (i := 76) rfl)
theorem co_X4_drawn : coW 81 ∈ lw_tbl := tm_3 (List.mem_of_getElem? (i := 95) rfl)
theorem co_X4_image : coW 82 ∈ lw_tbl := tm_3 (List.mem_of_getElem? (i := 107) rfl)
theorem co_X4_restore : coW 83 ∈ lw_tbl := tm_3 (List.mem_of_getElem? (i := 111) rfl)
theorem co_X4_kind : coW 84 ∈ lw_tbl := tm_3 (List.mem_of_getElem? (i := 115) rfl)
theorem co_X4_as : coW 85 ∈ lw_tbl := tm_3 (List.mem_of_getElem? (i := 119) rfl)
theorem co_X4_ask : coW 86 ∈ lw_tbl := tm_3 (List.mem_of_getElem? (i := 126) rfl)
theorem co_X4_trace : coW 87 ∈ lw_tbl := tm_3 (List.mem_of_getElem? (i := 150) rfl)
theorem co_X4_count : coW 88 ∈ lw_tbl := tm_3 (List.mem_of_getElem? (i := 154) rfl)
theorem co_X4_status : coW 89 ∈ lw_tbl := tm_3 (List.mem_of_getElem? (i := 166) rfl)
theorem co_X4_isRow : coW 90 ∈ lw_tbl := tm_1 (List.mem_of_getElem? (i := 177) rfl)
theorem co_X4_isWithin : coW 91 ∈ lw_tbl := tm_2 (List.mem_of_getElem? (i := 225) rfl)
theorem co_X4_isEither : coW 92 ∈ lw_tbl := tm_3 (List.mem_of_getElem? (i := 5) rfl)
theorem co_X4_hasBit : coW 93 ∈ lw_tbl := tm_2 (List.mem_of_getElem? (i := 115) rfl)
theorem co_X4_found : coW 94 ∈ lw_tbl := tm_1 (List.mem_of_getElem? (i := 182) rfl)
theorem co_X4_foundNothing : coW 95 ∈ lw_tbl := tm_1 (List.mem_of_getElem? (i := 191) rfl)
theorem co_X4_rowsThatAre : coW 96 ∈ lw_tbl := tm_3 (List.mem_of_getElem? (i := 158) rfl)
theorem co_X4_foretellNow : coW 97 ∈ lw_tbl := tm_2 (List.mem_of_getElem? (i := 229) rfl)
theorem co_X4_fewestFilled : coW 98 ∈ lw_tbl := tm_3 (List.mem_of_getElem? (i := 34) rfl)
theorem co_X4_fitting : coW 99 ∈ lw_tbl := tm_3 (List.mem_of_getElem? (i := 60) rfl)
theorem co_X4_goesAsTold : coW 100 ∈ lw_tbl := tm_3 (List.mem_of_getElem? (i := 64) rfl)
theorem co_X4_clapsAsTold : coW 101 ∈ lw_tbl := tm_3 (List.mem_of_getElem? (i := 72) rfl)
theorem co_X4_flamesThatMatter : coW 102 ∈ lw_tbl := tm_3 (List.mem_of_getElem? (i := 80) rfl)
theorem co_X4_crossedByWind : coW 103 ∈ lw_tbl := tm_3 (List.mem_of_getElem? (i := 87) rfl)
theorem co_X4_power : coW 104 ∈ lw_tbl := tm_3 (List.mem_of_getElem? (i := 83) rfl)
theorem co_X4_greatestCommon : coW 105 ∈ lw_tbl := tm_3 (List.mem_of_getElem? (i := 90) rfl)
theorem co_X4_firstBody : coW 106 ∈ lw_tbl := tm_3 (List.mem_of_getElem? (i := 130) rfl)
theorem co_X4_beginBody : coW 107 ∈ lw_tbl := tm_3 (List.mem_of_getElem? (i := 138) rfl)
theorem co_X4_leaveTrace : coW 108 ∈ lw_tbl := tm_3 (List.mem_of_getElem? (i := 142) rfl)
theorem co_X5_in : coW 109 ∈ lw_tbl := tm_4 (List.mem_of_getElem? (i := 17) rfl)
theorem co_X5_has : coW 110 ∈ lw_tbl := tm_4 (List.mem_of_getElem? (i := 142) rfl)
theorem co_X5_ones : coW 111 ∈ lw_tbl := tm_5 (List.mem_of_getElem? (i := 1) rfl)
theorem co_X5_lesser : coW 112 ∈ lw_tbl := tm_4 (List.mem_of_getElem? (i := 152) rfl)
theorem co_X5_found : coW 113 ∈ lw_tbl := tm_4 (List.mem_of_getElem? (i := 22) rfl)
theorem co_X5_well : coW 114 ∈ lw_tbl := tm_4 (List.mem_of_getElem? (i := 27) rfl)
theorem co_X5_copies : coW 115 ∈ lw_tbl := tm_4 (List.mem_of_getElem? (i := 106) rfl)
theorem co_X5_isRow : coW 116 ∈ lw_tbl := tm_4 (List.mem_of_getElem? (i := 14) rfl)
theorem co_X5_isMissing : coW 117 ∈ lw_tbl := tm_4 (List.mem_of_getElem? (i := 35) rfl)
theorem co_X5_cut : coW 118 ∈ lw_tbl := tm_4 (List.mem_of_getElem? (i := 38) rfl)
theorem co_X5_row : coW 119 ∈ lw_tbl := tm_4 (List.mem_of_getElem? (i := 11) rfl)
theorem co_X5_set : coW 120 ∈ lw_tbl := tm_4 (List.mem_of_getElem? (i := 31) rfl)
theorem co_X5_isPart : coW 121 ∈ lw_tbl := tm_4 (List.mem_of_getElem? (i := 46) rfl)
theorem co_X5_copy : coW 122 ∈ lw_tbl := tm_4 (List.mem_of_getElem? (i := 42) rfl)
theorem co_X5_drop : coW 123 ∈ lw_tbl := tm_4 (List.mem_of_getElem? (i := 50) rfl)
theorem co_X5_feed : coW 124 ∈ lw_tbl := tm_4 (List.mem_of_getElem? (i := 54) rfl)
theorem co_X5_byteAt : coW 125 ∈ lw_tbl := tm_4 (List.mem_of_getElem? (i := 67) rfl)
theorem co_X5_advances : coW 126 ∈ lw_tbl := tm_4 (List.mem_of_getElem? (i := 63) rfl)
theorem co_X5_isWell : coW 127 ∈ lw_tbl := tm_4 (List.mem_of_getElem? (i := 75) rfl)
theorem co_X5_takes : coW 128 ∈ lw_tbl := tm_4 (List.mem_of_getElem? (i := 71) rfl)
theorem co_X5_figure : coW 129 ∈ lw_tbl := tm_4 (List.mem_of_getElem? (i := 79) rfl)
theorem co_X5_kindOf : coW 130 ∈ lw_tbl := tm_4 (List.mem_of_getElem? (i := 94) rfl)
theorem co_X5_follows : coW 131 ∈ lw_tbl := tm_4 (List.mem_of_getElem? (i := 102) rfl)
theorem co_X5_readsFlame : coW 132 ∈ lw_tbl := tm_4 (List.mem_of_getElem? (i := 83) rfl)
theorem co_X5_readsSitter : coW 133 ∈ lw_tbl := tm_4 (List.mem_of_getElem? (i := 91) rfl)
theorem co_X5_readsPlayer : coW 134 ∈ lw_tbl := tm_4 (List.mem_of_getElem? (i := 98) rfl)
theorem co_X5_must : coW 135 ∈ lw_tbl := tm_4 (List.mem_of_getElem? (i := 87) rfl)
theorem co_X5_town : coW 136 ∈ lw_tbl := tm_4 (List.mem_of_getElem? (i := 59) rfl)
theorem co_X5_fault : coW 137 ∈ lw_tbl := tm_4 (List.mem_of_getElem? (i := 110) rfl)
theorem co_X5_isTown : coW 138 ∈ lw_tbl := tm_4 (List.mem_of_getElem? (i := 118) rfl)
theorem co_X5_isPlace : coW 139 ∈ lw_tbl := tm_4 (List.mem_of_getElem? (i := 160) rfl)
theorem co_X5_isPlayer : coW 140 ∈ lw_tbl := tm_4 (List.mem_of_getElem? (i := 172) rfl)
theorem co_X5_hasCrossed : coW 141 ∈ lw_tbl := tm_4 (List.mem_of_getElem? (i := 176) rfl)
theorem co_X5_litOf : coW 142 ∈ lw_tbl := tm_4 (List.mem_of_getElem? (i := 130) rfl)
theorem co_X5_nearest : coW 143 ∈ lw_tbl := tm_4 (List.mem_of_getElem? (i := 139) rfl)
theorem co_X5_nearer : coW 144 ∈ lw_tbl := tm_4 (List.mem_of_getElem? (i := 136) rfl)
theorem co_X5_crosses : coW 145 ∈ lw_tbl := tm_4 (List.mem_of_getElem? (i := 145) rfl)
theorem co_X5_goes : coW 146 ∈ lw_tbl := tm_4 (List.mem_of_getElem? (i := 133) rfl)
theorem co_X5_clapsAt : coW 147 ∈ lw_tbl := tm_4 (List.mem_of_getElem? (i := 148) rfl)
theorem co_X5_passes : coW 148 ∈ lw_tbl := tm_4 (List.mem_of_getElem? (i := 127) rfl)
theorem co_X5_crossed : coW 149 ∈ lw_tbl := tm_5 (List.mem_of_getElem? (i := 8) rfl)
theorem co_X5_whereIs : coW 150 ∈ lw_tbl := tm_4 (List.mem_of_getElem? (i := 191) rfl)
theorem co_X5_notes : coW 151 ∈ lw_tbl := tm_4 (List.mem_of_getElem? (i := 123) rfl)
theorem co_X5_evenings : coW 152 ∈ lw_tbl := tm_4 (List.mem_of_getElem? (i := 114) rfl)
theorem co_X5_pour : coW 153 ∈ lw_tbl := tm_4 (List.mem_of_getElem? (i := 156) rfl)
theorem co_X5_quench : coW 154 ∈ lw_tbl := tm_4 (List.mem_of_getElem? (i := 164) rfl)
theorem co_X5_move : coW 155 ∈ lw_tbl := tm_4 (List.mem_of_getElem? (i := 168) rfl)
theorem co_X5_turn : coW 156 ∈ lw_tbl := tm_4 (List.mem_of_getElem? (i := 180) rfl)
theorem co_X5_undo : coW 157 ∈ lw_tbl := tm_4 (List.mem_of_getElem? (i := 184) rfl)
theorem co_X5_player : coW 158 ∈ lw_tbl := tm_4 (List.mem_of_getElem? (i := 188) rfl)
theorem co_X5_playersIn : coW 159 ∈ lw_tbl := tm_4 (List.mem_of_getElem? (i := 199) rfl)
theorem co_X5_place : coW 160 ∈ lw_tbl := tm_4 (List.mem_of_getElem? (i := 195) rfl)
theorem co_X5_goesOn : coW 161 ∈ lw_tbl := tm_4 (List.mem_of_getElem? (i := 207) rfl)
theorem co_X5_ahead : coW 162 ∈ lw_tbl := tm_4 (List.mem_of_getElem? (i := 203) rfl)
theorem co_X5_oil : coW 163 ∈ lw_tbl := tm_4 (List.mem_of_getElem? (i := 211) rfl)
theorem co_X5_later : coW 164 ∈ lw_tbl := tm_4 (List.mem_of_getElem? (i := 215) rfl)
theorem co_X5_crossing : coW 165 ∈ lw_tbl := tm_4 (List.mem_of_getElem? (i := 219) rfl)
theorem co_X5_out : coW 166 ∈ lw_tbl := tm_4 (List.mem_of_getElem? (i := 223) rfl)
theorem co_X5_gap : coW 167 ∈ lw_tbl := tm_4 (List.mem_of_getElem? (i := 227) rfl)
theorem co_X5_isNear : coW 168 ∈ lw_tbl := tm_4 (List.mem_of_getElem? (i := 234) rfl)
theorem co_X5_hold : coW 169 ∈ lw_tbl := tm_4 (List.mem_of_getElem? (i := 231) rfl)
theorem co_X5_fill : coW 170 ∈ lw_tbl := tm_4 (List.mem_of_getElem? (i := 238) rfl)
theorem co_X5_lure : coW 171 ∈ lw_tbl := tm_5 (List.mem_of_getElem? (i := 5) rfl)
theorem co_X5_isSeen : coW 172 ∈ lw_tbl := tm_5 (List.mem_of_getElem? (i := 16) rfl)
theorem co_X5_fits : coW 173 ∈ lw_tbl := tm_5 (List.mem_of_getElem? (i := 12) rfl)
theorem co_X5_sits : coW 174 ∈ lw_tbl := tm_5 (List.mem_of_getElem? (i := 20) rfl)
theorem co_X5_wind : coW 175 ∈ lw_tbl := tm_5 (List.mem_of_getElem? (i := 24) rfl)
theorem co_X5_drawn : coW 176 ∈ lw_tbl := tm_5 (List.mem_of_getElem? (i := 28) rfl)
theorem co_X5_image : coW 177 ∈ lw_tbl := tm_5 (List.mem_of_getElem? (i := 36) rfl)
theorem co_X5_restore : coW 178 ∈ lw_tbl := tm_5 (List.mem_of_getElem? (i := 40) rfl)
theorem co_X5_kindIn : coW 179 ∈ lw_tbl := tm_5 (List.mem_of_getElem? (i := 48) rfl)
theorem co_X5_kind : coW 180 ∈ lw_tbl := tm_5 (List.mem_of_getElem? (i := 44) rfl)
theorem co_X5_as : coW 181 ∈ lw_tbl := tm_5 (List.mem_of_getElem? (i := 52) rfl)
theorem co_X5_begins : coW 182 ∈ lw_tbl := tm_5 (List.mem_of_getElem? (i := 64) rfl)
theorem co_X5_farmerMark : coW 183 ∈ lw_tbl := tm_5 (List.mem_of_getElem? (i := 72) rfl)
theorem co_X5_cartSize : coW 184 ∈ lw_tbl := tm_5 (List.mem_of_getElem? (i := 60) rfl)
theorem co_X5_farmerSize : coW 185 ∈ lw_tbl := tm_5 (List.mem_of_getElem? (i := 68) rfl)
theorem co_X5_cartMark : coW 186 ∈ lw_tbl := tm_5 (List.mem_of_getElem? (i := 76) rfl)
theorem co_X5_ask : coW 187 ∈ lw_tbl := tm_5 (List.mem_of_getElem? (i := 56) rfl)
theorem co_X5_trace : coW 188 ∈ lw_tbl := tm_5 (List.mem_of_getElem? (i := 80) rfl)
theorem co_X5_sitters : coW 189 ∈ lw_tbl := tm_5 (List.mem_of_getElem? (i := 88) rfl)
theorem co_X5_count : coW 190 ∈ lw_tbl := tm_5 (List.mem_of_getElem? (i := 84) rfl)
theorem co_X5_status : coW 191 ∈ lw_tbl := tm_5 (List.mem_of_getElem? (i := 92) rfl)
theorem co_J6_bitCount_0f7a4 : coW 192 ∈ lw_tbl := tm_3 (List.mem_of_getElem? (i := 41) rfl)
theorem co_X4_bodyGives : coW 193 ∈ lw_tbl := tm_3 (List.mem_of_getElem? (i := 146) rfl)
theorem co_all : ∀ y, y < 194 → coW y ∈ lw_tbl := by
  intro y hy
  match y, hy with
  | 0, _ => exact co_X0_keep
  | 1, _ => exact co_X0_takeBack
  | 2, _ => exact co_X0_forget
  | 3, _ => exact co_X1_isMissing
  | 4, _ => exact co_X1_begin
  | 5, _ => exact co_X1_end
  | 6, _ => exact co_X1_hasItems
  | 7, _ => exact co_X1_narrowed
  | 8, _ => exact co_X2_isFull
  | 9, _ => exact co_X2_add
  | 10, _ => exact co_X2_clear
  | 11, _ => exact co_X2_readInto
  | 12, _ => exact co_X2_readLaw
  | 13, _ => exact co_X2_readFlames
  | 14, _ => exact co_X2_readFlame
  | 15, _ => exact co_X2_readSitters
  | 16, _ => exact co_X2_readPlayers
  | 17, _ => exact co_X2_readPlayer
  | 18, _ => exact co_X2_sortOf
  | 19, _ => exact co_X2_isNext
  | 20, _ => exact co_X2_passes
  | 21, _ => exact co_X2_readNumber
  | 22, _ => exact co_X2_isFigure
  | 23, _ => exact co_X2_faultHere
  | 24, _ => exact co_X3_stands
  | 25, _ => exact co_X3_hasPlace
  | 26, _ => exact co_X3_hasPlayer
  | 27, _ => exact co_X3_hasCrossed
  | 28, _ => exact co_X3_clear
  | 29, _ => exact co_X3_become
  | 30, _ => exact co_X3_addPlayer
  | 31, _ => exact co_X3_addOil
  | 32, _ => exact co_X3_fillUp
  | 33, _ => exact co_X3_putOut
  | 34, _ => exact co_X3_turnRound
  | 35, _ => exact co_X3_placeOf
  | 36, _ => exact co_X3_playersAt
  | 37, _ => exact co_X3_sittersInAll
  | 38, _ => exact co_X3_litPlaces
  | 39, _ => exact co_X3_clapsFor
  | 40, _ => exact co_X3_passEvenings
  | 41, _ => exact co_X3_letsCross
  | 42, _ => exact co_X3_passEvening
  | 43, _ => exact co_X3_takeDraw
  | 44, _ => exact co_X3_letGo
  | 45, _ => exact co_X3_goAsFarmer
  | 46, _ => exact co_X3_goAsLad
  | 47, _ => exact co_X3_goAsChild
  | 48, _ => exact co_X3_goAsCart
  | 49, _ => exact co_X3_nextByWay
  | 50, _ => exact co_X3_stepTowards
  | 51, _ => exact co_X3_clap
  | 52, _ => exact co_X3_seat
  | 53, _ => exact co_X3_burnDown
  | 54, _ => exact co_X4_row
  | 55, _ => exact co_X4_set
  | 56, _ => exact co_X4_copy
  | 57, _ => exact co_X4_drop
  | 58, _ => exact co_X4_feed
  | 59, _ => exact co_X4_town
  | 60, _ => exact co_X4_fault
  | 61, _ => exact co_X4_evenings
  | 62, _ => exact co_X4_pour
  | 63, _ => exact co_X4_quench
  | 64, _ => exact co_X4_move
  | 65, _ => exact co_X4_turn
  | 66, _ => exact co_X4_undo
  | 67, _ => exact co_X4_player
  | 68, _ => exact co_X4_place
  | 69, _ => exact co_X4_ahead
  | 70, _ => exact co_X4_oil
  | 71, _ => exact co_X4_later
  | 72, _ => exact co_X4_crossing
  | 73, _ => exact co_X4_out
  | 74, _ => exact co_X4_gap
  | 75, _ => exact co_X4_hold
  | 76, _ => exact co_X4_fill
  | 77, _ => exact co_X4_lure
  | 78, _ => exact co_X4_fits
  | 79, _ => exact co_X4_sits
  | 80, _ => exact co_X4_wind
  | 81, _ => exact co_X4_drawn
  | 82, _ => exact co_X4_image
  | 83, _ => exact co_X4_restore
  | 84, _ => exact co_X4_kind
  | 85, _ => exact co_X4_as
  | 86, _ => exact co_X4_ask
  | 87, _ => exact co_X4_trace
  | 88, _ => exact co_X4_count
  | 89, _ => exact co_X4_status
  | 90, _ => exact co_X4_isRow
  | 91, _ => exact co_X4_isWithin
  | 92, _ => exact co_X4_isEither
  | 93, _ => exact co_X4_hasBit
  | 94, _ => exact co_X4_found
  | 95, _ => exact co_X4_foundNothing
  | 96, _ => exact co_X4_rowsThatAre
  | 97, _ => exact co_X4_foretellNow
  | 98, _ => exact co_X4_fewestFilled
  | 99, _ => exact co_X4_fitting
  | 100, _ => exact co_X4_goesAsTold
  | 101, _ => exact co_X4_clapsAsTold
  | 102, _ => exact co_X4_flamesThatMatter
  | 103, _ => exact co_X4_crossedByWind
  | 104, _ => exact co_X4_power
  | 105, _ => exact co_X4_greatestCommon
  | 106, _ => exact co_X4_firstBody
  | 107, _ => exact co_X4_beginBody
  | 108, _ => exact co_X4_leaveTrace
  | 109, _ => exact co_X5_in
  | 110, _ => exact co_X5_has
  | 111, _ => exact co_X5_ones
  | 112, _ => exact co_X5_lesser
  | 113, _ => exact co_X5_found
  | 114, _ => exact co_X5_well
  | 115, _ => exact co_X5_copies
  | 116, _ => exact co_X5_isRow
  | 117, _ => exact co_X5_isMissing
  | 118, _ => exact co_X5_cut
  | 119, _ => exact co_X5_row
  | 120, _ => exact co_X5_set
  | 121, _ => exact co_X5_isPart
  | 122, _ => exact co_X5_copy
  | 123, _ => exact co_X5_drop
  | 124, _ => exact co_X5_feed
  | 125, _ => exact co_X5_byteAt
  | 126, _ => exact co_X5_advances
  | 127, _ => exact co_X5_isWell
  | 128, _ => exact co_X5_takes
  | 129, _ => exact co_X5_figure
  | 130, _ => exact co_X5_kindOf
  | 131, _ => exact co_X5_follows
  | 132, _ => exact co_X5_readsFlame
  | 133, _ => exact co_X5_readsSitter
  | 134, _ => exact co_X5_readsPlayer
  | 135, _ => exact co_X5_must
  | 136, _ => exact co_X5_town
  | 137, _ => exact co_X5_fault
  | 138, _ => exact co_X5_isTown
  | 139, _ => exact co_X5_isPlace
  | 140, _ => exact co_X5_isPlayer
  | 141, _ => exact co_X5_hasCrossed
  | 142, _ => exact co_X5_litOf
  | 143, _ => exact co_X5_nearest
  | 144, _ => exact co_X5_nearer
  | 145, _ => exact co_X5_crosses
  | 146, _ => exact co_X5_goes
  | 147, _ => exact co_X5_clapsAt
  | 148, _ => exact co_X5_passes
  | 149, _ => exact co_X5_crossed
  | 150, _ => exact co_X5_whereIs
  | 151, _ => exact co_X5_notes
  | 152, _ => exact co_X5_evenings
  | 153, _ => exact co_X5_pour
  | 154, _ => exact co_X5_quench
  | 155, _ => exact co_X5_move
  | 156, _ => exact co_X5_turn
  | 157, _ => exact co_X5_undo
  | 158, _ => exact co_X5_player
  | 159, _ => exact co_X5_playersIn
  | 160, _ => exact co_X5_place
  | 161, _ => exact co_X5_goesOn
  | 162, _ => exact co_X5_ahead
  | 163, _ => exact co_X5_oil
  | 164, _ => exact co_X5_later
  | 165, _ => exact co_X5_crossing
  | 166, _ => exact co_X5_out
  | 167, _ => exact co_X5_gap
  | 168, _ => exact co_X5_isNear
  | 169, _ => exact co_X5_hold
  | 170, _ => exact co_X5_fill
  | 171, _ => exact co_X5_lure
  | 172, _ => exact co_X5_isSeen
  | 173, _ => exact co_X5_fits
  | 174, _ => exact co_X5_sits
  | 175, _ => exact co_X5_wind
  | 176, _ => exact co_X5_drawn
  | 177, _ => exact co_X5_image
  | 178, _ => exact co_X5_restore
  | 179, _ => exact co_X5_kindIn
  | 180, _ => exact co_X5_kind
  | 181, _ => exact co_X5_as
  | 182, _ => exact co_X5_begins
  | 183, _ => exact co_X5_farmerMark
  | 184, _ => exact co_X5_cartSize
  | 185, _ => exact co_X5_farmerSize
  | 186, _ => exact co_X5_cartMark
  | 187, _ => exact co_X5_ask
  | 188, _ => exact co_X5_trace
  | 189, _ => exact co_X5_sitters
  | 190, _ => exact co_X5_count
  | 191, _ => exact co_X5_status
  | 192, _ => exact co_J6_bitCount_0f7a4
  | 193, _ => exact co_X4_bodyGives
  | n + 194, h => exact absurd h (by omega)
theorem ml_in : MLs.all (fun q => match q.2.2.2 with
  | 0 => decide (q.2.2.1 ∈ oInst) && (decide (q.2.2.1 ∈ oSel) && Nat.blt q.2.2.1 194)
  | 1 => decide (q.2.2.1 ∈ oStat) && Nat.blt q.2.2.1 194
  | 2 => decide (q.2.2.1 ∈ oStat) && Nat.blt q.2.2.1 194
  | _ => Nat.beq q.2.2.2 3 || (Nat.beq q.2.2.2 4 || Nat.beq q.2.2.2 5)) = true := by decide +kernel
theorem ini_in : ∀ o, o < 9 → ownS o ∈ [RL, RX4, RX1, RX2, RX3, RX0, RX5, "java/lang/System", RJ9, RJ6] := by decide +kernel
theorem mr_len : MRs.length = 194 := by decide +kernel
