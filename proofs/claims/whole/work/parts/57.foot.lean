/-! THE WHOLE OBJECT, THE WHOLE REFERENCE -/
def rwC : Nat → List (Nat × Nat)
  | 0 => []
  | n + 1 => rwC n ++ [(2, 0 + n), (3, 0 + n)]
def tw1 (t : Nat) : List (Nat × Nat) := [(6, t), (7, t), (8, t), (9, t), (10, t), (11, t)]
def twC (o : Nat) : Nat → List (Nat × Nat)
  | 0 => []
  | n + 1 => twC o n ++ tw1 (o + n)
def consF : List (Nat × Nat) := [(0, 0)] ++ ((([(12, 0)] ++ (((([(1, 0)] ++ rwC 8) ++ [(4, 0), (5, 0)]) ++ tw1 0) ++ tw1 1) ++ twC 2 2) ++ ([(13, 0), (14, 0)] ++ twC 4 24)) ++ [(15, 0)])
def consM : List (Nat × Nat) := [(16, 0), (17, 0), (18, 0), (19, 0), (20, 0), (21, 0), (22, 0), (22, 1), (22, 2), (25, 0), (26, 0), (27, 0), (28, 0), (29, 0)]
/-- the memory at the start, but for the arrays that nobody writes -/
def M00 : Mem := fun k _ => match k with
  | 2 => fun j => (match j with
    | 1 => -1
    | _ => 0)
  | 17 => fun j => if j < 8 then -1000000 else 0
  | _ => fun _ => 0
def adF (h : Nat) (u : Nat → Nat → Nat) (k i : Nat) : Nat := match k with
  | 0 => h
  | k => u k i
def adM (h : Nat) (u : Nat → Nat → Nat) (k i : Nat) : Nat := match k with
  | 16 => h
  | k => u k i
def wFoot (C : CI4) (h : Nat) (u : Nat → Nat → Nat) : va_W := consF.map (fun q => (adF h u q.1 q.2, entW (adF h u) C q.1 q.2 (M00 q.1 q.2)))
def wModel (C : CI4) (h : Nat) (u : Nat → Nat → Nat) : va_W := consM.map (fun q => (adM h u q.1 q.2, entW (adM h u) C q.1 q.2 (M00 q.1 q.2)))
/-- the addresses of the whole object -/
def adU (a b uA u0 u1 : Nat → Nat → Nat) (qR qT q5 q0 q1 qI qA q15 : Nat) (k i : Nat) : Nat := match k with
  | 1 => qR
  | 2 => a 2 i
  | 3 => a 3 i
  | 4 => qT
  | 5 => q5
  | 12 => qI
  | 13 => qA
  | 14 => uA 14 0
  | 15 => q15
  | k => (match i with
    | 0 => (match k with
      | 6 => q0
      | k => u0 k 0)
    | 1 => (match k with
      | 6 => q1
      | k => u1 k 0)
    | 2 => b k 2
    | 3 => b k 3
    | i => uA k i)
theorem adU_hi {a b uA u0 u1 : Nat → Nat → Nat} {qR qT q5 q0 q1 qI qA q15 k i : Nat} (hk : 6 ≤ k ∧ k < 12) (hi : 4 ≤ i) : adU a b uA u0 u1 qR qT q5 q0 q1 qI qA q15 k i = uA k i := by
  obtain ⟨n, rfl⟩ : ∃ n, i = n + 4 := ⟨i - 4, by omega⟩
  rcases (by omega : k = 6 ∨ k = 7 ∨ k = 8 ∨ k = 9 ∨ k = 10 ∨ k = 11) with rfl | rfl | rfl | rfl | rfl | rfl <;> rfl
theorem ldT_c {C : CI4} {o : Nat} {a b : Nat → Nat → Nat} : ∀ n, (∀ t, t < n → ∀ k, 6 ≤ k ∧ k < 12 → a k (o + t) = b k (o + t)) → ldL (wTown C) 6 o a n = ldL (wTown C) 6 o b n
  | 0, _ => rfl
  | n + 1, h => by
    have e : wTown C (b 6 (o + n)) (fun k _ => a k (o + n)) = wTown C (b 6 (o + n)) (fun k _ => b k (o + n)) := by
      unfold wTown
      dsimp only
      rw [h n (by omega) 7 (by omega), h n (by omega) 8 (by omega), h n (by omega) 9 (by omega), h n (by omega) 10 (by omega), h n (by omega) 11 (by omega)]
    unfold ldL
    rw [ldT_c n (fun t ht k hk => h t (by omega) k hk), h n (by omega) 6 (by omega), e]
theorem ldR_c {C : CI4} {o : Nat} {a b : Nat → Nat → Nat} : ∀ n, (∀ t, t < n → a 2 (o + t) = b 2 (o + t) ∧ a 3 (o + t) = b 3 (o + t)) → ldL (wRow C) 2 o a n = ldL (wRow C) 2 o b n
  | 0, _ => rfl
  | n + 1, h => by
    have e : wRow C (b 2 (o + n)) (fun k _ => a k (o + n)) = wRow C (b 2 (o + n)) (fun k _ => b k (o + n)) := by
      unfold wRow
      dsimp only
      rw [(h n (by omega)).2]
    unfold ldL
    rw [ldR_c n (fun t ht => h t (by omega)), (h n (by omega)).1, e]
def cellF (C : CI4) (ad : Nat → Nat → Nat) (q : Nat × Nat) : Nat × va_E := (ad q.1 q.2, entW ad C q.1 q.2 (M00 q.1 q.2))
theorem rwC_m {C : CI4} {ad : Nat → Nat → Nat} : ∀ n, (rwC n).map (cellF C ad) = ldL (wRow C) 2 0 ad n
  | 0 => rfl
  | n + 1 => by
    show (rwC n ++ [(2, 0 + n), (3, 0 + n)]).map (cellF C ad) = ldL (wRow C) 2 0 ad n ++ wRow C (ad 2 (0 + n)) (fun k _ => ad k (0 + n))
    rw [List.map_append, rwC_m n]
    rfl
theorem tw1_m {C : CI4} {ad : Nat → Nat → Nat} (t : Nat) : (tw1 t).map (cellF C ad) = wTown C (ad 6 t) (fun k _ => ad k t) := rfl
theorem twC_m {C : CI4} {ad : Nat → Nat → Nat} {o : Nat} : ∀ n, (twC o n).map (cellF C ad) = ldL (wTown C) 6 o ad n
  | 0 => rfl
  | n + 1 => by
    show (twC o n ++ tw1 (o + n)).map (cellF C ad) = ldL (wTown C) 6 o ad n ++ wTown C (ad 6 (o + n)) (fun k _ => ad k (o + n))
    rw [List.map_append, twC_m n, tw1_m]
theorem consF_m {C : CI4} {ad : Nat → Nat → Nat} : consF.map (cellF C ad) = [cellF C ad (0, 0)] ++ ((([cellF C ad (12, 0)] ++ (((([cellF C ad (1, 0)] ++ ldL (wRow C) 2 0 ad 8) ++ [cellF C ad (4, 0), cellF C ad (5, 0)]) ++ wTown C (ad 6 0) (fun k _ => ad k 0)) ++ wTown C (ad 6 1) (fun k _ => ad k 1)) ++ ldL (wTown C) 6 2 ad 2) ++ ([cellF C ad (13, 0), cellF C ad (14, 0)] ++ ldL (wTown C) 6 4 ad 24)) ++ [cellF C ad (15, 0)]) := by
  unfold consF
  rw [List.map_append, List.map_append, List.map_append, List.map_append, List.map_append, List.map_append, List.map_append, List.map_append, List.map_append, List.map_append, rwC_m, tw1_m, tw1_m, twC_m, twC_m]
  rfl
theorem wActs_c {C : CI4} {q : Nat} {u u' : Nat → Nat → Nat} (h14 : u 14 0 = u' 14 0) (h : ∀ k i, 6 ≤ k ∧ k < 12 → 4 ≤ i → u k i = u' k i) : wActs C q u = wActs C q u' := by
  have e : (fun j => some (u 6 (4 + j))) = (fun j => some (u' 6 (4 + j))) := funext (fun j => by rw [h 6 (4 + j) (by omega) (by omega)])
  unfold wActs
  rw [h14, e, ldT_c 24 (fun t _ k hk => h k (4 + t) hk (by omega))]
set_option maxHeartbeats 2000000 in
theorem foot_eq {C : CI4} {h0 qR qT q0 q1 qI qA q15 : Nat} {a b uA u0 u1 uT : Nat → Nat → Nat} :
    (h0, .inr (4, [.ref qR, .ref qT, .ref q0, .ref q1, .ref qI, .ref qA, .ref q15, .int 0, .int 0])) :: ((((qI, rfs (fun j => some (adF h0 (adU a b uA u0 u1 qR qT (uT 5 0) q0 q1 qI qA q15) 6 (2 + j))) C.2.2.2 2) :: (((((((qR, rfs (fun j => some (a 2 (0 + j))) C.2.2.1 8) :: ([] ++ ldL (wRow C) 2 0 a 8)) ++ wTape C qT uT) ++ wTown C q0 u0) ++ wTown C q1 u1)) ++ ldL (wTown C) 6 2 b 2)) ++ wActs C qA (adF h0 (adU a b uA u0 u1 qR qT (uT 5 0) q0 q1 qI qA q15))) ++ [(q15, .inl (C.1, 16, .inl (fun _ => 0)))]) = wFoot C h0 (adU a b uA u0 u1 qR qT (uT 5 0) q0 q1 qI qA q15) := by
  have e1 : ldL (wRow C) 2 0 a 8 = ldL (wRow C) 2 0 (adF h0 (adU a b uA u0 u1 qR qT (uT 5 0) q0 q1 qI qA q15)) 8 := ldR_c 8 (fun t _ => ⟨rfl, rfl⟩)
  have e2 : ldL (wTown C) 6 2 b 2 = ldL (wTown C) 6 2 (adF h0 (adU a b uA u0 u1 qR qT (uT 5 0) q0 q1 qI qA q15)) 2 := ldT_c 2 (fun t ht k hk => by
    rcases (by omega : t = 0 ∨ t = 1) with rfl | rfl <;> rcases (by omega : k = 6 ∨ k = 7 ∨ k = 8 ∨ k = 9 ∨ k = 10 ∨ k = 11) with rfl | rfl | rfl | rfl | rfl | rfl <;> rfl)
  show _ = consF.map (cellF C (adF h0 (adU a b uA u0 u1 qR qT (uT 5 0) q0 q1 qI qA q15)))
  rw [consF_m, e1, e2]
  unfold wActs
  generalize ldL (wRow C) 2 0 (adF h0 (adU a b uA u0 u1 qR qT (uT 5 0) q0 q1 qI qA q15)) 8 = g1
  generalize ldL (wTown C) 6 2 (adF h0 (adU a b uA u0 u1 qR qT (uT 5 0) q0 q1 qI qA q15)) 2 = g2
  generalize ldL (wTown C) 6 4 (adF h0 (adU a b uA u0 u1 qR qT (uT 5 0) q0 q1 qI qA q15)) 24 = g3
  rfl
theorem dr4_0 : decode prog_1_method_1_code 0 = .ok (.aload_n 0, 1) := by decide +kernel
theorem dr4_1 : decode prog_1_method_1_code 1 = .ok (.invokespecial 1, 3) := by decide +kernel
theorem dr4_4 : decode prog_1_method_1_code 4 = .ok (.aload_n 0, 1) := by decide +kernel
theorem dr4_5 : decode prog_1_method_1_code 5 = .ok (.bipush 8, 2) := by decide +kernel
theorem dr4_7 : decode prog_1_method_1_code 7 = .ok (.anewarray 9, 3) := by decide +kernel
theorem dr4_10 : decode prog_1_method_1_code 10 = .ok (.putfield 11, 3) := by decide +kernel
theorem dr4_13 : decode prog_1_method_1_code 13 = .ok (.iconst 0, 1) := by decide +kernel
theorem dr4_14 : decode prog_1_method_1_code 14 = .ok (.istore_n 1, 1) := by decide +kernel
theorem dr4_15 : decode prog_1_method_1_code 15 = .ok (.iload_n 1, 1) := by decide +kernel
theorem dr4_16 : decode prog_1_method_1_code 16 = .ok (.bipush 8, 2) := by decide +kernel
theorem dr4_18 : decode prog_1_method_1_code 18 = .ok (.if_icmp .ge 22, 3) := by decide +kernel
theorem dr4_21 : decode prog_1_method_1_code 21 = .ok (.aload_n 0, 1) := by decide +kernel
theorem dr4_22 : decode prog_1_method_1_code 22 = .ok (.getfield 11, 3) := by decide +kernel
theorem dr4_25 : decode prog_1_method_1_code 25 = .ok (.iload_n 1, 1) := by decide +kernel
theorem dr4_26 : decode prog_1_method_1_code 26 = .ok (.new 9, 3) := by decide +kernel
theorem dr4_29 : decode prog_1_method_1_code 29 = .ok (.dup, 1) := by decide +kernel
theorem dr4_30 : decode prog_1_method_1_code 30 = .ok (.invokespecial 15, 3) := by decide +kernel
theorem dr4_33 : decode prog_1_method_1_code 33 = .ok (.aastore, 1) := by decide +kernel
theorem dr4_34 : decode prog_1_method_1_code 34 = .ok (.iinc 1 1, 3) := by decide +kernel
theorem dr4_37 : decode prog_1_method_1_code 37 = .ok (.goto (-22), 3) := by decide +kernel
theorem dr4_40 : decode prog_1_method_1_code 40 = .ok (.aload_n 0, 1) := by decide +kernel
theorem dr4_41 : decode prog_1_method_1_code 41 = .ok (.new 16, 3) := by decide +kernel
theorem dr4_44 : decode prog_1_method_1_code 44 = .ok (.dup, 1) := by decide +kernel
theorem dr4_45 : decode prog_1_method_1_code 45 = .ok (.invokespecial 18, 3) := by decide +kernel
theorem dr4_48 : decode prog_1_method_1_code 48 = .ok (.putfield 19, 3) := by decide +kernel
theorem dr4_51 : decode prog_1_method_1_code 51 = .ok (.aload_n 0, 1) := by decide +kernel
theorem dr4_52 : decode prog_1_method_1_code 52 = .ok (.new 23, 3) := by decide +kernel
theorem dr4_55 : decode prog_1_method_1_code 55 = .ok (.dup, 1) := by decide +kernel
theorem dr4_56 : decode prog_1_method_1_code 56 = .ok (.invokespecial 25, 3) := by decide +kernel
theorem dr4_59 : decode prog_1_method_1_code 59 = .ok (.putfield 26, 3) := by decide +kernel
theorem dr4_62 : decode prog_1_method_1_code 62 = .ok (.aload_n 0, 1) := by decide +kernel
theorem dr4_63 : decode prog_1_method_1_code 63 = .ok (.new 23, 3) := by decide +kernel
theorem dr4_66 : decode prog_1_method_1_code 66 = .ok (.dup, 1) := by decide +kernel
theorem dr4_67 : decode prog_1_method_1_code 67 = .ok (.invokespecial 25, 3) := by decide +kernel
theorem dr4_70 : decode prog_1_method_1_code 70 = .ok (.putfield 30, 3) := by decide +kernel
theorem dr4_73 : decode prog_1_method_1_code 73 = .ok (.aload_n 0, 1) := by decide +kernel
theorem dr4_74 : decode prog_1_method_1_code 74 = .ok (.iconst 2, 1) := by decide +kernel
theorem dr4_75 : decode prog_1_method_1_code 75 = .ok (.anewarray 23, 3) := by decide +kernel
theorem dr4_78 : decode prog_1_method_1_code 78 = .ok (.putfield 33, 3) := by decide +kernel
theorem dr4_81 : decode prog_1_method_1_code 81 = .ok (.iconst 0, 1) := by decide +kernel
theorem dr4_82 : decode prog_1_method_1_code 82 = .ok (.istore_n 1, 1) := by decide +kernel
theorem dr4_83 : decode prog_1_method_1_code 83 = .ok (.iload_n 1, 1) := by decide +kernel
theorem dr4_84 : decode prog_1_method_1_code 84 = .ok (.iconst 2, 1) := by decide +kernel
theorem dr4_85 : decode prog_1_method_1_code 85 = .ok (.if_icmp .ge 22, 3) := by decide +kernel
theorem dr4_88 : decode prog_1_method_1_code 88 = .ok (.aload_n 0, 1) := by decide +kernel
theorem dr4_89 : decode prog_1_method_1_code 89 = .ok (.getfield 33, 3) := by decide +kernel
theorem dr4_92 : decode prog_1_method_1_code 92 = .ok (.iload_n 1, 1) := by decide +kernel
theorem dr4_93 : decode prog_1_method_1_code 93 = .ok (.new 23, 3) := by decide +kernel
theorem dr4_96 : decode prog_1_method_1_code 96 = .ok (.dup, 1) := by decide +kernel
theorem dr4_97 : decode prog_1_method_1_code 97 = .ok (.invokespecial 25, 3) := by decide +kernel
theorem dr4_100 : decode prog_1_method_1_code 100 = .ok (.aastore, 1) := by decide +kernel
theorem dr4_101 : decode prog_1_method_1_code 101 = .ok (.iinc 1 1, 3) := by decide +kernel
theorem dr4_104 : decode prog_1_method_1_code 104 = .ok (.goto (-21), 3) := by decide +kernel
theorem dr4_107 : decode prog_1_method_1_code 107 = .ok (.aload_n 0, 1) := by decide +kernel
theorem dr4_108 : decode prog_1_method_1_code 108 = .ok (.new 37, 3) := by decide +kernel
theorem dr4_111 : decode prog_1_method_1_code 111 = .ok (.dup, 1) := by decide +kernel
theorem dr4_112 : decode prog_1_method_1_code 112 = .ok (.invokespecial 39, 3) := by decide +kernel
theorem dr4_115 : decode prog_1_method_1_code 115 = .ok (.putfield 40, 3) := by decide +kernel
theorem dr4_118 : decode prog_1_method_1_code 118 = .ok (.aload_n 0, 1) := by decide +kernel
theorem dr4_119 : decode prog_1_method_1_code 119 = .ok (.bipush 16, 2) := by decide +kernel
theorem dr4_121 : decode prog_1_method_1_code 121 = .ok (.newarray .int, 2) := by decide +kernel
theorem dr4_123 : decode prog_1_method_1_code 123 = .ok (.putfield 44, 3) := by decide +kernel
theorem dr4_126 : decode prog_1_method_1_code 126 = .ok (.return_, 1) := by decide +kernel
set_option maxHeartbeats 4000000 in
set_option maxRecDepth 100000 in
theorem ci_Foot (l : Launch) (D : va_G) (C : CI4) : MetI l D C (yIN RX4) (.code (yIN RX4) prog_1_method_1_code 2 none) { frames := 3, cells := 191, slots := 1780, locals := 60 } 4 df_4 (wFoot C) 191 1780 := by
  intro h0 sz
  refine Met.ofW (cc := prog_1_method_1_code) (maxL := 2) (ret := none) (by decide +kernel) rfl ?_
  intro p e s m args below meth c s₁ B hml hv
  obtain ⟨rfl, hsz, hP, hK, hN⟩ := hv
  have hx := B.exec
  have hb := B.bytes
  have hr := B.returns
  have hts0 := atoms_spec (ws := Cond.code (yIN RX4) prog_1_method_1_code 2 none :: gtb) B.pre
  have hts : ∀ w ∈ gtb, w.before [Value.ref h0].toArray s = true := fun w hw => hts0 w (List.mem_cons_of_mem _ hw)
  have hown : s.vm.findClass (ownS 4) = some m.cls := findClass_of_methodNamed B.named
  have hlocks := B.notSynchronized
  have hin : meth.name = "<init>" := (name_of_methodNamed B.named B.method).1
  subst hsz
  have hD : va_D (va_A [(h0, .inr (4, df_4))] s.heap.size) [(h0, .inr (4, df_4))] := D_nd.mpr ⟨by simp, fun q hq => by rw [List.mem_singleton.mp hq]; exact va_A.in (k := 0) (ws := [(h0, .inr (4, df_4))]) rfl⟩
  generalize hAe : va_A [(h0, .inr (4, df_4))] s.heap.size = A at hD ⊢
  have hA : ∀ q : Nat, s.heap.size ≤ q → A q := fun q h => by rw [← hAe]; exact Or.inr h
  have hS : va_S A s.heap s.heap [] := va_S.rf
  have hl := lv_entry ([.ref h0]) (n := 2) (Nat.le_of_ble_eq_true rfl)
  rw [lg_entry_eq]
  generalize (lg_sl ([.ref h0]) ++ List.replicate (2 - (lg_sl ([.ref h0])).length) Slot.unset).toArray = ls at hl ⊢
  have hl : lv_has ls 2 [(0, .ref h0)] := hl
  refine lv_aload_n hx hb dr4_0 rfl (lv_at hl 0 rfl) ?_
  refine W.objInit hx hb hown (hts _ wm_o4) (hts _ wm_oi) (hts _ wm_oc) rfl (by rw [hml]; exact hl.1) rfl dr4_1 (Nat.le_of_ble_eq_true rfl) (Nat.le_of_ble_eq_true rfl) ?_
  refine W.eq (g2 := F0 m 4 ls []) rfl ?_
  refine lv_aload_n hx hb dr4_4 rfl (lv_at hl 0 rfl) ?_
  refine lv_bipush (v := nI 8) hx hb dr4_5 (by decide) ?_
  refine arr_q (ci := 4) (k := 0) (N := 8) (t0 := 2) (CN := RX1) (cq := C.2.2.1) hx hb hown hts hK hin hP hD hS hA (by omega) (by decide) ⟨rfl, rfl⟩ wf_4_0 (by decide +kernel) (Nat.le_of_ble_eq_true rfl) rfl (by omega) hN.2.2.2.2.2.1 wm_k41 rfl ⟨(Nat.le_of_ble_eq_true rfl), (Nat.le_of_ble_eq_true rfl)⟩ dr4_7 dr4_10 (fun qR H locs hP hD hS => ?_)
  refine lv_iconst (v := nI 0) hx hb dr4_13 (by decide) ?_
  refine lv_istore_n (lv' := [(1, .int (nI 0)), (0, .ref h0)]) hx hb dr4_14 rfl hl (by decide) rfl (fun ls hl => ?_)
  have eN : (fun _ => none : Nat → Option Nat) = rfN (fun _ _ => 0) 2 0 0 := funext (fun j => by unfold rfN; rw [if_neg (by omega)])
  rw [eN] at hP hD
  refine mk_loop (ci := 4) (cj := 1) (kf := 0) (N := 8) (t0 := 2) (h0 := h0) (qa := qR) (kJ := 2) (o := 0) (pH := 15) (pX := 40) (pB := 21) (pl := 2) (idxF := 11) (idxC := 9) (idxM := 15) (mc := 1) (ms := 40) (c0 := 1) (s0 := 8) (fs := [.ref qR, .null, .null, .null, .null, .null, .null, .int 0, .int 0]) (fj := df_1) (cq := C.2.2.1) (wJ := wRow C) (X := []) hx hb hml hown hts hK hN hA (by omega) (by omega) (by decide) rfl rfl wf_4_0 rfl wm_k41 wm_n1 wm_i1 dv_1 (ci_Row l D C) rfl nh_1 hN.2.1 wm_m1 wm_c1 ⟨rfl, rfl, (Nat.le_of_ble_eq_true rfl), (Nat.le_of_ble_eq_true rfl)⟩ (fun q u => ⟨_, _, rfl⟩) (fun q u u' => wRow_c q u u') ⟨(Nat.le_of_ble_eq_true rfl), (Nat.le_of_ble_eq_true rfl)⟩ (by omega) rfl (fun H locs cells slots ls rest k => lv_bipush hx hb dr4_16 (by decide) k) dr4_15 dr4_18 (by decide) dr4_21 dr4_22 dr4_25 dr4_26 dr4_29 dr4_30 dr4_33 dr4_34 dr4_37 (by decide) (fun a H locs ls hl hP hD hS => ?_) 8 0 _ H locs ls (by omega) hl hP hD hS
  refine W.widen (k := 17) (n := 352) (Nat.le_of_ble_eq_true rfl) (Nat.le_of_ble_eq_true rfl) ?_
  refine lv_aload_n hx hb dr4_40 rfl (lv_at hl 1 rfl) ?_
  refine new_n (ci := 2) (fs := df_2) (w := wTape C) (mc := 1) (ms := 90) hx hb hml hown hts hK hN hl.1 hP hD hS hA (by omega) wm_k42 wm_n2 wm_i2 dv_2 (ci_Tape l D C) rfl nh_2 hN.2.2.1 wm_m2 wm_c2 ⟨rfl, rfl, (Nat.le_of_ble_eq_true rfl), (Nat.le_of_ble_eq_true rfl)⟩ ⟨(Nat.le_of_ble_eq_true rfl), (Nat.le_of_ble_eq_true rfl)⟩ dr4_41 dr4_44 dr4_45 (Nat.le_of_ble_eq_true rfl) (fun qT uT H locs hP hD hS => ?_)
  have hP : va_P D vwCl ((h0, .inr (4, [.ref qR, .null, .null, .null, .null, .null, .null, .int 0, .int 0])) :: (((qR, rfs (fun j => some (a 2 (0 + j))) C.2.2.1 8) :: ([] ++ ldL (wRow C) 2 0 a 8)) ++ wTape C qT uT)) H := hP
  have hD : va_D A ((h0, .inr (4, [.ref qR, .null, .null, .null, .null, .null, .null, .int 0, .int 0])) :: (((qR, rfs (fun j => some (a 2 (0 + j))) C.2.2.1 8) :: ([] ++ ldL (wRow C) 2 0 a 8)) ++ wTape C qT uT)) := hD
  refine put_f (ci := 4) (k := 1) (ty := .object RX2) hx hb hown hts hK hin hP hD hS (by omega) (by decide) ⟨rfl, rfl⟩ wf_4_1 (by decide +kernel) rfl rfl (Nat.le_of_ble_eq_true rfl) dr4_48 (fun H locs hP hD hS => ?_)
  have hP : va_P D vwCl ((h0, .inr (4, [.ref qR, .ref qT, .null, .null, .null, .null, .null, .int 0, .int 0])) :: (((qR, rfs (fun j => some (a 2 (0 + j))) C.2.2.1 8) :: ([] ++ ldL (wRow C) 2 0 a 8)) ++ wTape C qT uT)) H := hP
  have hD : va_D A ((h0, .inr (4, [.ref qR, .ref qT, .null, .null, .null, .null, .null, .int 0, .int 0])) :: (((qR, rfs (fun j => some (a 2 (0 + j))) C.2.2.1 8) :: ([] ++ ldL (wRow C) 2 0 a 8)) ++ wTape C qT uT)) := hD
  refine lv_aload_n hx hb dr4_51 rfl (lv_at hl 1 rfl) ?_
  refine new_n (ci := 3) (fs := df_3) (w := wTown C) (mc := 5) (ms := 34) hx hb hml hown hts hK hN hl.1 hP hD hS hA (by omega) wm_k43 wm_n3 wm_i3 dv_3 (ci_Town l D C) rfl nh_3 hN.2.2.2.1 wm_m3 wm_c3 ⟨rfl, rfl, (Nat.le_of_ble_eq_true rfl), (Nat.le_of_ble_eq_true rfl)⟩ ⟨(Nat.le_of_ble_eq_true rfl), (Nat.le_of_ble_eq_true rfl)⟩ dr4_52 dr4_55 dr4_56 (Nat.le_of_ble_eq_true rfl) (fun q0 u0 H locs hP hD hS => ?_)
  have hP : va_P D vwCl ((h0, .inr (4, [.ref qR, .ref qT, .null, .null, .null, .null, .null, .int 0, .int 0])) :: ((((qR, rfs (fun j => some (a 2 (0 + j))) C.2.2.1 8) :: ([] ++ ldL (wRow C) 2 0 a 8)) ++ wTape C qT uT) ++ wTown C q0 u0)) H := hP
  have hD : va_D A ((h0, .inr (4, [.ref qR, .ref qT, .null, .null, .null, .null, .null, .int 0, .int 0])) :: ((((qR, rfs (fun j => some (a 2 (0 + j))) C.2.2.1 8) :: ([] ++ ldL (wRow C) 2 0 a 8)) ++ wTape C qT uT) ++ wTown C q0 u0)) := hD
  refine put_f (ci := 4) (k := 2) (ty := .object RX3) hx hb hown hts hK hin hP hD hS (by omega) (by decide) ⟨rfl, rfl⟩ wf_4_2 (by decide +kernel) rfl rfl (Nat.le_of_ble_eq_true rfl) dr4_59 (fun H locs hP hD hS => ?_)
  have hP : va_P D vwCl ((h0, .inr (4, [.ref qR, .ref qT, .ref q0, .null, .null, .null, .null, .int 0, .int 0])) :: ((((qR, rfs (fun j => some (a 2 (0 + j))) C.2.2.1 8) :: ([] ++ ldL (wRow C) 2 0 a 8)) ++ wTape C qT uT) ++ wTown C q0 u0)) H := hP
  have hD : va_D A ((h0, .inr (4, [.ref qR, .ref qT, .ref q0, .null, .null, .null, .null, .int 0, .int 0])) :: ((((qR, rfs (fun j => some (a 2 (0 + j))) C.2.2.1 8) :: ([] ++ ldL (wRow C) 2 0 a 8)) ++ wTape C qT uT) ++ wTown C q0 u0)) := hD
  refine lv_aload_n hx hb dr4_62 rfl (lv_at hl 1 rfl) ?_
  refine new_n (ci := 3) (fs := df_3) (w := wTown C) (mc := 5) (ms := 34) hx hb hml hown hts hK hN hl.1 hP hD hS hA (by omega) wm_k43 wm_n3 wm_i3 dv_3 (ci_Town l D C) rfl nh_3 hN.2.2.2.1 wm_m3 wm_c3 ⟨rfl, rfl, (Nat.le_of_ble_eq_true rfl), (Nat.le_of_ble_eq_true rfl)⟩ ⟨(Nat.le_of_ble_eq_true rfl), (Nat.le_of_ble_eq_true rfl)⟩ dr4_63 dr4_66 dr4_67 (Nat.le_of_ble_eq_true rfl) (fun q1 u1 H locs hP hD hS => ?_)
  have hP : va_P D vwCl ((h0, .inr (4, [.ref qR, .ref qT, .ref q0, .null, .null, .null, .null, .int 0, .int 0])) :: (((((qR, rfs (fun j => some (a 2 (0 + j))) C.2.2.1 8) :: ([] ++ ldL (wRow C) 2 0 a 8)) ++ wTape C qT uT) ++ wTown C q0 u0) ++ wTown C q1 u1)) H := hP
  have hD : va_D A ((h0, .inr (4, [.ref qR, .ref qT, .ref q0, .null, .null, .null, .null, .int 0, .int 0])) :: (((((qR, rfs (fun j => some (a 2 (0 + j))) C.2.2.1 8) :: ([] ++ ldL (wRow C) 2 0 a 8)) ++ wTape C qT uT) ++ wTown C q0 u0) ++ wTown C q1 u1)) := hD
  refine put_f (ci := 4) (k := 3) (ty := .object RX3) hx hb hown hts hK hin hP hD hS (by omega) (by decide) ⟨rfl, rfl⟩ wf_4_3 (by decide +kernel) rfl rfl (Nat.le_of_ble_eq_true rfl) dr4_70 (fun H locs hP hD hS => ?_)
  have hP : va_P D vwCl ((h0, .inr (4, [.ref qR, .ref qT, .ref q0, .ref q1, .null, .null, .null, .int 0, .int 0])) :: (((((qR, rfs (fun j => some (a 2 (0 + j))) C.2.2.1 8) :: ([] ++ ldL (wRow C) 2 0 a 8)) ++ wTape C qT uT) ++ wTown C q0 u0) ++ wTown C q1 u1)) H := hP
  have hD : va_D A ((h0, .inr (4, [.ref qR, .ref qT, .ref q0, .ref q1, .null, .null, .null, .int 0, .int 0])) :: (((((qR, rfs (fun j => some (a 2 (0 + j))) C.2.2.1 8) :: ([] ++ ldL (wRow C) 2 0 a 8)) ++ wTape C qT uT) ++ wTown C q0 u0) ++ wTown C q1 u1)) := hD
  refine lv_aload_n hx hb dr4_73 rfl (lv_at hl 1 rfl) ?_
  refine lv_iconst (v := nI 2) hx hb dr4_74 (by decide) ?_
  refine arr_q (ci := 4) (k := 4) (N := 2) (t0 := 3) (CN := RX3) (cq := C.2.2.2) hx hb hown hts hK hin hP hD hS hA (by omega) (by decide) ⟨rfl, rfl⟩ wf_4_4 (by decide +kernel) (Nat.le_of_ble_eq_true rfl) rfl (by omega) hN.2.2.2.2.2.2 wm_k43 rfl ⟨(Nat.le_of_ble_eq_true rfl), (Nat.le_of_ble_eq_true rfl)⟩ dr4_75 dr4_78 (fun qI H locs hP hD hS => ?_)
  have hP := P_perm hP (List.Perm.cons _ (List.perm_append_singleton _ _))
  have hD := D_perm hD (List.Perm.cons _ (List.perm_append_singleton _ _))
  refine lv_iconst (v := nI 0) hx hb dr4_81 (by decide) ?_
  refine lv_istore_n (lv' := [(1, .int (nI 0)), (0, .ref h0)]) hx hb dr4_82 rfl hl (by decide) rfl (fun ls hl => ?_)
  have eN : (fun _ => none : Nat → Option Nat) = rfN (fun _ _ => 0) 6 2 0 := funext (fun j => by unfold rfN; rw [if_neg (by omega)])
  rw [eN] at hP hD
  rw [show ((((qR, rfs (fun j => some (a 2 (0 + j))) C.2.2.1 8) :: ([] ++ ldL (wRow C) 2 0 a 8)) ++ wTape C qT uT) ++ wTown C q0 u0) ++ wTown C q1 u1 = (((((qR, rfs (fun j => some (a 2 (0 + j))) C.2.2.1 8) :: ([] ++ ldL (wRow C) 2 0 a 8)) ++ wTape C qT uT) ++ wTown C q0 u0) ++ wTown C q1 u1) ++ ldL (wTown C) 6 2 (fun _ _ => 0) 0 from (List.append_nil _).symm] at hP hD
  refine W.widen (k := 32) (n := 541) (Nat.le_of_ble_eq_true rfl) (Nat.le_of_ble_eq_true rfl) ?_
  refine mk_loop (ci := 4) (cj := 3) (kf := 4) (N := 2) (t0 := 3) (h0 := h0) (qa := qI) (kJ := 6) (o := 2) (pH := 83) (pX := 107) (pB := 88) (pl := 1) (idxF := 33) (idxC := 23) (idxM := 25) (mc := 5) (ms := 34) (c0 := 32) (s0 := 541) (fs := [.ref qR, .ref qT, .ref q0, .ref q1, .ref qI, .null, .null, .int 0, .int 0]) (fj := df_3) (cq := C.2.2.2) (wJ := wTown C) (X := ((((qR, rfs (fun j => some (a 2 (0 + j))) C.2.2.1 8) :: ([] ++ ldL (wRow C) 2 0 a 8)) ++ wTape C qT uT) ++ wTown C q0 u0) ++ wTown C q1 u1) hx hb hml hown hts hK hN hA (by omega) (by omega) (by decide) rfl rfl wf_4_4 rfl wm_k43 wm_n3 wm_i3 dv_3 (ci_Town l D C) rfl nh_3 hN.2.2.2.1 wm_m3 wm_c3 ⟨rfl, rfl, (Nat.le_of_ble_eq_true rfl), (Nat.le_of_ble_eq_true rfl)⟩ (fun q u => ⟨_, _, rfl⟩) (fun q u u' => wTown_c q u u') ⟨(Nat.le_of_ble_eq_true rfl), (Nat.le_of_ble_eq_true rfl)⟩ (by omega) rfl (fun H locs cells slots ls rest k => lv_iconst hx hb dr4_84 (by decide) k) dr4_83 dr4_85 (by decide) dr4_88 dr4_89 dr4_92 dr4_93 dr4_96 dr4_97 dr4_100 dr4_101 dr4_104 (by decide) (fun b H locs ls hl hP hD hS => ?_) 2 0 (fun _ _ => 0) H locs ls (by omega) hl hP hD hS
  refine W.widen (k := 44) (n := 633) (Nat.le_of_ble_eq_true rfl) (Nat.le_of_ble_eq_true rfl) ?_
  refine lv_aload_n hx hb dr4_107 rfl (lv_at hl 1 rfl) ?_
  refine new_p (ci := 0) (fs := df_0) (w := wActs C) (mc := 145) (ms := 1128) hx hb hml hown hts hK hN hl.1 hP hD hS hA (by omega) wm_k40 wm_n0 wm_i0 dv_0 (ci_Acts l D C) rfl nh_0 wm_l40 wm_m0 wm_c0 ⟨rfl, rfl, (Nat.le_of_ble_eq_true rfl), (Nat.le_of_ble_eq_true rfl)⟩ ⟨(Nat.le_of_ble_eq_true rfl), (Nat.le_of_ble_eq_true rfl)⟩ dr4_108 dr4_111 dr4_112 (Nat.le_of_ble_eq_true rfl) (fun qA uA H locs hP hD hS => ?_)
  have hP : va_P D vwCl ((h0, .inr (4, [.ref qR, .ref qT, .ref q0, .ref q1, .ref qI, .null, .null, .int 0, .int 0])) :: (((qI, rfs (fun j => some (b 6 (2 + j))) C.2.2.2 2) :: ((((((qR, rfs (fun j => some (a 2 (0 + j))) C.2.2.1 8) :: ([] ++ ldL (wRow C) 2 0 a 8)) ++ wTape C qT uT) ++ wTown C q0 u0) ++ wTown C q1 u1) ++ ldL (wTown C) 6 2 b 2)) ++ wActs C qA uA)) H := hP
  have hD : va_D A ((h0, .inr (4, [.ref qR, .ref qT, .ref q0, .ref q1, .ref qI, .null, .null, .int 0, .int 0])) :: (((qI, rfs (fun j => some (b 6 (2 + j))) C.2.2.2 2) :: ((((((qR, rfs (fun j => some (a 2 (0 + j))) C.2.2.1 8) :: ([] ++ ldL (wRow C) 2 0 a 8)) ++ wTape C qT uT) ++ wTown C q0 u0) ++ wTown C q1 u1) ++ ldL (wTown C) 6 2 b 2)) ++ wActs C qA uA)) := hD
  refine put_f (ci := 4) (k := 5) (ty := .object RX0) hx hb hown hts hK hin hP hD hS (by omega) (by decide) ⟨rfl, rfl⟩ wf_4_5 (by decide +kernel) rfl rfl (Nat.le_of_ble_eq_true rfl) dr4_115 (fun H locs hP hD hS => ?_)
  have hP : va_P D vwCl ((h0, .inr (4, [.ref qR, .ref qT, .ref q0, .ref q1, .ref qI, .ref qA, .null, .int 0, .int 0])) :: (((qI, rfs (fun j => some (b 6 (2 + j))) C.2.2.2 2) :: ((((((qR, rfs (fun j => some (a 2 (0 + j))) C.2.2.1 8) :: ([] ++ ldL (wRow C) 2 0 a 8)) ++ wTape C qT uT) ++ wTown C q0 u0) ++ wTown C q1 u1) ++ ldL (wTown C) 6 2 b 2)) ++ wActs C qA uA)) H := hP
  have hD : va_D A ((h0, .inr (4, [.ref qR, .ref qT, .ref q0, .ref q1, .ref qI, .ref qA, .null, .int 0, .int 0])) :: (((qI, rfs (fun j => some (b 6 (2 + j))) C.2.2.2 2) :: ((((((qR, rfs (fun j => some (a 2 (0 + j))) C.2.2.1 8) :: ([] ++ ldL (wRow C) 2 0 a 8)) ++ wTape C qT uT) ++ wTown C q0 u0) ++ wTown C q1 u1) ++ ldL (wTown C) 6 2 b 2)) ++ wActs C qA uA)) := hD
  refine lv_aload_n hx hb dr4_118 rfl (lv_at hl 1 rfl) ?_
  refine lv_bipush (v := nI 16) hx hb dr4_119 (by decide) ?_
  refine arr_f (ci := 4) (k := 6) (N := 16) hx hb hown hts hK hin hP hD hS hA (by omega) (by decide) ⟨rfl, rfl⟩ wf_4_6 (by decide +kernel) (Nat.le_of_ble_eq_true rfl) rfl (by omega) wm_ai ⟨(Nat.le_of_ble_eq_true rfl), (Nat.le_of_ble_eq_true rfl)⟩ dr4_121 dr4_123 (fun q15 H locs hP hD hS => ?_)
  refine W.widen (k := 191) (n := 1780) (Nat.le_of_ble_eq_true rfl) (Nat.le_of_ble_eq_true rfl) ?_
  have eA : wActs C qA uA = wActs C qA (adF h0 (adU a b uA u0 u1 qR qT (uT 5 0) q0 q1 qI qA q15)) := wActs_c rfl (fun k i hk hi => by
    have e := adU_hi (a := a) (b := b) (uA := uA) (u0 := u0) (u1 := u1) (qR := qR) (qT := qT) (q5 := uT 5 0) (q0 := q0) (q1 := q1) (qI := qI) (qA := qA) (q15 := q15) hk hi
    rcases (by omega : k = 6 ∨ k = 7 ∨ k = 8 ∨ k = 9 ∨ k = 10 ∨ k = 11) with rfl | rfl | rfl | rfl | rfl | rfl <;> exact e.symm)
  rw [eA] at hP hD
  have hP := P_ref (g := fun j => some (adF h0 (adU a b uA u0 u1 qR qT (uT 5 0) q0 q1 qI qA q15) 6 (2 + j))) hP (fun j hj => by
    rcases (by omega : j = 0 ∨ j = 1) with rfl | rfl <;> rfl)
  have hD := D_ref (g := fun j => some (adF h0 (adU a b uA u0 u1 qR qT (uT 5 0) q0 q1 qI qA q15) 6 (2 + j))) hD
  refine W.vret hx hb hr (fun t ht hW => ⟨⟨adU a b uA u0 u1 qR qT (uT 5 0) q0 q1 qI qA q15, rfl, trivial, ?_⟩, hS.F ht⟩) hS.2.2 dr4_126
  show va_P D vwCl (wFoot C h0 (adU a b uA u0 u1 qR qT (uT 5 0) q0 q1 qI qA q15)) t.heap ∧ va_D A (wFoot C h0 (adU a b uA u0 u1 qR qT (uT 5 0) q0 q1 qI qA q15))
  rw [← foot_eq, ht]
  exact ⟨hP, hD⟩
