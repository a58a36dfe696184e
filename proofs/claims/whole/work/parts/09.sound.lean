/-! SOUNDNESS: what the abstract machine promises of a method, the machine keeps -/
def wpd : Nat → Call
  | 0 => fun _ _ _ _ => False
  | d + 1 => fun y av M Q => WP (wpd d) (rtO y) (tbO y) Q (0, entL (mlO y) av, []) M
theorem wpd_m : ∀ d, Mono (wpd d)
  | 0 => fun _ _ _ _ _ _ h => h.elim
  | d + 1 => fun _ _ _ _ _ hP h => WP.m (wpd_m d) hP h
theorem wpd_le : ∀ {d d' : Nat}, d ≤ d' → ∀ (y : Nat) (a : List AV) (M : Mem) (P : Option AV → Mem → Prop), wpd d y a M P → wpd d' y a M P
  | 0, _, _, _, _, _, _, h => h.elim
  | _ + 1, 0, h, _, _, _, _, _ => absurd h (by omega)
  | d + 1, d' + 1, h, _, _, _, _, q => WP.m (fun y a M P P' hP z => wpd_m d' y a M P P' hP (wpd_le (Nat.le_of_succ_le_succ h) y a M P z)) (fun _ _ z => z) q
def rmD (d : Nat) : Room := { frames := d, cells := 0, slots := 0, locals := 60 * d }
section Snd3
variable {p : Program} {l : Launch} {e : Env} {R : Room} {s : State} {m : MethodId} {args : Array Value} {below : List Frame} {meth : Method} {c : Code} {cells slots : Nat} {Qw : State → Prop} {own : Nat} {bs : ByteArray} {nL : Nat} {D : va_G} {ad : Nat → Nat → Nat} {C : CI4} {A : Nat → Prop} {S : Mem}
variable {call : Call} {rt : Nat} {Q : Option AV → Mem → Prop} {pc : Nat} {L st : List AV} {M : Mem}
theorem step_all {E : Ent} {rm : Room} (hC : Ctx p s m args c own bs nL D ad C A S) (hcall : ∀ y av M P, call y av M P → y < 194 → (∀ v ∈ av, okv v) → av.all cat1 = true → av.length = naO y → MetA l D ad C A S rm y av M P) (hrm : rm.cells = 0 ∧ rm.slots = 0 ∧ rm.frames + 1 ≤ R.frames ∧ 32 + rm.locals ≤ R.locals) (hcs : cells ≤ R.cells ∧ slots ≤ R.slots)
    (hR : ∀ (v : Int32) (M : Mem) (H : Heap) (locs : List Loc) (ls : Array Slot) (pc : Nat), decode bs pc = .ok (.ireturn, 1) → 0 < rt → (rt = 2 → v = 0 ∨ v = 1) → Q (some (zI v)) M → Wd D ad C A S M H → va_S A s.heap H locs → W p l e R s m args below meth c H locs cells slots Qw (F0 m pc ls [.int v]))
    (hV : ∀ (M : Mem) (H : Heap) (locs : List Loc) (ls : Array Slot) (pc : Nat), decode bs pc = .ok (.return_, 1) → rt = 0 → Q none M → Wd D ad C A S M H → va_S A s.heap H locs → W p l e R s m args below meth c H locs cells slots Qw (F0 m pc ls []))
    (hE : okE own bs pc E = true) (h : stp call rt Q (XS p l e R s m args below meth c cells slots Qw nL D ad C A S) E pc L st M) : (XS p l e R s m args below meth c cells slots Qw nL D ad C A S) (pc, L, st) M := by
  obtain ⟨ins, len, aux, kn⟩ := E
  cases ins
  case iadd => exact st_iadd hC hE h
  case isub => exact st_isub hC hE h
  case imul => exact st_imul hC hE h
  case iand => exact st_iand hC hE h
  case ior => exact st_ior hC hE h
  case ixor => exact st_ixor hC hE h
  case ishl => exact st_ishl hC hE h
  case ishr => exact st_ishr hC hE h
  case iushr => exact st_iushr hC hE h
  case idiv => exact st_idiv hC hE h
  case irem => exact st_irem hC hE h
  case lrem => exact st_lrem hC hE h
  case lmul => exact st_lmul hC hE h
  case lcmp => exact st_lcmp hC hE h
  case ineg => exact st_ineg hC hE h
  case i2l => exact st_i2l hC hE h
  case i2b => exact st_i2b hC hE h
  case i2s => exact st_i2s hC hE h
  case l2i => exact st_l2i hC hE h
  case iconst => exact st_iconst hC hE h
  case bipush => exact st_bipush hC hE h
  case sipush => exact st_sipush hC hE h
  case lconst => exact st_lconst hC hE h
  case ldc => exact st_ldc hC hE h
  case ldc_w => exact st_ldc_w hC hE h
  case ldc2_w => exact st_ldc2_w hC hE h
  case iload => exact st_iload hC hE h
  case iload_n => exact st_iload_n hC hE h
  case lload => exact st_lload hC hE h
  case aload => exact st_aload hC hE h
  case aload_n => exact st_aload_n hC hE h
  case istore => exact st_istore hC hE h
  case istore_n => exact st_istore_n hC hE h
  case astore => exact st_astore hC hE h
  case astore_n => exact st_astore_n hC hE h
  case lstore => exact st_lstore hC hE h
  case iinc => exact st_iinc hC hE h
  case dup => exact st_dup hC hE h
  case pop => exact st_pop hC hE h
  case dup2 => exact st_dup2 hC hE h
  case goto => exact st_goto hC hE h
  case ifCond => exact st_ifCond hC hE h
  case if_icmp => exact st_if_icmp hC hE h
  case getfield => exact st_getfield hC hE h
  case putfield => exact st_putfield hC hE h
  case getstatic => exact st_getstatic hC hE h
  case iaload => exact st_iaload hC hE h
  case iastore => exact st_iastore hC hE h
  case baload => exact st_baload hC hE h
  case bastore => exact st_bastore hC hE h
  case aaload => exact st_aaload hC hE h
  case arraylength => exact st_arraylength hC hE h
  case tableswitch => exact st_tableswitch hC hE h
  case lookupswitch => exact st_lookupswitch hC hE h
  case invokevirtual => exact st_invokevirtual hC hcall hrm hcs hE h
  case invokestatic => exact st_invokestatic hC hcall hrm hcs hE h
  case ireturn =>
    obtain ⟨hd, hl, -⟩ := okE_v hE rfl
    have hl : 1 = len := hl.resolve_left (by simp [elen])
    subst hl
    obtain ⟨v, r, rfl, h⟩ := sI_v h
    obtain ⟨rfl, h⟩ := nilS_v h
    obtain ⟨hr, h⟩ := tB_v h
    obtain ⟨h1, h2⟩ := zB_v h
    intro H locs ls hW hS hL o1 o2
    exact hR v M H locs ls pc hd (Nat.le_of_ble_eq_true hr) h1 h2 hW hS
  case return_ =>
    obtain ⟨hd, hl, -⟩ := okE_v hE rfl
    have hl : 1 = len := hl.resolve_left (by simp [elen])
    subst hl
    obtain ⟨rfl, h⟩ := nilS_v h
    obtain ⟨hr, h2⟩ := tB_v h
    intro H locs ls hW hS hL o1 o2
    exact hV M H locs ls pc hd (Nat.eq_of_beq_eq_true hr) h2 hW hS
  all_goals exact h.elim
end Snd3
theorem reK_v {r : Option FieldType} : ∀ {k : Nat}, reK r k = true → (k = 0 ∧ r = none) ∨ (k = 1 ∧ r = some .int) ∨ (k = 2 ∧ r = some .boolean)
  | 0, h => Or.inl ⟨rfl, of_decide_eq_true h⟩
  | 1, h => Or.inr (Or.inl ⟨rfl, of_decide_eq_true h⟩)
  | k + 2, h => by
    have h : (Nat.beq (k + 2) 2 && decide (r = some .boolean)) = true := h
    rw [Bool.and_eq_true] at h
    exact Or.inr (Or.inr ⟨Nat.eq_of_beq_eq_true h.1, of_decide_eq_true h.2⟩)
theorem sl_len {ad : Nat → Nat → Nat} : ∀ av : List AV, av.all cat1 = true → (lg_sl (av.map (cv ad))).length = av.length
  | [], _ => rfl
  | v :: l, h => by
    rw [List.all_cons, Bool.and_eq_true] at h
    have h1 := cat_cv (ad := ad) h.1
    have ih := sl_len (ad := ad) l h.2
    unfold lg_sl at ih ⊢
    rw [List.map_cons, List.flatMap_cons, List.length_append, ih, if_neg (by rw [h1]; omega)]
    simp
    omega
theorem args_mem {ad : Nat → Nat → Nat} : ∀ (av : List AV) (b j : Nat), av.all cat1 = true → j < av.length → (b + j, cv ad (nthV av j)) ∈ lv_args b (av.map (cv ad))
  | [], _, _, _, h => absurd h (by simp)
  | _ :: _, b, 0, _, _ => List.mem_cons_self
  | v :: l, b, j + 1, h, hj => by
    rw [List.all_cons, Bool.and_eq_true] at h
    have h1 := cat_cv (ad := ad) h.1
    have ih := args_mem (ad := ad) l (b + 1) j h.2 (by simpa using hj)
    show (b + (j + 1), cv ad (nthV l j)) ∈ (b, cv ad v) :: lv_args (if (cv ad v).category = 2 then b + 2 else b + 1) (l.map (cv ad))
    rw [if_neg (by rw [h1]; omega)]
    rw [show b + (j + 1) = b + 1 + j by omega]
    exact List.mem_cons_of_mem _ ih
theorem ent_lo : ∀ (av w : List AV) (j : Nat), j < av.length → nthV (av ++ w) j = nthV av j
  | [], _, _, h => absurd h (by simp)
  | _ :: _, _, 0, _ => rfl
  | _ :: l, w, j + 1, h => ent_lo l w j (by simpa using h)
theorem rep_u : ∀ (n j : Nat), nthV (List.replicate n zU) j = zU
  | 0, _ => rfl
  | _ + 1, 0 => rfl
  | n + 1, j + 1 => rep_u n j
theorem ent_hi : ∀ (av : List AV) (n j : Nat), av.length ≤ j → nthV (av ++ List.replicate n zU) j = zU
  | [], n, j, _ => rep_u n j
  | _ :: _, _, 0, h => absurd h (by simp)
  | _ :: l, n, j + 1, h => ent_hi l n j (by simpa using h)
set_option maxHeartbeats 1000000 in
theorem snd (l : Launch) (D : va_G) (ad : Nat → Nat → Nat) (C : CI4) (A : Nat → Prop) (S : Mem) : ∀ (d y : Nat) (av : List AV) (M : Mem) (P : Option AV → Mem → Prop), wpd d y av M P → y < 194 → (∀ v ∈ av, okv v) → av.all cat1 = true → av.length = naO y → MetA l D ad C A S (rmD d) y av M P
  | 0, _, _, _, _, h, _, _, _, _ => h.elim
  | d + 1, y, av, M, P, h, hy, hok, hc1, hlen => by
    obtain ⟨u1, u2, u3, u4, u5, u6, u7⟩ := mr_use hy
    refine Met.ofW (cc := byO y) (maxL := mlO y) (ret := reO y) u1 rfl ?_
    intro p e s m args below meth c s₁ B hml hv
    obtain ⟨rfl, hW, hK, hnw, hst⟩ := hv
    have hts0 := atoms_spec (ws := coW y :: gtb) B.pre
    have hts : ∀ w ∈ gtb, w.before (av.map (cv ad)).toArray s = true := fun w hw => hts0 w (List.mem_cons_of_mem _ hw)
    have hown := findClass_of_methodNamed B.named
    rw [u3] at hown
    have hbr := B.returns
    have hlocks := B.notSynchronized
    rw [lg_entry_eq]
    have hl := lv_entry (av.map (cv ad)) (n := mlO y) (by rw [sl_len av hc1, hlen]; exact na_ml y hy)
    generalize (lg_sl (av.map (cv ad)) ++ List.replicate (mlO y - (lg_sl (av.map (cv ad))).length) Slot.unset).toArray = ls at hl ⊢
    have hLH : LH ad ls (mlO y) (entL (mlO y) av) := by
      refine ⟨hl.1, hl.2.1, ?_, fun n hn hu => ?_⟩
      · unfold entL
        have := na_ml y hy
        rw [List.length_append, List.length_replicate]
        omega
      · unfold entL at hu ⊢
        by_cases hj : n < av.length
        · rw [ent_lo _ _ _ hj] at hu ⊢
          have := args_mem (ad := ad) av 0 n hc1 hj
          rw [Nat.zero_add] at this
          exact hl.2.2 _ this
        · rw [ent_hi _ _ _ (Nat.le_of_not_lt hj)] at hu
          cases hu
    have hoL : ∀ v ∈ entL (mlO y) av, okv v := by
      intro v hv
      rcases List.mem_append.mp hv with z | z
      · exact hok v z
      · rw [List.eq_of_mem_replicate z]; trivial
    have hX := h (XS p l e (headSpec (coW y :: gtb) (rmD (d + 1))).room s m (av.map (cv ad)).toArray below meth c 0 0 (MQ below (QcA D ad C A S P) (av.map (cv ad)).toArray s 0 0 A) (mlO y) D ad C A S) (fun F M q => by
      obtain ⟨pc, L, st⟩ := F
      refine step_all (own := owO y) (bs := byO y) (rm := rmD d) ⟨B.exec, B.bytes, hml, hown, hts, hK, hnw, hst⟩ (fun y av M P q1 q2 q3 q4 q5 => snd l D ad C A S d y av M P q1 q2 q3 q4 q5) ⟨rfl, rfl, Nat.le_refl _, (by show 32 + 60 * d ≤ 60 * (d + 1); omega)⟩ ⟨Nat.zero_le _, Nat.zero_le _⟩ ?_ ?_ (u7 pc) q
      · intro v M1 H1 locs1 ls1 pc1 hd1 hr0 hr2 hQ hW1 hS1
        rcases reK_v u5 with ⟨z, -⟩ | ⟨-, z⟩ | ⟨z2, z⟩
        · omega
        · exact W.iret B.exec B.bytes (hbr.trans z) (fun t ht _ => ⟨⟨some (zI v), M1, rfl, trivial, hQ, by rw [ht]; exact hW1⟩, hS1.F ht⟩) hS1.2.2 hd1 hlocks
        · refine W.zret B.exec B.bytes (hbr.trans z) ?_ (fun t ht _ => ⟨⟨some (zI v), M1, rfl, trivial, hQ, by rw [ht]; exact hW1⟩, hS1.F ht⟩) hS1.2.2 hd1 hlocks
          rcases hr2 z2 with rfl | rfl
          · decide +kernel
          · decide +kernel
      · intro M1 H1 locs1 ls1 pc1 hd1 hr0 hQ hW1 hS1
        rcases reK_v u5 with ⟨-, z⟩ | ⟨z, -⟩ | ⟨z, -⟩
        · exact W.vret B.exec B.bytes (hbr.trans z) (fun t ht _ => ⟨⟨none, M1, rfl, trivial, hQ, by rw [ht]; exact hW1⟩, hS1.F ht⟩) hS1.2.2 hd1 hlocks
        · omega
        · omega)
    exact hX s.heap [] ls hW va_S.rf hLH hoL (fun v hv => absurd hv List.not_mem_nil)

