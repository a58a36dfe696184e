/-! CUTS: from a place to the next places of a list, with locals forgotten there -/
def leV (a b : AV) : Prop := a = b ∨ (a = zU ∧ cat1 b = true)
def leL (L1 L2 : List AV) : Prop := L1.length = L2.length ∧ ∀ n, leV (nthV L1 n) (nthV L2 n)
theorem leV_t {a b c : AV} (h : leV a b) (g : leV b c) : leV a c := by
  rcases h with rfl | ⟨h1, h2⟩
  · exact g
  · rcases g with rfl | ⟨g1, g2⟩
    · exact Or.inr ⟨h1, h2⟩
    · exact Or.inr ⟨h1, g2⟩
theorem leL_r (L : List AV) : leL L L := ⟨rfl, fun _ => Or.inl rfl⟩
theorem leL_t {a b c : List AV} (h : leL a b) (g : leL b c) : leL a c := ⟨h.1.trans g.1, fun n => leV_t (h.2 n) (g.2 n)⟩
theorem inB_of : ∀ (L : List AV) (n : Nat), n < L.length → inB L n = true
  | [], _, h => absurd h (by simp)
  | _ :: _, 0, _ => rfl
  | _ :: l, n + 1, h => inB_of l n (by simpa using h)
theorem inB_le {L1 L2 : List AV} (h : leL L1 L2) {n : Nat} (g : inB L1 n = true) : inB L2 n = true := inB_of _ _ (by rw [← h.1]; exact inB_lt _ _ g)
theorem pre1_le {L1 L2 : List AV} (h : leL L1 L2) {n : Nat} (g : pre1 L1 n = true) : pre1 L2 n = true := by
  cases n with
  | zero => rfl
  | succ j =>
    have g : cat1 (nthV L1 j) = true := g
    show cat1 (nthV L2 j) = true
    rcases h.2 j with q | q
    · rw [← q]; exact g
    · exact q.2
theorem nthV_out : ∀ (L : List AV) (n : Nat), L.length ≤ n → nthV L n = zU
  | [], _, _ => rfl
  | _ :: _, 0, h => absurd h (by simp)
  | _ :: l, n + 1, h => nthV_out l n (by simpa using h)
theorem set_le {L1 L2 : List AV} (h : leL L1 L2) (n : Nat) (v : AV) : leL (setV L1 n v) (setV L2 n v) := by
  refine ⟨by rw [setV_len, setV_len]; exact h.1, fun m => ?_⟩
  by_cases e : m = n
  · subst e
    by_cases hl : m < L1.length
    · rw [setV_s _ _ _ (inB_of _ _ hl), setV_s _ _ _ (inB_of _ _ (by rw [← h.1]; exact hl))]
      exact Or.inl rfl
    · rw [nthV_out _ _ (by rw [setV_len]; omega), nthV_out (setV L2 m v) _ (by rw [setV_len, ← h.1]; omega)]
      exact Or.inl rfl
  · rw [setV_n _ _ _ _ e, setV_n _ _ _ _ e]
    exact h.2 m
theorem gI_le {a b : AV} {K K' : Int32 → Prop} (h : leV a b) (hk : ∀ x, K x → K' x) (g : gI a K) : gI b K' := by
  rcases h with rfl | ⟨rfl, -⟩
  · exact gI_m hk g
  · exact g.elim
theorem gJ_le {a b : AV} {K K' : Int64 → Prop} (h : leV a b) (hk : ∀ x, K x → K' x) (g : gJ a K) : gJ b K' := by
  rcases h with rfl | ⟨rfl, -⟩
  · exact gJ_m hk g
  · exact g.elim
theorem gR_le {a b : AV} {K K' : Nat → Nat → Prop} (h : leV a b) (hk : ∀ k i, K k i → K' k i) (g : gR a K) : gR b K' := by
  rcases h with rfl | ⟨rfl, -⟩
  · exact gR_m hk g
  · exact g.elim
theorem tB_le {b b' : Bool} {P P' : Prop} (hb : b = true → b' = true) (h : P → P') (a : tB b P) : tB b' P' := by
  obtain ⟨h1, h2⟩ := tB_v a
  rw [hb h1]
  exact h h2
theorem st_le {L1 L2 : List AV} (h : leL L1 L2) {n k : Nat} : (pre1 L1 n && inB L1 k) = true → (pre1 L2 n && inB L2 k) = true := by
  intro g
  rw [Bool.and_eq_true] at g ⊢
  exact ⟨pre1_le h g.1, inB_le h g.2⟩
set_option maxHeartbeats 4000000 in
theorem stp_le {call : Call} {rt : Nat} {Q : Option AV → Mem → Prop} {X X' : Fr → Mem → Prop} {E : Ent} {pc : Nat} {L L2 st : List AV} {M : Mem}
    (hc : Mono call) (hX : ∀ pc st M L1 L2, leL L1 L2 → X (pc, L1, st) M → X' (pc, L2, st) M) (hl : leL L L2) (h : stp call rt Q X E pc L st M) : stp call rt Q X' E pc L2 st M := by
  unfold stp at h ⊢
  cases he : E.1 <;> rw [he] at h <;> first
    | exact h.elim
    | exact hX _ _ _ _ _ hl h
    | exact gI_le (hl.2 _) (fun _ => hX _ _ _ _ _ hl) h
    | exact gJ_le (hl.2 _) (fun _ => hX _ _ _ _ _ hl) h
    | exact gR_le (hl.2 _) (fun _ _ => hX _ _ _ _ _ hl) h
    | exact sI_m (fun _ _ => hX _ _ _ _ _ hl) h
    | exact sJ_m (fun _ _ => hX _ _ _ _ _ hl) h
    | exact sII_m (fun _ _ _ => hX _ _ _ _ _ hl) h
    | exact sJJ_m (fun _ _ _ => hX _ _ _ _ _ hl) h
    | exact s1_m (fun _ _ => hX _ _ _ _ _ hl) h
    | exact s2_m (fun _ _ _ => hX _ _ _ _ _ hl) h
    | exact sR_m (fun _ _ _ => tB_m (hX _ _ _ _ _ hl)) h
    | exact sI_m (fun _ _ => tB_le (st_le hl) (hX _ _ _ _ _ (set_le hl _ _))) h
    | exact sR_m (fun _ _ _ => tB_le (st_le hl) (hX _ _ _ _ _ (set_le hl _ _))) h
    | exact sJ_m (fun _ _ => tB_le (st_le hl) (hX _ _ _ _ _ (set_le (set_le hl _ _) _ _))) h
    | exact gI_le (hl.2 _) (fun _ => tB_le (st_le hl) (hX _ _ _ _ _ (set_le hl _ _))) h
    | exact sII_m (fun _ _ _ q => ⟨q.1, hX _ _ _ _ _ hl q.2⟩) h
    | exact sJJ_m (fun _ _ _ q => ⟨q.1, hX _ _ _ _ _ hl q.2⟩) h
    | exact sI_m (fun _ _ => brc_m (hX _ _ _ _ _ hl) (hX _ _ _ _ _ hl)) h
    | exact sII_m (fun _ _ _ => brc_m (hX _ _ _ _ _ hl) (hX _ _ _ _ _ hl)) h
    | exact sIR_m (fun _ _ _ _ => tB_m (hX _ _ _ _ _ hl)) h
    | exact sIR_m (fun _ _ _ _ => tB_m (fun q => ⟨q.1, hX _ _ _ _ _ hl q.2⟩)) h
    | exact sIIR_m (fun _ _ _ _ _ => tB_m (fun q => ⟨q.1, hX _ _ _ _ _ hl q.2⟩)) h
    | exact sIIR_m (fun _ _ _ _ _ => tB_m (fun q => ⟨q.1, q.2.1, hX _ _ _ _ _ hl q.2.2⟩)) h
    | exact sI_m (fun _ _ => swl_m (fun _ => hX _ _ _ _ _ hl) _) h
    | exact tB_m (hc _ _ _ _ _ (fun _ _ => kO_m (fun _ => hX _ _ _ _ _ hl))) h
    | exact sI_m (fun _ _ => nilS_m (tB_m (zB_m (fun q => q)))) h
    | exact nilS_m (tB_m (fun q => q)) h
    | (revert h; dsimp only; cases Nat.beq (a1 E.2.2.1) 999
       · cases Nat.beq (a1 E.2.2.1) 998
         · cases Nat.beq (a1 E.2.2.1) 997
           · exact tB_m (hc _ _ _ _ _ (fun _ _ => kO_m (fun _ => hX _ _ _ _ _ hl)))
           · exact sII_m (fun _ _ _ => tB_m (hX _ _ _ _ _ hl))
         · exact sII_m (fun _ _ _ => tB_m (hX _ _ _ _ _ hl))
       · exact sCp_m (fun _ _ _ _ _ _ _ _ => tB_m (fun q => ⟨q.1, q.2.1, q.2.2.1, q.2.2.2.1, q.2.2.2.2.1, hX _ _ _ _ _ hl q.2.2.2.2.2⟩)))
theorem WP.le {call : Call} {rt : Nat} {T : Nat → Ent} {Q : Option AV → Mem → Prop} {pc : Nat} {L1 L2 st : List AV} {M : Mem} (hc : Mono call) (h : WP call rt T Q (pc, L1, st) M) (hL : leL L1 L2) : WP call rt T Q (pc, L2, st) M :=
  h (fun F M => ∀ L2, leL F.2.1 L2 → WP call rt T Q (F.1, L2, F.2.2) M) (fun F M q L2 hL => WP.fold hc (stp_le hc (fun _ _ _ _ L2 hl q => q L2 hl) hL q)) L2 hL
def clr1 (L : List AV) (n : Nat) : List AV := match cat1 (nthV L n) with
  | true => setV L n zU
  | false => L
def clr : List Nat → List AV → List AV
  | [], L => L
  | n :: ns, L => clr ns (clr1 L n)
theorem clr1_le (L : List AV) (n : Nat) : leL (clr1 L n) L := by
  unfold clr1
  cases hb : cat1 (nthV L n) with
  | false => exact leL_r L
  | true =>
    refine ⟨setV_len _ _ _, fun m => ?_⟩
    by_cases e : m = n
    · subst e
      by_cases hl : m < L.length
      · rw [setV_s _ _ _ (inB_of _ _ hl)]
        exact Or.inr ⟨rfl, hb⟩
      · rw [nthV_out _ _ (by rw [setV_len]; omega), nthV_out L _ (by omega)]
        exact Or.inl rfl
    · rw [setV_n _ _ _ _ e]
      exact Or.inl rfl
theorem clr_le : ∀ (ns : List Nat) (L : List AV), leL (clr ns L) L
  | [], L => leL_r L
  | n :: ns, L => leL_t (clr_le ns (clr1 L n)) (clr1_le L n)
def cutN : List (Nat × List Nat) → Nat → Option (List Nat)
  | [], _ => none
  | (p, ns) :: l, pc => bif Nat.beq pc p then some ns else cutN l pc
/-- run to the next cut -/
def rto (call : Call) (rt : Nat) (T : Nat → Ent) (Q : Option AV → Mem → Prop) (cut : List (Nat × List Nat)) : Nat → Fr → Mem → Prop
  | 0 => WP call rt T Q
  | n + 1 => fun F M => match cutN cut F.1 with
    | some ns => WP call rt T Q (F.1, clr ns F.2.1, F.2.2) M
    | none => stp call rt Q (rto call rt T Q cut n) (T F.1) F.1 F.2.1 F.2.2 M
theorem rto_s {call : Call} {rt : Nat} {T : Nat → Ent} {Q : Option AV → Mem → Prop} {cut : List (Nat × List Nat)} (hc : Mono call) : ∀ (n : Nat) {F : Fr} {M : Mem}, rto call rt T Q cut n F M → WP call rt T Q F M
  | 0, _, _, h => h
  | n + 1, F, M, h => by
    unfold rto at h
    cases hb : cutN cut F.1 with
    | some ns => rw [hb] at h; exact WP.le hc h (clr_le ns _)
    | none =>
      rw [hb] at h
      exact WP.fold hc (stp_m hc (fun _ _ q => q) (fun _ _ q => rto_s hc n q) h)
/-- from a place to the next cuts -/
theorem WP.go {call : Call} {rt : Nat} {T : Nat → Ent} {Q : Option AV → Mem → Prop} (hc : Mono call) (cut : List (Nat × List Nat)) (n : Nat) {F : Fr} {M : Mem} (h : stp call rt Q (rto call rt T Q cut n) (T F.1) F.1 F.2.1 F.2.2 M) : WP call rt T Q F M :=
  WP.fold hc (stp_m hc (fun _ _ q => q) (fun _ _ q => rto_s hc n q) h)
theorem gO_m {r : Option AV} {K K' : Int32 → Prop} (h : ∀ v, K v → K' v) (a : gO r K) : gO r K' := by
  unfold gO at a ⊢
  split at a
  · exact h _ a
  · exact a.elim
theorem gN_m {r : Option AV} {P P' : Prop} (h : P → P') (a : gN r P) : gN r P' := by
  unfold gN at a ⊢
  split at a
  · exact h a
  · exact a.elim
