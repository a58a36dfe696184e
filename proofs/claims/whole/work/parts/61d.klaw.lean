/-! THE LAW'S BYTES -/
theorem kl_1080 : ckL 1080 60 = true := by decide +kernel
theorem kl_1140 : ckL 1140 60 = true := by decide +kernel
theorem kl_1200 : ckL 1200 60 = true := by decide +kernel
theorem kl_1260 : ckL 1260 48 = true := by decide +kernel
theorem ckL_v {a n pc : Nat} (h : ckL a n = true) (h1 : a ≤ pc) (h2 : pc < a + n) : okE 6 code pc (U_L_law pc) = true := by
  have := List.all_eq_true.mp h (pc - a) (List.mem_range.mpr (by omega))
  rw [show a + (pc - a) = pc by omega] at this
  exact this
theorem ok_law (pc : Nat) : okE 6 code pc (T_L_law pc) = true := by
  unfold T_L_law gtE
  cases hb : Nat.blt pc 1308 with
  | false => rfl
  | true =>
    have hlt : pc < 1308 := Nat.le_of_ble_eq_true hb
    show okE 6 code pc (U_L_law pc) = true
    by_cases c0 : pc < 60
    · exact ckL_v kl_0 (by omega) (by omega)
    by_cases c60 : pc < 120
    · exact ckL_v kl_60 (by omega) (by omega)
    by_cases c120 : pc < 180
    · exact ckL_v kl_120 (by omega) (by omega)
    by_cases c180 : pc < 240
    · exact ckL_v kl_180 (by omega) (by omega)
    by_cases c240 : pc < 300
    · exact ckL_v kl_240 (by omega) (by omega)
    by_cases c300 : pc < 360
    · exact ckL_v kl_300 (by omega) (by omega)
    by_cases c360 : pc < 420
    · exact ckL_v kl_360 (by omega) (by omega)
    by_cases c420 : pc < 480
    · exact ckL_v kl_420 (by omega) (by omega)
    by_cases c480 : pc < 540
    · exact ckL_v kl_480 (by omega) (by omega)
    by_cases c540 : pc < 600
    · exact ckL_v kl_540 (by omega) (by omega)
    by_cases c600 : pc < 660
    · exact ckL_v kl_600 (by omega) (by omega)
    by_cases c660 : pc < 720
    · exact ckL_v kl_660 (by omega) (by omega)
    by_cases c720 : pc < 780
    · exact ckL_v kl_720 (by omega) (by omega)
    by_cases c780 : pc < 840
    · exact ckL_v kl_780 (by omega) (by omega)
    by_cases c840 : pc < 900
    · exact ckL_v kl_840 (by omega) (by omega)
    by_cases c900 : pc < 960
    · exact ckL_v kl_900 (by omega) (by omega)
    by_cases c960 : pc < 1020
    · exact ckL_v kl_960 (by omega) (by omega)
    by_cases c1020 : pc < 1080
    · exact ckL_v kl_1020 (by omega) (by omega)
    by_cases c1080 : pc < 1140
    · exact ckL_v kl_1080 (by omega) (by omega)
    by_cases c1140 : pc < 1200
    · exact ckL_v kl_1140 (by omega) (by omega)
    by_cases c1200 : pc < 1260
    · exact ckL_v kl_1200 (by omega) (by omega)
    exact ckL_v kl_1260 (by omega) (by omega)
