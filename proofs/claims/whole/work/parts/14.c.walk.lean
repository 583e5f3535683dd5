theorem okX6_weightOf {N d : Nat} {l0 : Int32} {l1 : Int32} {l2 : Int32} {F : FF} {res : Int64 × FF} (h : fX6_weightOf N l0 l1 l2 F = some res) : FV cX6_weightOf 4 RX6 (d + 1) (some .long) none 0 [.int l0, .int l1, .int l2, .null] [] F (RJ res) := by
  unfold fX6_weightOf at h
  refine V_iload_n dX6_weightOf_0 rfl rfl rfl ?_
  refine P_callS dX6_weightOf_1 cl_X6_251 (cq_J6_bitCount_0f7a4 (d := d)) (As := [.int l0]) (st := []) rfl rfl (Nat.le_of_ble_eq_true rfl) rfl ?_
  refine V_istore_n dX6_weightOf_4 rfl (by decide) rfl (ls' := [.int l0, .int l1, .int l2, .int (pJ6_bitCount_0f7a4 l0 F)]) rfl rfl ?_
  refine V_iload_n dX6_weightOf_5 rfl rfl rfl ?_
  refine V_iload_n dX6_weightOf_6 rfl rfl rfl ?_
  refine A_callS eJ dX6_weightOf_7 cl_X6_243 (As := [.int l1, .int (pJ6_bitCount_0f7a4 l0 F)]) (st := []) rfl rfl (Nat.le_of_ble_eq_true rfl) rfl h (fun _ _ h => cp_X6_power (d := d) h) fun v1 F1 h => ?_
  refine V_bipush dX6_weightOf_10 cb_10 rfl ?_
  refine V_iload_n dX6_weightOf_12 rfl rfl rfl ?_
  refine V_isub dX6_weightOf_13 rfl ?_
  refine V_iload_n dX6_weightOf_14 rfl rfl rfl ?_
  refine V_iload_n dX6_weightOf_15 rfl rfl rfl ?_
  refine V_isub dX6_weightOf_16 rfl ?_
  refine A_callS eJ dX6_weightOf_17 cl_X6_243 (As := [.int (10 - l1), .int (l2 - (pJ6_bitCount_0f7a4 l0 F))]) (st := [.long v1]) rfl rfl (Nat.le_of_ble_eq_true rfl) rfl h (fun _ _ h => cp_X6_power (d := d) h) fun v2 F2 h => ?_
  refine V_lmul dX6_weightOf_20 rfl ?_
  exact A_lreturn dX6_weightOf_21 rfl h
theorem cp_X6_weightOf {N d : Nat} {l0 : Int32} {l1 : Int32} {l2 : Int32} {F F' : FF} {r : Int64} (h : fX6_weightOf N l0 l1 l2 F = some (r, F')) : CP (d + 1) mX6_weightOf [.int l0, .int l1, .int l2] F (fun r' F'' => r' = eJ r ∧ F'' = F') := CP_J rfl (Nat.le_of_ble_eq_true rfl) (okX6_weightOf h)
theorem okX0_paidWithout_b33 {N d : Nat} {k6 : Int32 → Int32 → FF → Option (Int32 × FF)} {l0 : Nat} {l1 : Int32} {l2 : Int32} {l3 : Int32} {l4 : Int32} {l5 : Int32} {F : FF} {res : Int32 × FF} (hk6 : ∀ (x4 : Int32) (x5 : Int32) (F : FF), k6 x4 x5 F = some res → FV cX0_paidWithout 6 RX0 (d + 3) (some .int) none 6 [.ref l0, .int l1, .int l2, .int l3, .int x4, .int x5] [] F (RI res)) (h : fX0_paidWithout_b33 N k6 l0 l1 l2 l3 l4 l5 F = some res) : FV cX0_paidWithout 6 RX0 (d + 3) (some .int) none 33 [.ref l0, .int l1, .int l2, .int l3, .int l4, .int l5] [] F (RI res) := by
  unfold fX0_paidWithout_b33 at h
  refine V_iinc dX0_paidWithout_33 (v := l5 + 1) rfl (by rw [ci_1]) rfl (ls' := [.ref l0, .int l1, .int l2, .int l3, .int l4, .int (l5 + 1)]) rfl rfl ?_
  refine V_goto dX0_paidWithout_36 rfl ?_
  exact hk6 l4 (l5 + 1) F h
theorem okX0_paidWithout_L6 {N d : Nat} {l0 : Nat} {l1 : Int32} {l2 : Int32} {l3 : Int32} {res : Int32 × FF} : ∀ (n : Nat) (l4 : Int32) (l5 : Int32) (F : FF), fX0_paidWithout_L6 N l0 l1 l2 l3 n l4 l5 F = some res → FV cX0_paidWithout 6 RX0 (d + 3) (some .int) none 6 [.ref l0, .int l1, .int l2, .int l3, .int l4, .int l5] [] F (RI res) := by
  intro n
  induction n with
  | zero =>
    intro l4 l5 F h
    rw [fX0_paidWithout_L6.eq_1] at h
    cases h
  | succ n ih =>
    intro l4 l5 F h
    rw [fX0_paidWithout_L6.eq_2] at h
    refine V_iload dX0_paidWithout_6 rfl rfl ?_
    refine V_iload_n dX0_paidWithout_8 rfl rfl rfl ?_
    refine A_icmp_ge dX0_paidWithout_9 rfl rfl h (fun h => ?_) (fun h => ?_)
    · refine V_iload dX0_paidWithout_39 rfl rfl ?_
      exact A_ireturn dX0_paidWithout_41 rfl h
    · refine V_iload_n dX0_paidWithout_12 rfl rfl rfl ?_
      refine V_iload dX0_paidWithout_13 rfl rfl ?_
      refine V_ishr dX0_paidWithout_15 rfl ?_
      refine V_iconst dX0_paidWithout_16 ci_1 rfl ?_
      refine V_iand dX0_paidWithout_17 rfl ?_
      refine A_if_ne dX0_paidWithout_18 rfl rfl h (fun h => ?_) (fun h => ?_)
      · exact okX0_paidWithout_b33 (fun x4 x5 F h => ih x4 x5 F h) h
      · refine V_iload dX0_paidWithout_21 rfl rfl ?_
        refine V_aload_n dX0_paidWithout_23 rfl rfl rfl ?_
        refine V_iload_n dX0_paidWithout_24 rfl rfl rfl ?_
        refine V_iload dX0_paidWithout_25 rfl rfl ?_
        refine A_callV (ci := 0) eI dX0_paidWithout_27 cl_X0_66 (by decide) rfl (As := [.int l2, .int l5]) (st := [.int l4]) rfl rfl (Nat.le_of_ble_eq_true rfl) rfl h (fun _ _ h => cp_X0_serveTurn (d := d) h) fun v1 F1 h => ?_
        refine V_iadd dX0_paidWithout_30 rfl ?_
        refine V_istore dX0_paidWithout_31 (by decide) rfl (ls' := [.ref l0, .int l1, .int l2, .int l3, .int (l4 + v1), .int l5]) rfl rfl ?_
        exact okX0_paidWithout_b33 (fun x4 x5 F h => ih x4 x5 F h) h
theorem okX0_paidWithout {N d : Nat} {l0 : Nat} {l1 : Int32} {l2 : Int32} {l3 : Int32} {F : FF} {res : Int32 × FF} (h : fX0_paidWithout N l0 l1 l2 l3 F = some res) : FV cX0_paidWithout 6 RX0 (d + 3) (some .int) none 0 [.ref l0, .int l1, .int l2, .int l3, .null, .null] [] F (RI res) := by
  unfold fX0_paidWithout at h
  refine V_iconst dX0_paidWithout_0 ci_0 rfl ?_
  refine V_istore dX0_paidWithout_1 (by decide) rfl (ls' := [.ref l0, .int l1, .int l2, .int l3, .int 0, .null]) rfl rfl ?_
  refine V_iconst dX0_paidWithout_3 ci_0 rfl ?_
  refine V_istore dX0_paidWithout_4 (by decide) rfl (ls' := [.ref l0, .int l1, .int l2, .int l3, .int 0, .int 0]) rfl rfl ?_
  exact okX0_paidWithout_L6 _ _ _ _ h
theorem cp_X0_paidWithout {N d : Nat} {l0 : Nat} {l1 : Int32} {l2 : Int32} {l3 : Int32} {F F' : FF} {r : Int32} (h : fX0_paidWithout N l0 l1 l2 l3 F = some (r, F')) : CP (d + 3) mX0_paidWithout [.ref l0, .int l1, .int l2, .int l3] F (fun r' F'' => r' = eI r ∧ F'' = F') := CP_I rfl (Nat.le_of_ble_eq_true rfl) (okX0_paidWithout h)
theorem okX6_inLowestTerms_b44 {N d : Nat} {l0 : Int64} {l2 : Int64} {l4 : Int32} {l5 : Int64} {F : FF} {res : Int64 × FF} (h : fX6_inLowestTerms_b44 N l0 l2 l4 l5 F = some res) : FV cX6_inLowestTerms 12 RX6 (d) (some .long) none 44 [.long l0, .null, .long l2, .null, .int l4, .long l5, .null, .null, .null, .null, .null, .null] [] F (RJ res) := by
  unfold fX6_inLowestTerms_b44 at h
  refine V_lload dX6_inLowestTerms_44 rfl rfl ?_
  refine V_lconst dX6_inLowestTerms_46 cl_0 rfl ?_
  refine V_lcmp dX6_inLowestTerms_47 rfl ?_
  refine A_if_ne dX6_inLowestTerms_48 rfl rfl h (fun h => ?_) (fun h => ?_)
  · refine V_iload dX6_inLowestTerms_55 rfl rfl ?_
    refine A_if_ne dX6_inLowestTerms_57 rfl rfl h (fun h => ?_) (fun h => ?_)
    · refine V_lload_n dX6_inLowestTerms_67 rfl rfl rfl ?_
      refine V_lload dX6_inLowestTerms_68 rfl rfl ?_
      refine A_dvl h fun hy h => ?_
      refine V_ldiv dX6_inLowestTerms_70 hy rfl ?_
      exact A_lreturn dX6_inLowestTerms_71 rfl h
    · refine V_lload_n dX6_inLowestTerms_60 rfl rfl rfl ?_
      refine V_lload dX6_inLowestTerms_61 rfl rfl ?_
      refine A_dvl h fun hy h => ?_
      refine V_ldiv dX6_inLowestTerms_63 hy rfl ?_
      refine V_goto dX6_inLowestTerms_64 rfl ?_
      exact A_lreturn dX6_inLowestTerms_71 rfl h
  · refine V_ldc2 dX6_inLowestTerms_51 kc_X6_234 rfl ?_
    exact A_lreturn dX6_inLowestTerms_54 rfl h
theorem okX6_inLowestTerms_L9 {N d : Nat} {l0 : Int64} {l2 : Int64} {l4 : Int32} {res : Int64 × FF} : ∀ (n : Nat) (l5 : Int64) (l7 : Int64) (l9 : Int32) (F : FF), fX6_inLowestTerms_L9 N l0 l2 l4 n l5 l7 l9 F = some res → FV cX6_inLowestTerms 12 RX6 (d) (some .long) none 9 [.long l0, .null, .long l2, .null, .int l4, .long l5, .null, .long l7, .null, .int l9, .null, .null] [] F (RJ res) := by
  intro n
  induction n with
  | zero =>
    intro l5 l7 l9 F h
    rw [fX6_inLowestTerms_L9.eq_1] at h
    cases h
  | succ n ih =>
    intro l5 l7 l9 F h
    rw [fX6_inLowestTerms_L9.eq_2] at h
    refine V_iload dX6_inLowestTerms_9 rfl rfl ?_
    refine V_bipush dX6_inLowestTerms_11 cb_100 rfl ?_
    refine A_icmp_ge dX6_inLowestTerms_13 rfl rfl h (fun h => ?_) (fun h => ?_)
    · refine V_weak [true, false, true, false, true, true, false, false, false, false, false, false] rfl ?_
      exact okX6_inLowestTerms_b44 h
    · refine V_lload dX6_inLowestTerms_16 rfl rfl ?_
      refine V_lconst dX6_inLowestTerms_18 cl_0 rfl ?_
      refine V_lcmp dX6_inLowestTerms_19 rfl ?_
      refine A_if_eq dX6_inLowestTerms_20 rfl rfl h (fun h => ?_) (fun h => ?_)
      · refine V_weak [true, false, true, false, true, true, false, false, false, false, false, false] rfl ?_
        exact okX6_inLowestTerms_b44 h
      · refine V_lload dX6_inLowestTerms_23 rfl rfl ?_
        refine V_lload dX6_inLowestTerms_25 rfl rfl ?_
        refine A_dvl h fun hy h => ?_
        refine U_lrem dX6_inLowestTerms_27 hy rfl ?_
        refine V_lstore dX6_inLowestTerms_28 (by decide) rfl (ls' := [.long l0, .null, .long l2, .null, .int l4, .long l5, .null, .long l7, .null, .int l9, .long (lrem l5 l7), .null]) rfl rfl ?_
        refine V_lload dX6_inLowestTerms_30 rfl rfl ?_
        refine V_lstore dX6_inLowestTerms_32 (by decide) rfl (ls' := [.long l0, .null, .long l2, .null, .int l4, .long l7, .null, .long l7, .null, .int l9, .long (lrem l5 l7), .null]) rfl rfl ?_
        refine V_lload dX6_inLowestTerms_34 rfl rfl ?_
        refine V_lstore dX6_inLowestTerms_36 (by decide) rfl (ls' := [.long l0, .null, .long l2, .null, .int l4, .long l7, .null, .long (lrem l5 l7), .null, .int l9, .long (lrem l5 l7), .null]) rfl rfl ?_
        refine V_iinc dX6_inLowestTerms_38 (v := l9 + 1) rfl (by rw [ci_1]) rfl (ls' := [.long l0, .null, .long l2, .null, .int l4, .long l7, .null, .long (lrem l5 l7), .null, .int (l9 + 1), .long (lrem l5 l7), .null]) rfl rfl ?_
        refine V_goto dX6_inLowestTerms_41 rfl ?_
        refine V_weak [true, false, true, false, true, true, false, true, false, true, false, false] rfl ?_
        exact ih l7 (lrem l5 l7) (l9 + 1) F h
theorem okX6_inLowestTerms {N d : Nat} {l0 : Int64} {l2 : Int64} {l4 : Int32} {F : FF} {res : Int64 × FF} (h : fX6_inLowestTerms N l0 l2 l4 F = some res) : FV cX6_inLowestTerms 12 RX6 (d) (some .long) none 0 [.long l0, .null, .long l2, .null, .int l4, .null, .null, .null, .null, .null, .null, .null] [] F (RJ res) := by
  unfold fX6_inLowestTerms at h
  refine V_lload_n dX6_inLowestTerms_0 rfl rfl rfl ?_
  refine V_lstore dX6_inLowestTerms_1 (by decide) rfl (ls' := [.long l0, .null, .long l2, .null, .int l4, .long l2, .null, .null, .null, .null, .null, .null]) rfl rfl ?_
  refine V_lload_n dX6_inLowestTerms_3 rfl rfl rfl ?_
  refine V_lstore dX6_inLowestTerms_4 (by decide) rfl (ls' := [.long l0, .null, .long l2, .null, .int l4, .long l2, .null, .long l0, .null, .null, .null, .null]) rfl rfl ?_
  refine V_iconst dX6_inLowestTerms_6 ci_0 rfl ?_
  refine V_istore dX6_inLowestTerms_7 (by decide) rfl (ls' := [.long l0, .null, .long l2, .null, .int l4, .long l2, .null, .long l0, .null, .int 0, .null, .null]) rfl rfl ?_
  exact okX6_inLowestTerms_L9 _ _ _ _ _ h
theorem cp_X6_inLowestTerms {N d : Nat} {l0 : Int64} {l2 : Int64} {l4 : Int32} {F F' : FF} {r : Int64} (h : fX6_inLowestTerms N l0 l2 l4 F = some (r, F')) : CP (d) mX6_inLowestTerms [.long l0, .long l2, .int l4] F (fun r' F'' => r' = eJ r ∧ F'' = F') := CP_J rfl (Nat.le_of_ble_eq_true rfl) (okX6_inLowestTerms h)
theorem okX6_luck_b143 {N d : Nat} {k54 : Int64 → Int32 → FF → Option (Int64 × FF)} {l1 : Int32} {l2 : Int32} {l3 : Int32} {l4 : Int32} {l5 : Int32} {l6 : Int64} {l8 : Int32} {F : FF} {res : Int64 × FF} (hk54 : ∀ (x6 : Int64) (x8 : Int32) (F : FF), k54 x6 x8 F = some res → FV cX6_luck 11 RX6 (d + 4) (some .long) none 54 [.ref 0, .int l1, .int l2, .int l3, .int l4, .int l5, .long x6, .null, .int x8, .null, .null] [] F (RJ res)) (h : fX6_luck_b143 N k54 l1 l2 l3 l4 l5 l6 l8 F = some res) : FV cX6_luck 11 RX6 (d + 4) (some .long) none 143 [.ref 0, .int l1, .int l2, .int l3, .int l4, .int l5, .long l6, .null, .int l8, .null, .null] [] F (RJ res) := by
  unfold fX6_luck_b143 at h
  refine V_iinc dX6_luck_143 (v := l8 + 1) rfl (by rw [ci_1]) rfl (ls' := [.ref 0, .int l1, .int l2, .int l3, .int l4, .int l5, .long l6, .null, .int (l8 + 1), .null, .null]) rfl rfl ?_
  refine V_goto dX6_luck_146 rfl ?_
  exact hk54 l6 (l8 + 1) F h
theorem okX6_luck_L54 {N d : Nat} {l1 : Int32} {l2 : Int32} {l3 : Int32} {l4 : Int32} {l5 : Int32} {res : Int64 × FF} : ∀ (n : Nat) (l6 : Int64) (l8 : Int32) (F : FF), fX6_luck_L54 N l1 l2 l3 l4 l5 n l6 l8 F = some res → FV cX6_luck 11 RX6 (d + 4) (some .long) none 54 [.ref 0, .int l1, .int l2, .int l3, .int l4, .int l5, .long l6, .null, .int l8, .null, .null] [] F (RJ res) := by
  intro n
  induction n with
  | zero =>
    intro l6 l8 F h
    rw [fX6_luck_L54.eq_1] at h
    cases h
  | succ n ih =>
    intro l6 l8 F h
    rw [fX6_luck_L54.eq_2] at h
    refine V_iload dX6_luck_54 rfl rfl ?_
    refine V_iconst dX6_luck_56 ci_1 rfl ?_
    refine V_iload dX6_luck_57 rfl rfl ?_
    refine V_ishl dX6_luck_59 rfl ?_
    refine A_icmp_ge dX6_luck_60 rfl rfl h (fun h => ?_) (fun h => ?_)
    · refine V_lload dX6_luck_149 rfl rfl ?_
      refine V_bipush dX6_luck_151 cb_10 rfl ?_
      refine V_iload dX6_luck_153 rfl rfl ?_
      refine A_callS eJ dX6_luck_155 cl_X6_243 (As := [.int 10, .int l4]) (st := [.long l6]) rfl rfl (Nat.le_of_ble_eq_true rfl) rfl h (fun _ _ h => cp_X6_power (d := d + 3) h) fun v1 F1 h => ?_
      refine V_iload dX6_luck_158 rfl rfl ?_
      refine A_callS eJ dX6_luck_160 cl_X6_247 (As := [.long l6, .long v1, .int l5]) (st := []) rfl rfl (Nat.le_of_ble_eq_true rfl) rfl h (fun _ _ h => cp_X6_inLowestTerms (d := d + 3) h) fun v2 F2 h => ?_
      exact A_lreturn dX6_luck_163 rfl h
    · refine V_iload dX6_luck_63 rfl rfl ?_
      refine V_iload_n dX6_luck_65 rfl rfl rfl ?_
      refine V_iload dX6_luck_66 rfl rfl ?_
      refine A_callS eJ dX6_luck_68 cl_X6_236 (As := [.int l8, .int l1, .int l4]) (st := []) rfl rfl (Nat.le_of_ble_eq_true rfl) rfl h (fun _ _ h => cp_X6_weightOf (d := d + 2) h) fun v3 F3 h => ?_
      refine V_lstore dX6_luck_71 (by decide) rfl (ls' := [.ref 0, .int l1, .int l2, .int l3, .int l4, .int l5, .long l6, .null, .int l8, .long v3, .null]) rfl rfl ?_
      refine V_lload dX6_luck_73 rfl rfl ?_
      refine V_lconst dX6_luck_75 cl_0 rfl ?_
      refine V_lcmp dX6_luck_76 rfl ?_
      refine A_if_le dX6_luck_77 rfl rfl h (fun h => ?_) (fun h => ?_)
      · refine V_weak [true, true, true, true, true, true, true, false, true, false, false] rfl ?_
        exact okX6_luck_b143 (fun x6 x8 F h => ih x6 x8 F h) h
      · refine V_aload_n dX6_luck_80 rfl rfl rfl ?_
        refine F_getR dX6_luck_81 fl_X6_16 ly_0 rfl rfl ?_
        refine F_getR dX6_luck_84 fl_X6_122 ly_16 rfl rfl ?_
        refine V_iload_n dX6_luck_87 rfl rfl rfl ?_
        refine A_ldR (t := 5) dX6_luck_88 rfl h fun v4 h => ?_
        refine V_aload_n dX6_luck_89 rfl rfl rfl ?_
        refine F_getR dX6_luck_90 fl_X6_10 ly_0 rfl rfl ?_
        refine F_getR dX6_luck_93 fl_X6_122 ly_1 rfl rfl ?_
        refine V_iload_n dX6_luck_96 rfl rfl rfl ?_
        refine A_ldR (t := 5) dX6_luck_97 rfl h fun v5 h => ?_
        refine A_callV (ci := 4) eU dX6_luck_98 cl_X6_205 (by decide) rfl (As := [.ref v5]) (st := []) rfl rfl (Nat.le_of_ble_eq_true rfl) rfl h (fun _ _ h => cp_X4_copy (d := d + 2) h) fun _ F4 h => ?_
        refine V_aload_n dX6_luck_101 rfl rfl rfl ?_
        refine F_getR dX6_luck_102 fl_X6_16 ly_0 rfl rfl ?_
        refine V_iload dX6_luck_105 rfl rfl ?_
        refine V_iload_n dX6_luck_107 rfl rfl rfl ?_
        refine V_iload dX6_luck_108 rfl rfl ?_
        refine A_callC (ci := 0) eI dX6_luck_110 cl_X6_240 (by decide) rfl rfl (As := [.int l8, .int l2, .int l4]) (st := []) rfl rfl (Nat.le_of_ble_eq_true rfl) rfl h (fun _ _ h => cp_X0_paidWithout (d := d) h) fun v6 F5 h => ?_
        refine V_pop dX6_luck_113 rfl rfl ?_
        refine V_lload dX6_luck_114 rfl rfl ?_
        refine V_aload_n dX6_luck_116 rfl rfl rfl ?_
        refine F_getR dX6_luck_117 fl_X6_16 ly_0 rfl rfl ?_
        refine F_getR dX6_luck_120 fl_X6_122 ly_16 rfl rfl ?_
        refine V_iload_n dX6_luck_123 rfl rfl rfl ?_
        refine A_ldR (t := 5) dX6_luck_124 rfl h fun v7 h => ?_
        refine A_gR dX6_luck_125 fl_X6_145 rfl h fun v8 h => ?_
        refine V_iconst dX6_luck_128 ci_0 rfl ?_
        refine A_ld0 dX6_luck_129 rfl h fun v9 h => ?_
        refine V_iload_n dX6_luck_130 rfl rfl rfl ?_
        refine V_midJ (q := 140) ((if ¬ v9 = l3 then 0 else v3 : Int64)) [.long l6] (fun yJ hy hJ => ?_) ?_
        · refine V_icmp_ne dX6_luck_131 rfl rfl (fun c => ?_) (fun c => ?_)
          · rw [if_pos c] at hy
            refine V_lconst dX6_luck_139 cl_0 rfl ?_
            rw [hy] at hJ
            exact hJ
          · rw [if_neg (fun z => z c)] at hy
            refine V_lload dX6_luck_134 rfl rfl ?_
            refine V_goto dX6_luck_136 rfl ?_
            rw [hy] at hJ
            exact hJ
        · refine V_ladd dX6_luck_140 rfl ?_
          refine V_lstore dX6_luck_141 (by decide) rfl (ls' := [.ref 0, .int l1, .int l2, .int l3, .int l4, .int l5, .long (l6 + ((if ¬ v9 = l3 then 0 else v3 : Int64))), .null, .int l8, .long v3, .null]) rfl rfl ?_
          refine V_weak [true, true, true, true, true, true, true, false, true, false, false] rfl ?_
          exact okX6_luck_b143 (fun x6 x8 F h => ih x6 x8 F h) h
theorem okX6_luck {N d : Nat} {l1 : Int32} {l2 : Int32} {l3 : Int32} {l4 : Int32} {l5 : Int32} {F : FF} {res : Int64 × FF} (h : fX6_luck N l1 l2 l3 l4 l5 F = some res) : FV cX6_luck 11 RX6 (d + 4) (some .long) none 0 [.ref 0, .int l1, .int l2, .int l3, .int l4, .int l5, .null, .null, .null, .null, .null] [] F (RJ res) := by
  unfold fX6_luck at h
  refine V_iload_n dX6_luck_0 rfl rfl rfl ?_
  refine V_iload dX6_luck_1 rfl rfl ?_
  refine V_iload dX6_luck_3 rfl rfl ?_
  refine P_callS dX6_luck_5 cl_X6_231 (cq_X6_areOdds (d := d + 2)) (As := [.int l1, .int l4, .int l5]) (st := []) rfl rfl (Nat.le_of_ble_eq_true rfl) rfl ?_
  refine A_if_eq dX6_luck_8 rfl rfl h (fun h => ?_) (fun h => ?_)
  · refine V_ldc2 dX6_luck_33 kc_X6_234 rfl ?_
    exact A_lreturn dX6_luck_36 rfl h
  · refine V_aload_n dX6_luck_11 rfl rfl rfl ?_
    refine F_getR dX6_luck_12 fl_X6_10 ly_0 rfl rfl ?_
    refine V_iload_n dX6_luck_15 rfl rfl rfl ?_
    refine P_callV (ci := 0) dX6_luck_16 cl_X6_138 (by decide) rfl rfl (cq_X0_hasShelf (d := d + 3) rfl) (As := [.int l2]) (st := []) rfl rfl (Nat.le_of_ble_eq_true rfl) rfl ?_
    refine A_if_eq dX6_luck_19 rfl rfl h (fun h => ?_) (fun h => ?_)
    · refine V_ldc2 dX6_luck_33 kc_X6_234 rfl ?_
      exact A_lreturn dX6_luck_36 rfl h
    · refine V_aload_n dX6_luck_22 rfl rfl rfl ?_
      refine F_getR dX6_luck_23 fl_X6_10 ly_0 rfl rfl ?_
      refine V_iload_n dX6_luck_26 rfl rfl rfl ?_
      refine P_callV (ci := 0) dX6_luck_27 cl_X6_151 (by decide) rfl rfl (cq_X0_hasBook (d := d + 3) rfl) (As := [.int l3]) (st := []) rfl rfl (Nat.le_of_ble_eq_true rfl) rfl ?_
      refine A_if_ne dX6_luck_30 rfl rfl h (fun h => ?_) (fun h => ?_)
      · refine V_aload_n dX6_luck_37 rfl rfl rfl ?_
        refine F_getR dX6_luck_38 fl_X6_16 ly_0 rfl rfl ?_
        refine V_aload_n dX6_luck_41 rfl rfl rfl ?_
        refine F_getR dX6_luck_42 fl_X6_10 ly_0 rfl rfl ?_
        refine A_callC (ci := 0) eU dX6_luck_45 cl_X6_90 (by decide) rfl rfl (As := [.ref 1]) (st := []) rfl rfl (Nat.le_of_ble_eq_true rfl) rfl h (fun _ _ h => cp_X0_copy (d := d + 1) h) fun _ F1 h => ?_
        refine V_lconst dX6_luck_48 cl_0 rfl ?_
        refine V_lstore dX6_luck_49 (by decide) rfl (ls' := [.ref 0, .int l1, .int l2, .int l3, .int l4, .int l5, .long 0, .null, .null, .null, .null]) rfl rfl ?_
        refine V_iconst dX6_luck_51 ci_0 rfl ?_
        refine V_istore dX6_luck_52 (by decide) rfl (ls' := [.ref 0, .int l1, .int l2, .int l3, .int l4, .int l5, .long 0, .null, .int 0, .null, .null]) rfl rfl ?_
        exact okX6_luck_L54 _ _ _ _ h
      · refine V_ldc2 dX6_luck_33 kc_X6_234 rfl ?_
        exact A_lreturn dX6_luck_36 rfl h
theorem cp_X6_luck {N d : Nat} {l1 : Int32} {l2 : Int32} {l3 : Int32} {l4 : Int32} {l5 : Int32} {F F' : FF} {r : Int64} (h : fX6_luck N l1 l2 l3 l4 l5 F = some (r, F')) : CP (d + 4) mX6_luck [.ref 0, .int l1, .int l2, .int l3, .int l4, .int l5] F (fun r' F'' => r' = eJ r ∧ F'' = F') := CP_J rfl (Nat.le_of_ble_eq_true rfl) (okX6_luck h)
theorem okX6_mean_b119 {N d : Nat} {k30 : Int64 → Int32 → FF → Option (Int64 × FF)} {l1 : Int32} {l2 : Int32} {l3 : Int32} {l4 : Int64} {l6 : Int32} {F : FF} {res : Int64 × FF} (hk30 : ∀ (x4 : Int64) (x6 : Int32) (F : FF), k30 x4 x6 F = some res → FV cX6_mean 10 RX6 (d + 4) (some .long) none 30 [.ref 0, .int l1, .int l2, .int l3, .long x4, .null, .int x6, .null, .null, .null] [] F (RJ res)) (h : fX6_mean_b119 N k30 l1 l2 l3 l4 l6 F = some res) : FV cX6_mean 10 RX6 (d + 4) (some .long) none 119 [.ref 0, .int l1, .int l2, .int l3, .long l4, .null, .int l6, .null, .null, .null] [] F (RJ res) := by
  unfold fX6_mean_b119 at h
  refine V_iinc dX6_mean_119 (v := l6 + 1) rfl (by rw [ci_1]) rfl (ls' := [.ref 0, .int l1, .int l2, .int l3, .long l4, .null, .int (l6 + 1), .null, .null, .null]) rfl rfl ?_
  refine V_goto dX6_mean_122 rfl ?_
  exact hk30 l4 (l6 + 1) F h
theorem okX6_mean_L50 {N d : Nat} {k30 : Int64 → Int32 → FF → Option (Int64 × FF)} {l1 : Int32} {l2 : Int32} {l3 : Int32} {l6 : Int32} {l7 : Int64} {res : Int64 × FF} (hk30 : ∀ (x4 : Int64) (x6 : Int32) (F : FF), k30 x4 x6 F = some res → FV cX6_mean 10 RX6 (d + 4) (some .long) none 30 [.ref 0, .int l1, .int l2, .int l3, .long x4, .null, .int x6, .null, .null, .null] [] F (RJ res)) : ∀ (n : Nat) (l4 : Int64) (l9 : Int32) (F : FF), fX6_mean_L50 N k30 l1 l2 l3 l6 l7 n l4 l9 F = some res → FV cX6_mean 10 RX6 (d + 4) (some .long) none 50 [.ref 0, .int l1, .int l2, .int l3, .long l4, .null, .int l6, .long l7, .null, .int l9] [] F (RJ res) := by
  intro n
  induction n with
  | zero =>
    intro l4 l9 F h
    rw [fX6_mean_L50.eq_1] at h
    cases h
  | succ n ih =>
    intro l4 l9 F h
    rw [fX6_mean_L50.eq_2] at h
    refine V_iload dX6_mean_50 rfl rfl ?_
    refine V_aload_n dX6_mean_52 rfl rfl rfl ?_
    refine F_getR dX6_mean_53 fl_X6_10 ly_0 rfl rfl ?_
    refine F_getI dX6_mean_56 fl_X6_100 ly_1 rfl rfl ?_
    refine A_icmp_ge dX6_mean_59 rfl rfl h (fun h => ?_) (fun h => ?_)
    · refine V_weak [true, true, true, true, true, false, true, false, false, false] rfl ?_
      exact okX6_mean_b119 hk30 h
    · refine V_lload dX6_mean_62 rfl rfl ?_
      refine V_lconst dX6_mean_64 cl_0 rfl ?_
      refine V_lcmp dX6_mean_65 rfl ?_
      refine A_if_le dX6_mean_66 rfl rfl h (fun h => ?_) (fun h => ?_)
      · refine V_weak [true, true, true, true, true, false, true, false, false, false] rfl ?_
        exact okX6_mean_b119 hk30 h
      · refine V_aload_n dX6_mean_69 rfl rfl rfl ?_
        refine F_getR dX6_mean_70 fl_X6_16 ly_0 rfl rfl ?_
        refine F_getR dX6_mean_73 fl_X6_122 ly_16 rfl rfl ?_
        refine V_iload dX6_mean_76 rfl rfl ?_
        refine A_ldR (t := 5) dX6_mean_78 rfl h fun v1 h => ?_
        refine V_aload_n dX6_mean_79 rfl rfl rfl ?_
        refine F_getR dX6_mean_80 fl_X6_10 ly_0 rfl rfl ?_
        refine F_getR dX6_mean_83 fl_X6_122 ly_1 rfl rfl ?_
        refine V_iload dX6_mean_86 rfl rfl ?_
        refine A_ldR (t := 5) dX6_mean_88 rfl h fun v2 h => ?_
        refine A_callV (ci := 4) eU dX6_mean_89 cl_X6_205 (by decide) rfl (As := [.ref v2]) (st := []) rfl rfl (Nat.le_of_ble_eq_true rfl) rfl h (fun _ _ h => cp_X4_copy (d := d + 2) h) fun _ F1 h => ?_
        refine V_lload dX6_mean_92 rfl rfl ?_
        refine V_lload dX6_mean_94 rfl rfl ?_
        refine V_aload_n dX6_mean_96 rfl rfl rfl ?_
        refine F_getR dX6_mean_97 fl_X6_16 ly_0 rfl rfl ?_
        refine V_iload dX6_mean_100 rfl rfl ?_
        refine V_iload dX6_mean_102 rfl rfl ?_
        refine V_iload_n dX6_mean_104 rfl rfl rfl ?_
        refine A_callC (ci := 0) eI dX6_mean_105 cl_X6_240 (by decide) rfl rfl (As := [.int l6, .int l9, .int l2]) (st := [.long l7, .long l4]) rfl rfl (Nat.le_of_ble_eq_true rfl) rfl h (fun _ _ h => cp_X0_paidWithout (d := d) h) fun v3 F2 h => ?_
        refine V_i2l dX6_mean_108 rfl ?_
        refine V_lmul dX6_mean_109 rfl ?_
        refine V_ladd dX6_mean_110 rfl ?_
        refine V_lstore dX6_mean_111 (by decide) rfl (ls' := [.ref 0, .int l1, .int l2, .int l3, .long (l4 + (l7 * v3.toInt64)), .null, .int l6, .long l7, .null, .int l9]) rfl rfl ?_
        refine V_iinc dX6_mean_113 (v := l9 + 1) rfl (by rw [ci_1]) rfl (ls' := [.ref 0, .int l1, .int l2, .int l3, .long (l4 + (l7 * v3.toInt64)), .null, .int l6, .long l7, .null, .int (l9 + 1)]) rfl rfl ?_
        refine V_goto dX6_mean_116 rfl ?_
        exact ih (l4 + (l7 * v3.toInt64)) (l9 + 1) F2 h
theorem okX6_mean_L30 {N d : Nat} {l1 : Int32} {l2 : Int32} {l3 : Int32} {res : Int64 × FF} : ∀ (n : Nat) (l4 : Int64) (l6 : Int32) (F : FF), fX6_mean_L30 N l1 l2 l3 n l4 l6 F = some res → FV cX6_mean 10 RX6 (d + 4) (some .long) none 30 [.ref 0, .int l1, .int l2, .int l3, .long l4, .null, .int l6, .null, .null, .null] [] F (RJ res) := by
  intro n
  induction n with
  | zero =>
    intro l4 l6 F h
    rw [fX6_mean_L30.eq_1] at h
    cases h
  | succ n ih =>
    intro l4 l6 F h
    rw [fX6_mean_L30.eq_2] at h
    refine V_iload dX6_mean_30 rfl rfl ?_
    refine V_iconst dX6_mean_32 ci_1 rfl ?_
    refine V_iload_n dX6_mean_33 rfl rfl rfl ?_
    refine V_ishl dX6_mean_34 rfl ?_
    refine A_icmp_ge dX6_mean_35 rfl rfl h (fun h => ?_) (fun h => ?_)
    · refine V_lload dX6_mean_125 rfl rfl ?_
      refine V_bipush dX6_mean_127 cb_10 rfl ?_
      refine V_iload_n dX6_mean_129 rfl rfl rfl ?_
      refine A_callS eJ dX6_mean_130 cl_X6_243 (As := [.int 10, .int l2]) (st := [.long l4]) rfl rfl (Nat.le_of_ble_eq_true rfl) rfl h (fun _ _ h => cp_X6_power (d := d + 3) h) fun v1 F1 h => ?_
      refine V_iload_n dX6_mean_133 rfl rfl rfl ?_
      refine A_callS eJ dX6_mean_134 cl_X6_247 (As := [.long l4, .long v1, .int l3]) (st := []) rfl rfl (Nat.le_of_ble_eq_true rfl) rfl h (fun _ _ h => cp_X6_inLowestTerms (d := d + 3) h) fun v2 F2 h => ?_
      exact A_lreturn dX6_mean_137 rfl h
    · refine V_iload dX6_mean_38 rfl rfl ?_
      refine V_iload_n dX6_mean_40 rfl rfl rfl ?_
      refine V_iload_n dX6_mean_41 rfl rfl rfl ?_
      refine A_callS eJ dX6_mean_42 cl_X6_236 (As := [.int l6, .int l1, .int l2]) (st := []) rfl rfl (Nat.le_of_ble_eq_true rfl) rfl h (fun _ _ h => cp_X6_weightOf (d := d + 2) h) fun v3 F3 h => ?_
      refine V_lstore dX6_mean_45 (by decide) rfl (ls' := [.ref 0, .int l1, .int l2, .int l3, .long l4, .null, .int l6, .long v3, .null, .null]) rfl rfl ?_
      refine V_iconst dX6_mean_47 ci_0 rfl ?_
      refine V_istore dX6_mean_48 (by decide) rfl (ls' := [.ref 0, .int l1, .int l2, .int l3, .long l4, .null, .int l6, .long v3, .null, .int 0]) rfl rfl ?_
      exact okX6_mean_L50 (fun x4 x6 F h => ih x4 x6 F h) _ _ _ _ h
theorem okX6_mean {N d : Nat} {l1 : Int32} {l2 : Int32} {l3 : Int32} {F : FF} {res : Int64 × FF} (h : fX6_mean N l1 l2 l3 F = some res) : FV cX6_mean 10 RX6 (d + 4) (some .long) none 0 [.ref 0, .int l1, .int l2, .int l3, .null, .null, .null, .null, .null, .null] [] F (RJ res) := by
  unfold fX6_mean at h
  refine V_iload_n dX6_mean_0 rfl rfl rfl ?_
  refine V_iload_n dX6_mean_1 rfl rfl rfl ?_
  refine V_iload_n dX6_mean_2 rfl rfl rfl ?_
  refine P_callS dX6_mean_3 cl_X6_231 (cq_X6_areOdds (d := d + 2)) (As := [.int l1, .int l2, .int l3]) (st := []) rfl rfl (Nat.le_of_ble_eq_true rfl) rfl ?_
  refine A_if_ne dX6_mean_6 rfl rfl h (fun h => ?_) (fun h => ?_)
  · refine V_aload_n dX6_mean_13 rfl rfl rfl ?_
    refine F_getR dX6_mean_14 fl_X6_16 ly_0 rfl rfl ?_
    refine V_aload_n dX6_mean_17 rfl rfl rfl ?_
    refine F_getR dX6_mean_18 fl_X6_10 ly_0 rfl rfl ?_
    refine A_callC (ci := 0) eU dX6_mean_21 cl_X6_90 (by decide) rfl rfl (As := [.ref 1]) (st := []) rfl rfl (Nat.le_of_ble_eq_true rfl) rfl h (fun _ _ h => cp_X0_copy (d := d + 1) h) fun _ F1 h => ?_
    refine V_lconst dX6_mean_24 cl_0 rfl ?_
    refine V_lstore dX6_mean_25 (by decide) rfl (ls' := [.ref 0, .int l1, .int l2, .int l3, .long 0, .null, .null, .null, .null, .null]) rfl rfl ?_
    refine V_iconst dX6_mean_27 ci_0 rfl ?_
    refine V_istore dX6_mean_28 (by decide) rfl (ls' := [.ref 0, .int l1, .int l2, .int l3, .long 0, .null, .int 0, .null, .null, .null]) rfl rfl ?_
    exact okX6_mean_L30 _ _ _ _ h
  · refine V_ldc2 dX6_mean_9 kc_X6_234 rfl ?_
    exact A_lreturn dX6_mean_12 rfl h
theorem cp_X6_mean {N d : Nat} {l1 : Int32} {l2 : Int32} {l3 : Int32} {F F' : FF} {r : Int64} (h : fX6_mean N l1 l2 l3 F = some (r, F')) : CP (d + 4) mX6_mean [.ref 0, .int l1, .int l2, .int l3] F (fun r' F'' => r' = eJ r ∧ F'' = F') := CP_J rfl (Nat.le_of_ble_eq_true rfl) (okX6_mean h)
theorem okX2_note {N d : Nat} {l1 : Int32} {l2 : Int32} {l3 : Int32} {F : FF} {res : Int32 × FF} (h : fX2_note N l1 l2 l3 F = some res) : FV cX2_note 4 RX2 (d) (some .boolean) none 0 [.ref 35, .int l1, .int l2, .int l3] [] F (RI res) := by
  unfold fX2_note at h
  refine V_aload_n dX2_note_0 rfl rfl rfl ?_
  refine F_getI dX2_note_1 fl_X2_21 ly_35 rfl rfl ?_
  refine V_bipush dX2_note_4 cb_6 rfl ?_
  refine A_icmp_lt dX2_note_6 rfl rfl h (fun h => ?_) (fun h => ?_)
  · refine V_aload_n dX2_note_11 rfl rfl rfl ?_
    refine F_getR dX2_note_12 fl_X2_9 ly_35 rfl rfl ?_
    refine V_aload_n dX2_note_15 rfl rfl rfl ?_
    refine F_getI dX2_note_16 fl_X2_21 ly_35 rfl rfl ?_
    refine V_iload_n dX2_note_19 rfl rfl rfl ?_
    refine A_st0 dX2_note_20 rfl h fun F1 h => ?_
    refine V_aload_n dX2_note_21 rfl rfl rfl ?_
    refine F_getR dX2_note_22 fl_X2_15 ly_35 rfl rfl ?_
    refine V_aload_n dX2_note_25 rfl rfl rfl ?_
    refine F_getI dX2_note_26 fl_X2_21 ly_35 rfl rfl ?_
    refine V_iload_n dX2_note_29 rfl rfl rfl ?_
    refine A_st0 dX2_note_30 rfl h fun F2 h => ?_
    refine V_aload_n dX2_note_31 rfl rfl rfl ?_
    refine F_getR dX2_note_32 fl_X2_18 ly_35 rfl rfl ?_
    refine V_aload_n dX2_note_35 rfl rfl rfl ?_
    refine F_getI dX2_note_36 fl_X2_21 ly_35 rfl rfl ?_
    refine V_iload_n dX2_note_39 rfl rfl rfl ?_
    refine A_st0 dX2_note_40 rfl h fun F3 h => ?_
    refine V_aload_n dX2_note_41 rfl rfl rfl ?_
    refine V_dup dX2_note_42 rfl rfl ?_
    refine F_getI dX2_note_43 fl_X2_21 ly_35 rfl rfl ?_
    refine V_iconst dX2_note_46 ci_1 rfl ?_
    refine V_iadd dX2_note_47 rfl ?_
    refine A_pn dX2_note_48 fl_X2_21 rfl (Or.inl rfl) ly_35 rfl rfl h fun F4 h => ?_
    refine V_iconst dX2_note_51 ci_1 rfl ?_
    exact A_creturn dX2_note_52 rfl (by decide) h
  · refine V_iconst dX2_note_9 ci_0 rfl ?_
    exact A_creturn dX2_note_10 rfl (by decide) h
theorem cp_X2_note {N d : Nat} {l1 : Int32} {l2 : Int32} {l3 : Int32} {F F' : FF} {r : Int32} (h : fX2_note N l1 l2 l3 F = some (r, F')) : CP (d) mX2_note [.ref 35, .int l1, .int l2, .int l3] F (fun r' F'' => r' = eI r ∧ F'' = F') := CP_I rfl (Nat.le_of_ble_eq_true rfl) (okX2_note h)
theorem okX6_see {N d : Nat} {l1 : Int32} {l2 : Int32} {l3 : Int32} {F : FF} {res : Int32 × FF} (h : fX6_see N l1 l2 l3 F = some res) : FV cX6_see 4 RX6 (d + 1) (some .int) none 0 [.ref 0, .int l1, .int l2, .int l3] [] F (RI res) := by
  unfold fX6_see at h
  refine V_iload_n dX6_see_0 rfl rfl rfl ?_
  refine V_iconst dX6_see_1 ci_0 rfl ?_
  refine V_bipush dX6_see_2 cb_40 rfl ?_
  refine P_callS dX6_see_4 cl_X6_69 (cq_X6_within (d := d)) (As := [.int l1, .int 0, .int 40]) (st := []) rfl rfl (Nat.le_of_ble_eq_true rfl) rfl ?_
  refine A_if_eq dX6_see_7 rfl rfl h (fun h => ?_) (fun h => ?_)
  · refine V_iconst dX6_see_32 ci_m1 rfl ?_
    exact A_ireturn dX6_see_33 rfl h
  · refine V_aload_n dX6_see_10 rfl rfl rfl ?_
    refine F_getR dX6_see_11 fl_X6_10 ly_0 rfl rfl ?_
    refine V_iload_n dX6_see_14 rfl rfl rfl ?_
    refine P_callV (ci := 0) dX6_see_15 cl_X6_138 (by decide) rfl rfl (cq_X0_hasShelf (d := d) rfl) (As := [.int l2]) (st := []) rfl rfl (Nat.le_of_ble_eq_true rfl) rfl ?_
    refine A_if_eq dX6_see_18 rfl rfl h (fun h => ?_) (fun h => ?_)
    · refine V_iconst dX6_see_32 ci_m1 rfl ?_
      exact A_ireturn dX6_see_33 rfl h
    · refine V_aload_n dX6_see_21 rfl rfl rfl ?_
      refine F_getR dX6_see_22 fl_X6_10 ly_0 rfl rfl ?_
      refine V_iload_n dX6_see_25 rfl rfl rfl ?_
      refine P_callV (ci := 0) dX6_see_26 cl_X6_151 (by decide) rfl rfl (cq_X0_hasBook (d := d) rfl) (As := [.int l3]) (st := []) rfl rfl (Nat.le_of_ble_eq_true rfl) rfl ?_
      refine A_if_ne dX6_see_29 rfl rfl h (fun h => ?_) (fun h => ?_)
      · refine V_aload_n dX6_see_34 rfl rfl rfl ?_
        refine F_getR dX6_see_35 fl_X6_37 ly_0 rfl rfl ?_
        refine V_iload_n dX6_see_38 rfl rfl rfl ?_
        refine V_iload_n dX6_see_39 rfl rfl rfl ?_
        refine V_iload_n dX6_see_40 rfl rfl rfl ?_
        refine A_callC (ci := 2) eI dX6_see_41 cl_X6_256 (by decide) rfl rfl (As := [.int l1, .int l2, .int l3]) (st := []) rfl rfl (Nat.le_of_ble_eq_true rfl) rfl h (fun _ _ h => cp_X2_note (d := d) h) fun v1 F1 h => ?_
        refine V_midI (q := 59) ((if v1 = 0 then ((-3)) else (F1 35 0) : Int32)) [] (fun yJ hy hJ => ?_) ?_
        · refine V_if_eq dX6_see_44 rfl rfl (fun c => ?_) (fun c => ?_)
          · rw [if_pos c] at hy
            refine V_bipush dX6_see_57 cb_m3 rfl ?_
            rw [hy] at hJ
            exact hJ
          · rw [if_neg c] at hy
            refine V_aload_n dX6_see_47 rfl rfl rfl ?_
            refine F_getR dX6_see_48 fl_X6_37 ly_0 rfl rfl ?_
            refine F_getI dX6_see_51 fl_X6_94 ly_35 rfl rfl ?_
            refine V_goto dX6_see_54 rfl ?_
            rw [hy] at hJ
            exact hJ
        · exact A_ireturn dX6_see_59 rfl h
      · refine V_iconst dX6_see_32 ci_m1 rfl ?_
        exact A_ireturn dX6_see_33 rfl h
theorem cp_X6_see {N d : Nat} {l1 : Int32} {l2 : Int32} {l3 : Int32} {F F' : FF} {r : Int32} (h : fX6_see N l1 l2 l3 F = some (r, F')) : CP (d + 1) mX6_see [.ref 0, .int l1, .int l2, .int l3] F (fun r' F'' => r' = eI r ∧ F'' = F') := CP_I rfl (Nat.le_of_ble_eq_true rfl) (okX6_see h)
theorem okX6_forget {N d : Nat} {l1 : Int32} {F : FF} {res : Int32 × FF} (h : fX6_forget N l1 F = some res) : FV cX6_forget 3 RX6 (d + 1) (some .int) none 0 [.ref 0, .int l1, .null] [] F (RI res) := by
  unfold fX6_forget at h
  refine V_iload_n dX6_forget_0 rfl rfl rfl ?_
  refine V_iconst dX6_forget_1 ci_0 rfl ?_
  refine V_aload_n dX6_forget_2 rfl rfl rfl ?_
  refine F_getR dX6_forget_3 fl_X6_37 ly_0 rfl rfl ?_
  refine F_getI dX6_forget_6 fl_X6_94 ly_35 rfl rfl ?_
  refine P_callS dX6_forget_9 cl_X6_69 (cq_X6_within (d := d)) (As := [.int l1, .int 0, .int (F 35 0)]) (st := []) rfl rfl (Nat.le_of_ble_eq_true rfl) rfl ?_
  refine A_if_ne dX6_forget_12 rfl rfl h (fun h => ?_) (fun h => ?_)
  · refine V_aload_n dX6_forget_17 rfl rfl rfl ?_
    refine F_getR dX6_forget_18 fl_X6_37 ly_0 rfl rfl ?_
    refine F_getI dX6_forget_21 fl_X6_94 ly_35 rfl rfl ?_
    refine V_istore_n dX6_forget_24 rfl (by decide) rfl (ls' := [.ref 0, .int l1, .int (F 35 0)]) rfl rfl ?_
    refine V_aload_n dX6_forget_25 rfl rfl rfl ?_
    refine F_getR dX6_forget_26 fl_X6_37 ly_0 rfl rfl ?_
    refine V_iload_n dX6_forget_29 rfl rfl rfl ?_
    refine A_pn dX6_forget_30 fl_X6_94 rfl (Or.inl rfl) ly_35 rfl rfl h fun F1 h => ?_
    refine V_iload_n dX6_forget_33 rfl rfl rfl ?_
    exact A_ireturn dX6_forget_34 rfl h
  · refine V_iconst dX6_forget_15 ci_m1 rfl ?_
    exact A_ireturn dX6_forget_16 rfl h
theorem cp_X6_forget {N d : Nat} {l1 : Int32} {F F' : FF} {r : Int32} (h : fX6_forget N l1 F = some (r, F')) : CP (d + 1) mX6_forget [.ref 0, .int l1] F (fun r' F'' => r' = eI r ∧ F'' = F') := CP_I rfl (Nat.le_of_ble_eq_true rfl) (okX6_forget h)
theorem okX2_latest_L4 {N d : Nat} {res : Int32 × FF} : ∀ (n : Nat) (l1 : Int32) (l2 : Int32) (F : FF), fX2_latest_L4 N n l1 l2 F = some res → FV cX2_latest 3 RX2 (d + 1) (some .int) none 4 [.ref 35, .int l1, .int l2] [] F (RI res) := by
  intro n
  induction n with
  | zero =>
    intro l1 l2 F h
    rw [fX2_latest_L4.eq_1] at h
    cases h
  | succ n ih =>
    intro l1 l2 F h
    rw [fX2_latest_L4.eq_2] at h
    refine V_iload_n dX2_latest_4 rfl rfl rfl ?_
    refine V_aload_n dX2_latest_5 rfl rfl rfl ?_
    refine F_getI dX2_latest_6 fl_X2_21 ly_35 rfl rfl ?_
    refine A_icmp_ge dX2_latest_9 rfl rfl h (fun h => ?_) (fun h => ?_)
    · refine V_iload_n dX2_latest_29 rfl rfl rfl ?_
      exact A_ireturn dX2_latest_30 rfl h
    · refine V_iload_n dX2_latest_12 rfl rfl rfl ?_
      refine V_aload_n dX2_latest_13 rfl rfl rfl ?_
      refine F_getR dX2_latest_14 fl_X2_9 ly_35 rfl rfl ?_
      refine V_iload_n dX2_latest_17 rfl rfl rfl ?_
      refine A_ld0 dX2_latest_18 rfl h fun v1 h => ?_
      refine P_mmax dX2_latest_19 cl_X2_38 (st := []) (Nat.le_of_ble_eq_true rfl) rfl ?_
      refine V_istore_n dX2_latest_22 rfl (by decide) rfl (ls' := [.ref 35, .int (mmax l1 v1), .int l2]) rfl rfl ?_
      refine V_iinc dX2_latest_23 (v := l2 + 1) rfl (by rw [ci_1]) rfl (ls' := [.ref 35, .int (mmax l1 v1), .int (l2 + 1)]) rfl rfl ?_
      refine V_goto dX2_latest_26 rfl ?_
      exact ih (mmax l1 v1) (l2 + 1) F h
theorem okX2_latest {N d : Nat} {F : FF} {res : Int32 × FF} (h : fX2_latest N F = some res) : FV cX2_latest 3 RX2 (d + 1) (some .int) none 0 [.ref 35, .null, .null] [] F (RI res) := by
  unfold fX2_latest at h
  refine V_iconst dX2_latest_0 ci_0 rfl ?_
  refine V_istore_n dX2_latest_1 rfl (by decide) rfl (ls' := [.ref 35, .int 0, .null]) rfl rfl ?_
  refine V_iconst dX2_latest_2 ci_0 rfl ?_
  refine V_istore_n dX2_latest_3 rfl (by decide) rfl (ls' := [.ref 35, .int 0, .int 0]) rfl rfl ?_
  exact okX2_latest_L4 _ _ _ _ h
theorem cp_X2_latest {N d : Nat} {F F' : FF} {r : Int32} (h : fX2_latest N F = some (r, F')) : CP (d + 1) mX2_latest [.ref 35] F (fun r' F'' => r' = eI r ∧ F'' = F') := CP_I rfl (Nat.le_of_ble_eq_true rfl) (okX2_latest h)
theorem okX2_isSoBehind_b60 {N d : Nat} {k2 : Int32 → FF → Option (Int32 × FF)} {l1 : Int32} {l3 : Int32} {F : FF} {res : Int32 × FF} (hk2 : ∀ (x3 : Int32) (F : FF), k2 x3 F = some res → FV cX2_isSoBehind 5 RX2 (d + 1) (some .boolean) none 2 [.ref 35, .int l1, .ref 16, .int x3, .null] [] F (RI res)) (h : fX2_isSoBehind_b60 N k2 l1 l3 F = some res) : FV cX2_isSoBehind 5 RX2 (d + 1) (some .boolean) none 60 [.ref 35, .int l1, .ref 16, .int l3, .null] [] F (RI res) := by
  unfold fX2_isSoBehind_b60 at h
  refine V_iinc dX2_isSoBehind_60 (v := l3 + 1) rfl (by rw [ci_1]) rfl (ls' := [.ref 35, .int l1, .ref 16, .int (l3 + 1), .null]) rfl rfl ?_
  refine V_goto dX2_isSoBehind_63 rfl ?_
  exact hk2 (l3 + 1) F h
theorem okX2_isSoBehind_L2 {N d : Nat} {l1 : Int32} {res : Int32 × FF} : ∀ (n : Nat) (l3 : Int32) (F : FF), fX2_isSoBehind_L2 N l1 n l3 F = some res → FV cX2_isSoBehind 5 RX2 (d + 1) (some .boolean) none 2 [.ref 35, .int l1, .ref 16, .int l3, .null] [] F (RI res) := by
  intro n
  induction n with
  | zero =>
    intro l3 F h
    rw [fX2_isSoBehind_L2.eq_1] at h
    cases h
  | succ n ih =>
    intro l3 F h
    rw [fX2_isSoBehind_L2.eq_2] at h
    refine V_iload_n dX2_isSoBehind_2 rfl rfl rfl ?_
    refine V_aload_n dX2_isSoBehind_3 rfl rfl rfl ?_
    refine F_getI dX2_isSoBehind_4 fl_X2_21 ly_35 rfl rfl ?_
    refine A_icmp_ge dX2_isSoBehind_7 rfl rfl h (fun h => ?_) (fun h => ?_)
    · refine V_iconst dX2_isSoBehind_66 ci_1 rfl ?_
      exact A_creturn dX2_isSoBehind_67 rfl (by decide) h
    · refine V_aload_n dX2_isSoBehind_10 rfl rfl rfl ?_
      refine F_getR dX2_isSoBehind_11 fl_X2_9 ly_35 rfl rfl ?_
      refine V_iload_n dX2_isSoBehind_14 rfl rfl rfl ?_
      refine A_ld0 dX2_isSoBehind_15 rfl h fun v1 h => ?_
      refine V_iload_n dX2_isSoBehind_16 rfl rfl rfl ?_
      refine A_icmp_ne dX2_isSoBehind_17 rfl rfl h (fun h => ?_) (fun h => ?_)
      · exact okX2_isSoBehind_b60 (fun x3 F h => ih x3 F h) h
      · refine V_aload_n dX2_isSoBehind_20 rfl rfl rfl ?_
        refine F_getR dX2_isSoBehind_21 fl_X2_15 ly_35 rfl rfl ?_
        refine V_iload_n dX2_isSoBehind_24 rfl rfl rfl ?_
        refine A_ld0 dX2_isSoBehind_25 rfl h fun v2 h => ?_
        refine V_istore dX2_isSoBehind_26 (by decide) rfl (ls' := [.ref 35, .int l1, .ref 16, .int l3, .int v2]) rfl rfl ?_
        refine V_aload_n dX2_isSoBehind_28 rfl rfl rfl ?_
        refine V_iload dX2_isSoBehind_29 rfl rfl ?_
        refine P_callV (ci := 0) dX2_isSoBehind_31 cl_X2_44 (by decide) rfl rfl (cq_X0_hasShelf (d := d) rfl) (As := [.int v2]) (st := []) rfl rfl (Nat.le_of_ble_eq_true rfl) rfl ?_
        refine A_if_eq dX2_isSoBehind_34 rfl rfl h (fun h => ?_) (fun h => ?_)
        · refine V_iconst dX2_isSoBehind_58 ci_0 rfl ?_
          exact A_creturn dX2_isSoBehind_59 rfl (by decide) h
        · refine V_aload_n dX2_isSoBehind_37 rfl rfl rfl ?_
          refine F_getR dX2_isSoBehind_38 fl_X2_48 ly_16 rfl rfl ?_
          refine V_iload dX2_isSoBehind_41 rfl rfl ?_
          refine A_ldR (t := 5) dX2_isSoBehind_43 rfl h fun v3 h => ?_
          refine A_gR dX2_isSoBehind_44 fl_X2_52 rfl h fun v4 h => ?_
          refine V_iconst dX2_isSoBehind_47 ci_0 rfl ?_
          refine A_ld0 dX2_isSoBehind_48 rfl h fun v5 h => ?_
          refine V_aload_n dX2_isSoBehind_49 rfl rfl rfl ?_
          refine F_getR dX2_isSoBehind_50 fl_X2_18 ly_35 rfl rfl ?_
          refine V_iload_n dX2_isSoBehind_53 rfl rfl rfl ?_
          refine A_ld0 dX2_isSoBehind_54 rfl h fun v6 h => ?_
          refine A_icmp_eq dX2_isSoBehind_55 rfl rfl h (fun h => ?_) (fun h => ?_)
          · refine V_weak [true, true, true, true, false] rfl ?_
            exact okX2_isSoBehind_b60 (fun x3 F h => ih x3 F h) h
          · refine V_iconst dX2_isSoBehind_58 ci_0 rfl ?_
            exact A_creturn dX2_isSoBehind_59 rfl (by decide) h
theorem okX2_isSoBehind {N d : Nat} {l1 : Int32} {F : FF} {res : Int32 × FF} (h : fX2_isSoBehind N l1 F = some res) : FV cX2_isSoBehind 5 RX2 (d + 1) (some .boolean) none 0 [.ref 35, .int l1, .ref 16, .null, .null] [] F (RI res) := by
  unfold fX2_isSoBehind at h
  refine V_iconst dX2_isSoBehind_0 ci_0 rfl ?_
  refine V_istore_n dX2_isSoBehind_1 rfl (by decide) rfl (ls' := [.ref 35, .int l1, .ref 16, .int 0, .null]) rfl rfl ?_
  exact okX2_isSoBehind_L2 _ _ _ h
theorem cp_X2_isSoBehind {N d : Nat} {l1 : Int32} {F F' : FF} {r : Int32} (h : fX2_isSoBehind N l1 F = some (r, F')) : CP (d + 1) mX2_isSoBehind [.ref 35, .int l1, .ref 16] F (fun r' F'' => r' = eI r ∧ F'' = F') := CP_I rfl (Nat.le_of_ble_eq_true rfl) (okX2_isSoBehind h)
theorem okX2_isSoIn_L7 {N d : Nat} {l2 : Int32} {res : Int32 × FF} : ∀ (n : Nat) (l3 : Int32) (F : FF), fX2_isSoIn_L7 N l2 n l3 F = some res → FV cX2_isSoIn 4 RX2 (d + 4) (some .boolean) none 7 [.ref 35, .ref 16, .int l2, .int l3] [] F (RI res) := by
  intro n
  induction n with
  | zero =>
    intro l3 F h
    rw [fX2_isSoIn_L7.eq_1] at h
    cases h
  | succ n ih =>
    intro l3 F h
    rw [fX2_isSoIn_L7.eq_2] at h
    refine V_iload_n dX2_isSoIn_7 rfl rfl rfl ?_
    refine V_iload_n dX2_isSoIn_8 rfl rfl rfl ?_
    refine A_icmp_gt dX2_isSoIn_9 rfl rfl h (fun h => ?_) (fun h => ?_)
    · refine V_iconst dX2_isSoIn_34 ci_1 rfl ?_
      exact A_creturn dX2_isSoIn_35 rfl (by decide) h
    · refine V_aload_n dX2_isSoIn_12 rfl rfl rfl ?_
      refine V_iload_n dX2_isSoIn_13 rfl rfl rfl ?_
      refine V_aload_n dX2_isSoIn_14 rfl rfl rfl ?_
      refine A_callC (ci := 2) eI dX2_isSoIn_15 cl_X2_29 (by decide) rfl rfl (As := [.int l3, .ref 16]) (st := []) rfl rfl (Nat.le_of_ble_eq_true rfl) rfl h (fun _ _ h => cp_X2_isSoBehind (d := d + 2) h) fun v1 F1 h => ?_
      refine A_if_ne dX2_isSoIn_18 rfl rfl h (fun h => ?_) (fun h => ?_)
      · refine V_aload_n dX2_isSoIn_23 rfl rfl rfl ?_
        refine A_callC (ci := 0) eI dX2_isSoIn_24 cl_X2_33 (by decide) rfl rfl (As := []) (st := []) rfl rfl (Nat.le_of_ble_eq_true rfl) rfl h (fun _ _ h => cp_X0_stepOn (d := d) h) fun v2 F2 h => ?_
        refine V_pop dX2_isSoIn_27 rfl rfl ?_
        refine V_iinc dX2_isSoIn_28 (v := l3 + 1) rfl (by rw [ci_1]) rfl (ls' := [.ref 35, .ref 16, .int l2, .int (l3 + 1)]) rfl rfl ?_
        refine V_goto dX2_isSoIn_31 rfl ?_
        exact ih (l3 + 1) F2 h
      · refine V_iconst dX2_isSoIn_21 ci_0 rfl ?_
        exact A_creturn dX2_isSoIn_22 rfl (by decide) h
theorem okX2_isSoIn {N d : Nat} {F : FF} {res : Int32 × FF} (h : fX2_isSoIn N F = some res) : FV cX2_isSoIn 4 RX2 (d + 4) (some .boolean) none 0 [.ref 35, .ref 16, .null, .null] [] F (RI res) := by
  unfold fX2_isSoIn at h
  refine V_aload_n dX2_isSoIn_0 rfl rfl rfl ?_
  refine A_callC (ci := 2) eI dX2_isSoIn_1 cl_X2_25 (by decide) rfl rfl (As := []) (st := []) rfl rfl (Nat.le_of_ble_eq_true rfl) rfl h (fun _ _ h => cp_X2_latest (d := d + 2) h) fun v1 F1 h => ?_
  refine V_istore_n dX2_isSoIn_4 rfl (by decide) rfl (ls' := [.ref 35, .ref 16, .int v1, .null]) rfl rfl ?_
  refine V_iconst dX2_isSoIn_5 ci_0 rfl ?_
  refine V_istore_n dX2_isSoIn_6 rfl (by decide) rfl (ls' := [.ref 35, .ref 16, .int v1, .int 0]) rfl rfl ?_
  exact okX2_isSoIn_L7 _ _ _ h
theorem cp_X2_isSoIn {N d : Nat} {F F' : FF} {r : Int32} (h : fX2_isSoIn N F = some (r, F')) : CP (d + 4) mX2_isSoIn [.ref 35, .ref 16] F (fun r' F'' => r' = eI r ∧ F'' = F') := CP_I rfl (Nat.le_of_ble_eq_true rfl) (okX2_isSoIn h)
theorem okX6_kinds_L17 {N d : Nat} {l1 : Int32} {res : Int32 × FF} : ∀ (n : Nat) (l2 : Int32) (l3 : Int32) (F : FF), fX6_kinds_L17 N l1 n l2 l3 F = some res → FV cX6_kinds 4 RX6 (d + 5) (some .int) none 17 [.ref 0, .int l1, .int l2, .int l3] [] F (RI res) := by
  intro n
  induction n with
  | zero =>
    intro l2 l3 F h
    rw [fX6_kinds_L17.eq_1] at h
    cases h
  | succ n ih =>
    intro l2 l3 F h
    rw [fX6_kinds_L17.eq_2] at h
    refine V_iload_n dX6_kinds_17 rfl rfl rfl ?_
    refine V_iconst dX6_kinds_18 ci_3 rfl ?_
    refine A_icmp_gt dX6_kinds_19 rfl rfl h (fun h => ?_) (fun h => ?_)
    · refine V_iload_n dX6_kinds_76 rfl rfl rfl ?_
      exact A_ireturn dX6_kinds_77 rfl h
    · refine V_aload_n dX6_kinds_22 rfl rfl rfl ?_
      refine F_getR dX6_kinds_23 fl_X6_16 ly_0 rfl rfl ?_
      refine V_aload_n dX6_kinds_26 rfl rfl rfl ?_
      refine F_getR dX6_kinds_27 fl_X6_10 ly_0 rfl rfl ?_
      refine A_callC (ci := 0) eU dX6_kinds_30 cl_X6_90 (by decide) rfl rfl (As := [.ref 1]) (st := []) rfl rfl (Nat.le_of_ble_eq_true rfl) rfl h (fun _ _ h => cp_X0_copy (d := d + 2) h) fun _ F1 h => ?_
      refine V_aload_n dX6_kinds_33 rfl rfl rfl ?_
      refine F_getR dX6_kinds_34 fl_X6_16 ly_0 rfl rfl ?_
      refine F_getR dX6_kinds_37 fl_X6_122 ly_16 rfl rfl ?_
      refine V_iload_n dX6_kinds_40 rfl rfl rfl ?_
      refine A_ldR (t := 5) dX6_kinds_41 rfl h fun v1 h => ?_
      refine V_iload_n dX6_kinds_42 rfl rfl rfl ?_
      refine A_pI dX6_kinds_43 fl_X6_142 rfl rfl rfl h fun F2 h => ?_
      refine V_iload_n dX6_kinds_46 rfl rfl rfl ?_
      refine V_aload_n dX6_kinds_47 rfl rfl rfl ?_
      refine F_getR dX6_kinds_48 fl_X6_37 ly_0 rfl rfl ?_
      refine V_aload_n dX6_kinds_51 rfl rfl rfl ?_
      refine F_getR dX6_kinds_52 fl_X6_16 ly_0 rfl rfl ?_
      refine A_callC (ci := 2) eI dX6_kinds_55 cl_X6_259 (by decide) rfl rfl (As := [.ref 16]) (st := [.int l2]) rfl rfl (Nat.le_of_ble_eq_true rfl) rfl h (fun _ _ h => cp_X2_isSoIn (d := d) h) fun v2 F3 h => ?_
      refine V_midI (q := 68) ((if v2 = 0 then 0 else (1 <<< (l3 &&& 31)) : Int32)) [.int l2] (fun yJ hy hJ => ?_) ?_
      · refine V_if_eq dX6_kinds_58 rfl rfl (fun c => ?_) (fun c => ?_)
        · rw [if_pos c] at hy
          refine V_iconst dX6_kinds_67 ci_0 rfl ?_
          rw [hy] at hJ
          exact hJ
        · rw [if_neg c] at hy
          refine V_iconst dX6_kinds_61 ci_1 rfl ?_
          refine V_iload_n dX6_kinds_62 rfl rfl rfl ?_
          refine V_ishl dX6_kinds_63 rfl ?_
          refine V_goto dX6_kinds_64 rfl ?_
          rw [hy] at hJ
          exact hJ
      · refine V_ior dX6_kinds_68 rfl ?_
        refine V_istore_n dX6_kinds_69 rfl (by decide) rfl (ls' := [.ref 0, .int l1, .int (l2 ||| ((if v2 = 0 then 0 else (1 <<< (l3 &&& 31)) : Int32))), .int l3]) rfl rfl ?_
        refine V_iinc dX6_kinds_70 (v := l3 + 1) rfl (by rw [ci_1]) rfl (ls' := [.ref 0, .int l1, .int (l2 ||| ((if v2 = 0 then 0 else (1 <<< (l3 &&& 31)) : Int32))), .int (l3 + 1)]) rfl rfl ?_
        refine V_goto dX6_kinds_73 rfl ?_
        exact ih (l2 ||| ((if v2 = 0 then 0 else (1 <<< (l3 &&& 31)) : Int32))) (l3 + 1) F3 h
theorem okX6_kinds {N d : Nat} {l1 : Int32} {F : FF} {res : Int32 × FF} (h : fX6_kinds N l1 F = some res) : FV cX6_kinds 4 RX6 (d + 5) (some .int) none 0 [.ref 0, .int l1, .null, .null] [] F (RI res) := by
  unfold fX6_kinds at h
  refine V_aload_n dX6_kinds_0 rfl rfl rfl ?_
  refine F_getR dX6_kinds_1 fl_X6_10 ly_0 rfl rfl ?_
  refine V_iload_n dX6_kinds_4 rfl rfl rfl ?_
  refine P_callV (ci := 0) dX6_kinds_5 cl_X6_138 (by decide) rfl rfl (cq_X0_hasShelf (d := d + 4) rfl) (As := [.int l1]) (st := []) rfl rfl (Nat.le_of_ble_eq_true rfl) rfl ?_
  refine A_if_ne dX6_kinds_8 rfl rfl h (fun h => ?_) (fun h => ?_)
  · refine V_iconst dX6_kinds_13 ci_0 rfl ?_
    refine V_istore_n dX6_kinds_14 rfl (by decide) rfl (ls' := [.ref 0, .int l1, .int 0, .null]) rfl rfl ?_
    refine V_iconst dX6_kinds_15 ci_0 rfl ?_
    refine V_istore_n dX6_kinds_16 rfl (by decide) rfl (ls' := [.ref 0, .int l1, .int 0, .int 0]) rfl rfl ?_
    exact okX6_kinds_L17 _ _ _ _ h
  · refine V_iconst dX6_kinds_11 ci_m1 rfl ?_
    exact A_ireturn dX6_kinds_12 rfl h
theorem cp_X6_kinds {N d : Nat} {l1 : Int32} {F F' : FF} {r : Int32} (h : fX6_kinds N l1 F = some (r, F')) : CP (d + 5) mX6_kinds [.ref 0, .int l1] F (fun r' F'' => r' = eI r ∧ F'' = F') := CP_I rfl (Nat.le_of_ble_eq_true rfl) (okX6_kinds h)
theorem okX6_candidates_L4 {N d : Nat} {l1 : Int32} {res : Int32 × FF} : ∀ (n : Nat) (l2 : Int32) (l3 : Int32) (F : FF), fX6_candidates_L4 N l1 n l2 l3 F = some res → FV cX6_candidates 4 RX6 (d + 5) (some .int) none 4 [.ref 0, .int l1, .int l2, .int l3] [] F (RI res) := by
  intro n
  induction n with
  | zero =>
    intro l2 l3 F h
    rw [fX6_candidates_L4.eq_1] at h
    cases h
  | succ n ih =>
    intro l2 l3 F h
    rw [fX6_candidates_L4.eq_2] at h
    refine V_iload_n dX6_candidates_4 rfl rfl rfl ?_
    refine V_aload_n dX6_candidates_5 rfl rfl rfl ?_
    refine F_getR dX6_candidates_6 fl_X6_10 ly_0 rfl rfl ?_
    refine F_getI dX6_candidates_9 fl_X6_97 ly_1 rfl rfl ?_
    refine A_icmp_ge dX6_candidates_12 rfl rfl h (fun h => ?_) (fun h => ?_)
    · refine V_iload_n dX6_candidates_66 rfl rfl rfl ?_
      exact A_ireturn dX6_candidates_67 rfl h
    · refine V_aload_n dX6_candidates_15 rfl rfl rfl ?_
      refine F_getR dX6_candidates_16 fl_X6_16 ly_0 rfl rfl ?_
      refine V_aload_n dX6_candidates_19 rfl rfl rfl ?_
      refine F_getR dX6_candidates_20 fl_X6_10 ly_0 rfl rfl ?_
      refine A_callC (ci := 0) eU dX6_candidates_23 cl_X6_90 (by decide) rfl rfl (As := [.ref 1]) (st := []) rfl rfl (Nat.le_of_ble_eq_true rfl) rfl h (fun _ _ h => cp_X0_copy (d := d + 2) h) fun _ F1 h => ?_
      refine V_aload_n dX6_candidates_26 rfl rfl rfl ?_
      refine F_getR dX6_candidates_27 fl_X6_16 ly_0 rfl rfl ?_
      refine F_getR dX6_candidates_30 fl_X6_160 ly_16 rfl rfl ?_
      refine V_iload_n dX6_candidates_33 rfl rfl rfl ?_
      refine V_iload_n dX6_candidates_34 rfl rfl rfl ?_
      refine A_st0 dX6_candidates_35 rfl h fun F2 h => ?_
      refine V_iload_n dX6_candidates_36 rfl rfl rfl ?_
      refine V_aload_n dX6_candidates_37 rfl rfl rfl ?_
      refine F_getR dX6_candidates_38 fl_X6_37 ly_0 rfl rfl ?_
      refine V_aload_n dX6_candidates_41 rfl rfl rfl ?_
      refine F_getR dX6_candidates_42 fl_X6_16 ly_0 rfl rfl ?_
      refine A_callC (ci := 2) eI dX6_candidates_45 cl_X6_259 (by decide) rfl rfl (As := [.ref 16]) (st := [.int l2]) rfl rfl (Nat.le_of_ble_eq_true rfl) rfl h (fun _ _ h => cp_X2_isSoIn (d := d) h) fun v1 F3 h => ?_
      refine V_midI (q := 58) ((if v1 = 0 then 0 else (1 <<< (l3 &&& 31)) : Int32)) [.int l2] (fun yJ hy hJ => ?_) ?_
      · refine V_if_eq dX6_candidates_48 rfl rfl (fun c => ?_) (fun c => ?_)
        · rw [if_pos c] at hy
          refine V_iconst dX6_candidates_57 ci_0 rfl ?_
          rw [hy] at hJ
          exact hJ
        · rw [if_neg c] at hy
          refine V_iconst dX6_candidates_51 ci_1 rfl ?_
          refine V_iload_n dX6_candidates_52 rfl rfl rfl ?_
          refine V_ishl dX6_candidates_53 rfl ?_
          refine V_goto dX6_candidates_54 rfl ?_
          rw [hy] at hJ
          exact hJ
      · refine V_ior dX6_candidates_58 rfl ?_
        refine V_istore_n dX6_candidates_59 rfl (by decide) rfl (ls' := [.ref 0, .int l1, .int (l2 ||| ((if v1 = 0 then 0 else (1 <<< (l3 &&& 31)) : Int32))), .int l3]) rfl rfl ?_
        refine V_iinc dX6_candidates_60 (v := l3 + 1) rfl (by rw [ci_1]) rfl (ls' := [.ref 0, .int l1, .int (l2 ||| ((if v1 = 0 then 0 else (1 <<< (l3 &&& 31)) : Int32))), .int (l3 + 1)]) rfl rfl ?_
        refine V_goto dX6_candidates_63 rfl ?_
        exact ih (l2 ||| ((if v1 = 0 then 0 else (1 <<< (l3 &&& 31)) : Int32))) (l3 + 1) F3 h
theorem okX6_candidates {N d : Nat} {l1 : Int32} {F : FF} {res : Int32 × FF} (h : fX6_candidates N l1 F = some res) : FV cX6_candidates 4 RX6 (d + 5) (some .int) none 0 [.ref 0, .int l1, .null, .null] [] F (RI res) := by
  unfold fX6_candidates at h
  refine V_iconst dX6_candidates_0 ci_0 rfl ?_
  refine V_istore_n dX6_candidates_1 rfl (by decide) rfl (ls' := [.ref 0, .int l1, .int 0, .null]) rfl rfl ?_
  refine V_iconst dX6_candidates_2 ci_0 rfl ?_
  refine V_istore_n dX6_candidates_3 rfl (by decide) rfl (ls' := [.ref 0, .int l1, .int 0, .int 0]) rfl rfl ?_
  exact okX6_candidates_L4 _ _ _ _ h
theorem cp_X6_candidates {N d : Nat} {l1 : Int32} {F F' : FF} {r : Int32} (h : fX6_candidates N l1 F = some (r, F')) : CP (d + 5) mX6_candidates [.ref 0, .int l1] F (fun r' F'' => r' = eI r ∧ F'' = F') := CP_I rfl (Nat.le_of_ble_eq_true rfl) (okX6_candidates h)
theorem okX6_books {N d : Nat} {l1 : Int32} {F : FF} {res : Int32 × FF} (h : fX6_books N l1 F = some res) : FV cX6_books 2 RX6 (d + 6) (some .int) none 0 [.ref 0, .int l1] [] F (RI res) := by
  unfold fX6_books at h
  refine V_aload_n dX6_books_0 rfl rfl rfl ?_
  refine F_getR dX6_books_1 fl_X6_10 ly_0 rfl rfl ?_
  refine V_iload_n dX6_books_4 rfl rfl rfl ?_
  refine P_callV (ci := 0) dX6_books_5 cl_X6_157 (by decide) rfl rfl (cq_X0_hasWant (d := d + 5) rfl) (As := [.int l1]) (st := []) rfl rfl (Nat.le_of_ble_eq_true rfl) rfl ?_
  refine A_if_eq dX6_books_8 rfl rfl h (fun h => ?_) (fun h => ?_)
  · refine V_iconst dX6_books_19 ci_m1 rfl ?_
    exact A_ireturn dX6_books_20 rfl h
  · refine V_aload_n dX6_books_11 rfl rfl rfl ?_
    refine V_iload_n dX6_books_12 rfl rfl rfl ?_
    refine A_callC (ci := 6) eI dX6_books_13 cl_X6_262 (by decide) rfl rfl (As := [.int l1]) (st := []) rfl rfl (Nat.le_of_ble_eq_true rfl) rfl h (fun _ _ h => cp_X6_candidates (d := d) h) fun v1 F1 h => ?_
    refine V_goto dX6_books_16 rfl ?_
    exact A_ireturn dX6_books_20 rfl h
theorem cp_X6_books {N d : Nat} {l1 : Int32} {F F' : FF} {r : Int32} (h : fX6_books N l1 F = some (r, F')) : CP (d + 6) mX6_books [.ref 0, .int l1] F (fun r' F'' => r' = eI r ∧ F'' = F') := CP_I rfl (Nat.le_of_ble_eq_true rfl) (okX6_books h)
theorem okX6_countLooksOfTrial_L10 {N d : Nat} {k2 : Int32 → FF → Option (Unit × FF)} {l1 : Int32} {res : Unit × FF} (hk2 : ∀ (x1 : Int32) (F : FF), k2 x1 F = some res → FV cX6_countLooksOfTrial 3 RX6 (d + 4) none none 2 [.ref 0, .int x1, .null] [] F (RU res)) : ∀ (n : Nat) (l2 : Int32) (F : FF), fX6_countLooksOfTrial_L10 N k2 l1 n l2 F = some res → FV cX6_countLooksOfTrial 3 RX6 (d + 4) none none 10 [.ref 0, .int l1, .int l2] [] F (RU res) := by
  intro n
  induction n with
  | zero =>
    intro l2 F h
    rw [fX6_countLooksOfTrial_L10.eq_1] at h
    cases h
  | succ n ih =>
    intro l2 F h
    rw [fX6_countLooksOfTrial_L10.eq_2] at h
    refine V_iload_n dX6_countLooksOfTrial_10 rfl rfl rfl ?_
    refine V_aload_n dX6_countLooksOfTrial_11 rfl rfl rfl ?_
    refine F_getR dX6_countLooksOfTrial_12 fl_X6_16 ly_0 rfl rfl ?_
    refine F_getI dX6_countLooksOfTrial_15 fl_X6_100 ly_16 rfl rfl ?_
    refine A_icmp_ge dX6_countLooksOfTrial_18 rfl rfl h (fun h => ?_) (fun h => ?_)
    · refine V_aload_n dX6_countLooksOfTrial_58 rfl rfl rfl ?_
      refine F_getR dX6_countLooksOfTrial_59 fl_X6_16 ly_0 rfl rfl ?_
      refine A_callC (ci := 0) eI dX6_countLooksOfTrial_62 cl_X6_175 (by decide) rfl rfl (As := []) (st := []) rfl rfl (Nat.le_of_ble_eq_true rfl) rfl h (fun _ _ h => cp_X0_stepOn (d := d) h) fun v1 F1 h => ?_
      refine V_pop dX6_countLooksOfTrial_65 rfl rfl ?_
      refine V_iinc dX6_countLooksOfTrial_66 (v := l1 + 1) rfl (by rw [ci_1]) rfl (ls' := [.ref 0, .int (l1 + 1), .int l2]) rfl rfl ?_
      refine V_goto dX6_countLooksOfTrial_69 rfl ?_
      refine V_weak [true, true, false] rfl ?_
      exact hk2 (l1 + 1) F1 h
    · refine V_aload_n dX6_countLooksOfTrial_21 rfl rfl rfl ?_
      refine F_getR dX6_countLooksOfTrial_22 fl_X6_61 ly_0 rfl rfl ?_
      refine V_iload_n dX6_countLooksOfTrial_25 rfl rfl rfl ?_
      refine V_iconst dX6_countLooksOfTrial_26 ci_4 rfl ?_
      refine V_imul dX6_countLooksOfTrial_27 rfl ?_
      refine V_iload_n dX6_countLooksOfTrial_28 rfl rfl rfl ?_
      refine V_iadd dX6_countLooksOfTrial_29 rfl ?_
      refine V_dup2 dX6_countLooksOfTrial_30 rfl rfl rfl ?_
      refine A_ld0 dX6_countLooksOfTrial_31 rfl h fun v2 h => ?_
      refine V_iconst dX6_countLooksOfTrial_32 ci_1 rfl ?_
      refine V_iconst dX6_countLooksOfTrial_33 ci_4 rfl ?_
      refine V_aload_n dX6_countLooksOfTrial_34 rfl rfl rfl ?_
      refine F_getR dX6_countLooksOfTrial_35 fl_X6_16 ly_0 rfl rfl ?_
      refine F_getR dX6_countLooksOfTrial_38 fl_X6_122 ly_16 rfl rfl ?_
      refine V_iload_n dX6_countLooksOfTrial_41 rfl rfl rfl ?_
      refine A_ldR (t := 5) dX6_countLooksOfTrial_42 rfl h fun v3 h => ?_
      refine A_gR dX6_countLooksOfTrial_43 fl_X6_145 rfl h fun v4 h => ?_
      refine V_iconst dX6_countLooksOfTrial_46 ci_0 rfl ?_
      refine A_ld0 dX6_countLooksOfTrial_47 rfl h fun v5 h => ?_
      refine V_imul dX6_countLooksOfTrial_48 rfl ?_
      refine V_ishl dX6_countLooksOfTrial_49 rfl ?_
      refine V_iadd dX6_countLooksOfTrial_50 rfl ?_
      refine A_st0 dX6_countLooksOfTrial_51 rfl h fun F2 h => ?_
      refine V_iinc dX6_countLooksOfTrial_52 (v := l2 + 1) rfl (by rw [ci_1]) rfl (ls' := [.ref 0, .int l1, .int (l2 + 1)]) rfl rfl ?_
      refine V_goto dX6_countLooksOfTrial_55 rfl ?_
      exact ih (l2 + 1) F2 h
theorem okX6_countLooksOfTrial_L2 {N d : Nat} {res : Unit × FF} : ∀ (n : Nat) (l1 : Int32) (F : FF), fX6_countLooksOfTrial_L2 N n l1 F = some res → FV cX6_countLooksOfTrial 3 RX6 (d + 4) none none 2 [.ref 0, .int l1, .null] [] F (RU res) := by
  intro n
  induction n with
  | zero =>
    intro l1 F h
    rw [fX6_countLooksOfTrial_L2.eq_1] at h
    cases h
  | succ n ih =>
    intro l1 F h
    rw [fX6_countLooksOfTrial_L2.eq_2] at h
    refine V_iload_n dX6_countLooksOfTrial_2 rfl rfl rfl ?_
    refine V_bipush dX6_countLooksOfTrial_3 cb_40 rfl ?_
    refine A_icmp_gt dX6_countLooksOfTrial_5 rfl rfl h (fun h => ?_) (fun h => ?_)
    · exact A_return dX6_countLooksOfTrial_72 rfl h
    · refine V_iconst dX6_countLooksOfTrial_8 ci_0 rfl ?_
      refine V_istore_n dX6_countLooksOfTrial_9 rfl (by decide) rfl (ls' := [.ref 0, .int l1, .int 0]) rfl rfl ?_
      exact okX6_countLooksOfTrial_L10 (fun x1 F h => ih x1 F h) _ _ _ h
theorem okX6_countLooksOfTrial {N d : Nat} {F : FF} {res : Unit × FF} (h : fX6_countLooksOfTrial N F = some res) : FV cX6_countLooksOfTrial 3 RX6 (d + 4) none none 0 [.ref 0, .null, .null] [] F (RU res) := by
  unfold fX6_countLooksOfTrial at h
  refine V_iconst dX6_countLooksOfTrial_0 ci_0 rfl ?_
  refine V_istore_n dX6_countLooksOfTrial_1 rfl (by decide) rfl (ls' := [.ref 0, .int 0, .null]) rfl rfl ?_
  exact okX6_countLooksOfTrial_L2 _ _ _ h
theorem cp_X6_countLooksOfTrial {N d : Nat} {F F' : FF} {r : Unit} (h : fX6_countLooksOfTrial N F = some (r, F')) : CP (d + 4) mX6_countLooksOfTrial [.ref 0] F (fun r' F'' => r' = eU r ∧ F'' = F') := CP_U rfl (Nat.le_of_ble_eq_true rfl) (okX6_countLooksOfTrial h)
theorem okX6_countLooks_b71 {N d : Nat} {k26 : Int32 → FF → Option (Unit × FF)} {l1 : Int32} {l2 : Int32} {l3 : Int32} {F : FF} {res : Unit × FF} (hk26 : ∀ (x3 : Int32) (F : FF), k26 x3 F = some res → FV cX6_countLooks 4 RX6 (d + 5) none none 26 [.ref 0, .int l1, .int l2, .int x3] [] F (RU res)) (h : fX6_countLooks_b71 N k26 l1 l2 l3 F = some res) : FV cX6_countLooks 4 RX6 (d + 5) none none 71 [.ref 0, .int l1, .int l2, .int l3] [] F (RU res) := by
  unfold fX6_countLooks_b71 at h
  refine V_iinc dX6_countLooks_71 (v := l3 + 1) rfl (by rw [ci_1]) rfl (ls' := [.ref 0, .int l1, .int l2, .int (l3 + 1)]) rfl rfl ?_
  refine V_goto dX6_countLooks_74 rfl ?_
  exact hk26 (l3 + 1) F h
theorem okX6_countLooks_L26 {N d : Nat} {l1 : Int32} {l2 : Int32} {res : Unit × FF} : ∀ (n : Nat) (l3 : Int32) (F : FF), fX6_countLooks_L26 N l1 l2 n l3 F = some res → FV cX6_countLooks 4 RX6 (d + 5) none none 26 [.ref 0, .int l1, .int l2, .int l3] [] F (RU res) := by
  intro n
  induction n with
  | zero =>
    intro l3 F h
    rw [fX6_countLooks_L26.eq_1] at h
    cases h
  | succ n ih =>
    intro l3 F h
    rw [fX6_countLooks_L26.eq_2] at h
    refine V_iload_n dX6_countLooks_26 rfl rfl rfl ?_
    refine V_aload_n dX6_countLooks_27 rfl rfl rfl ?_
    refine F_getR dX6_countLooks_28 fl_X6_10 ly_0 rfl rfl ?_
    refine F_getI dX6_countLooks_31 fl_X6_97 ly_1 rfl rfl ?_
    refine A_icmp_ge dX6_countLooks_34 rfl rfl h (fun h => ?_) (fun h => ?_)
    · exact A_return dX6_countLooks_77 rfl h
    · refine V_iload_n dX6_countLooks_37 rfl rfl rfl ?_
      refine V_iload_n dX6_countLooks_38 rfl rfl rfl ?_
      refine V_ishr dX6_countLooks_39 rfl ?_
      refine V_iconst dX6_countLooks_40 ci_1 rfl ?_
      refine V_iand dX6_countLooks_41 rfl ?_
      refine V_iconst dX6_countLooks_42 ci_1 rfl ?_
      refine A_icmp_ne dX6_countLooks_43 rfl rfl h (fun h => ?_) (fun h => ?_)
      · exact okX6_countLooks_b71 (fun x3 F h => ih x3 F h) h
      · refine V_aload_n dX6_countLooks_46 rfl rfl rfl ?_
        refine F_getR dX6_countLooks_47 fl_X6_16 ly_0 rfl rfl ?_
        refine V_aload_n dX6_countLooks_50 rfl rfl rfl ?_
        refine F_getR dX6_countLooks_51 fl_X6_10 ly_0 rfl rfl ?_
        refine A_callC (ci := 0) eU dX6_countLooks_54 cl_X6_90 (by decide) rfl rfl (As := [.ref 1]) (st := []) rfl rfl (Nat.le_of_ble_eq_true rfl) rfl h (fun _ _ h => cp_X0_copy (d := d + 2) h) fun _ F1 h => ?_
        refine V_aload_n dX6_countLooks_57 rfl rfl rfl ?_
        refine F_getR dX6_countLooks_58 fl_X6_16 ly_0 rfl rfl ?_
        refine F_getR dX6_countLooks_61 fl_X6_160 ly_16 rfl rfl ?_
        refine V_iload_n dX6_countLooks_64 rfl rfl rfl ?_
        refine V_iload_n dX6_countLooks_65 rfl rfl rfl ?_
        refine A_st0 dX6_countLooks_66 rfl h fun F2 h => ?_
        refine V_aload_n dX6_countLooks_67 rfl rfl rfl ?_
        refine A_callC (ci := 6) eU dX6_countLooks_68 cl_X6_271 (by decide) rfl rfl (As := []) (st := []) rfl rfl (Nat.le_of_ble_eq_true rfl) rfl h (fun _ _ h => cp_X6_countLooksOfTrial (d := d) h) fun _ F3 h => ?_
        exact okX6_countLooks_b71 (fun x3 F h => ih x3 F h) h
theorem okX6_countLooks_L2 {N d : Nat} {l1 : Int32} {l2 : Int32} {res : Unit × FF} : ∀ (n : Nat) (l3 : Int32) (F : FF), fX6_countLooks_L2 N l1 l2 n l3 F = some res → FV cX6_countLooks 4 RX6 (d + 5) none none 2 [.ref 0, .int l1, .int l2, .int l3] [] F (RU res) := by
  intro n
  induction n with
  | zero =>
    intro l3 F h
    rw [fX6_countLooks_L2.eq_1] at h
    cases h
  | succ n ih =>
    intro l3 F h
    rw [fX6_countLooks_L2.eq_2] at h
    refine V_iload_n dX6_countLooks_2 rfl rfl rfl ?_
    refine V_aload_n dX6_countLooks_3 rfl rfl rfl ?_
    refine F_getR dX6_countLooks_4 fl_X6_61 ly_0 rfl rfl ?_
    refine F_alen dX6_countLooks_7 ly_43 (by decide) rfl ?_
    refine A_icmp_ge dX6_countLooks_8 rfl rfl h (fun h => ?_) (fun h => ?_)
    · refine V_iconst dX6_countLooks_24 ci_0 rfl ?_
      refine V_istore_n dX6_countLooks_25 rfl (by decide) rfl (ls' := [.ref 0, .int l1, .int l2, .int 0]) rfl rfl ?_
      exact okX6_countLooks_L26 _ _ _ h
    · refine V_aload_n dX6_countLooks_11 rfl rfl rfl ?_
      refine F_getR dX6_countLooks_12 fl_X6_61 ly_0 rfl rfl ?_
      refine V_iload_n dX6_countLooks_15 rfl rfl rfl ?_
      refine V_iconst dX6_countLooks_16 ci_0 rfl ?_
      refine A_st0 dX6_countLooks_17 rfl h fun F1 h => ?_
      refine V_iinc dX6_countLooks_18 (v := l3 + 1) rfl (by rw [ci_1]) rfl (ls' := [.ref 0, .int l1, .int l2, .int (l3 + 1)]) rfl rfl ?_
      refine V_goto dX6_countLooks_21 rfl ?_
      exact ih (l3 + 1) F1 h
theorem okX6_countLooks {N d : Nat} {l1 : Int32} {l2 : Int32} {F : FF} {res : Unit × FF} (h : fX6_countLooks N l1 l2 F = some res) : FV cX6_countLooks 4 RX6 (d + 5) none none 0 [.ref 0, .int l1, .int l2, .null] [] F (RU res) := by
  unfold fX6_countLooks at h
  refine V_iconst dX6_countLooks_0 ci_0 rfl ?_
  refine V_istore_n dX6_countLooks_1 rfl (by decide) rfl (ls' := [.ref 0, .int l1, .int l2, .int 0]) rfl rfl ?_
  exact okX6_countLooks_L2 _ _ _ h
theorem cp_X6_countLooks {N d : Nat} {l1 : Int32} {l2 : Int32} {F F' : FF} {r : Unit} (h : fX6_countLooks N l1 l2 F = some (r, F')) : CP (d + 5) mX6_countLooks [.ref 0, .int l1, .int l2] F (fun r' F'' => r' = eU r ∧ F'' = F') := CP_U rfl (Nat.le_of_ble_eq_true rfl) (okX6_countLooks h)
theorem okX6_mostShowingOne_L4 {N d : Nat} {l0 : Int32} {res : Int32 × FF} : ∀ (n : Nat) (l1 : Int32) (l2 : Int32) (F : FF), fX6_mostShowingOne_L4 N l0 n l1 l2 F = some res → FV cX6_mostShowingOne 3 RX6 (d + 1) (some .int) none 4 [.int l0, .int l1, .int l2] [] F (RI res) := by
  intro n
  induction n with
  | zero =>
    intro l1 l2 F h
    rw [fX6_mostShowingOne_L4.eq_1] at h
    cases h
  | succ n ih =>
    intro l1 l2 F h
    rw [fX6_mostShowingOne_L4.eq_2] at h
    refine V_iload_n dX6_mostShowingOne_4 rfl rfl rfl ?_
    refine V_bipush dX6_mostShowingOne_5 cb_6 rfl ?_
    refine A_icmp_ge dX6_mostShowingOne_7 rfl rfl h (fun h => ?_) (fun h => ?_)
    · refine V_iload_n dX6_mostShowingOne_29 rfl rfl rfl ?_
      exact A_ireturn dX6_mostShowingOne_30 rfl h
    · refine V_iload_n dX6_mostShowingOne_10 rfl rfl rfl ?_
      refine V_iload_n dX6_mostShowingOne_11 rfl rfl rfl ?_
      refine V_iconst dX6_mostShowingOne_12 ci_4 rfl ?_
      refine V_iload_n dX6_mostShowingOne_13 rfl rfl rfl ?_
      refine V_imul dX6_mostShowingOne_14 rfl ?_
      refine V_ishr dX6_mostShowingOne_15 rfl ?_
      refine V_bipush dX6_mostShowingOne_16 cb_15 rfl ?_
      refine V_iand dX6_mostShowingOne_18 rfl ?_
      refine P_mmax dX6_mostShowingOne_19 cl_X6_274 (st := []) (Nat.le_of_ble_eq_true rfl) rfl ?_
      refine V_istore_n dX6_mostShowingOne_22 rfl (by decide) rfl (ls' := [.int l0, .int (mmax l1 ((l0 >>> ((4 * l2) &&& 31)) &&& 15)), .int l2]) rfl rfl ?_
      refine V_iinc dX6_mostShowingOne_23 (v := l2 + 1) rfl (by rw [ci_1]) rfl (ls' := [.int l0, .int (mmax l1 ((l0 >>> ((4 * l2) &&& 31)) &&& 15)), .int (l2 + 1)]) rfl rfl ?_
      refine V_goto dX6_mostShowingOne_26 rfl ?_
      exact ih (mmax l1 ((l0 >>> ((4 * l2) &&& 31)) &&& 15)) (l2 + 1) F h
theorem okX6_mostShowingOne {N d : Nat} {l0 : Int32} {F : FF} {res : Int32 × FF} (h : fX6_mostShowingOne N l0 F = some res) : FV cX6_mostShowingOne 3 RX6 (d + 1) (some .int) none 0 [.int l0, .null, .null] [] F (RI res) := by
  unfold fX6_mostShowingOne at h
  refine V_iconst dX6_mostShowingOne_0 ci_0 rfl ?_
  refine V_istore_n dX6_mostShowingOne_1 rfl (by decide) rfl (ls' := [.int l0, .int 0, .null]) rfl rfl ?_
  refine V_iconst dX6_mostShowingOne_2 ci_0 rfl ?_
  refine V_istore_n dX6_mostShowingOne_3 rfl (by decide) rfl (ls' := [.int l0, .int 0, .int 0]) rfl rfl ?_
  exact okX6_mostShowingOne_L4 _ _ _ _ h
theorem cp_X6_mostShowingOne {N d : Nat} {l0 : Int32} {F F' : FF} {r : Int32} (h : fX6_mostShowingOne N l0 F = some (r, F')) : CP (d + 1) mX6_mostShowingOne [.int l0] F (fun r' F'' => r' = eI r ∧ F'' = F') := CP_I rfl (Nat.le_of_ble_eq_true rfl) (okX6_mostShowingOne h)
theorem okX6_ask_L58 {N d : Nat} {k48 : Int32 → FF → Option (Int32 × FF)} {l2 : Int32} {l4 : Int32} {res : Int32 × FF} (hk48 : ∀ (x4 : Int32) (F : FF), k48 x4 F = some res → FV cX6_ask 6 RX6 (d + 6) (some .int) none 48 [.ref 0, .null, .int l2, .null, .int x4, .null] [] F (RI res)) : ∀ (n : Nat) (l5 : Int32) (F : FF), fX6_ask_L58 N k48 l2 l4 n l5 F = some res → FV cX6_ask 6 RX6 (d + 6) (some .int) none 58 [.ref 0, .null, .int l2, .null, .int l4, .int l5] [] F (RI res) := by
  intro n
  induction n with
  | zero =>
    intro l5 F h
    rw [fX6_ask_L58.eq_1] at h
    cases h
  | succ n ih =>
    intro l5 F h
    rw [fX6_ask_L58.eq_2] at h
    refine V_iload dX6_ask_58 rfl rfl ?_
    refine V_aload_n dX6_ask_60 rfl rfl rfl ?_
    refine F_getR dX6_ask_61 fl_X6_10 ly_0 rfl rfl ?_
    refine F_getI dX6_ask_64 fl_X6_100 ly_1 rfl rfl ?_
    refine A_icmp_ge dX6_ask_67 rfl rfl h (fun h => ?_) (fun h => ?_)
    · refine V_iinc dX6_ask_106 (v := l4 + 1) rfl (by rw [ci_1]) rfl (ls' := [.ref 0, .null, .int l2, .null, .int (l4 + 1), .int l5]) rfl rfl ?_
      refine V_goto dX6_ask_109 rfl ?_
      refine V_weak [true, false, true, false, true, false] rfl ?_
      exact hk48 (l4 + 1) F h
    · refine V_aload_n dX6_ask_70 rfl rfl rfl ?_
      refine F_getR dX6_ask_71 fl_X6_50 ly_0 rfl rfl ?_
      refine V_bipush dX6_ask_74 cb_10 rfl ?_
      refine V_iload dX6_ask_76 rfl rfl ?_
      refine V_imul dX6_ask_78 rfl ?_
      refine V_iload dX6_ask_79 rfl rfl ?_
      refine V_iadd dX6_ask_81 rfl ?_
      refine V_aload_n dX6_ask_82 rfl rfl rfl ?_
      refine F_getR dX6_ask_83 fl_X6_61 ly_0 rfl rfl ?_
      refine V_iload dX6_ask_86 rfl rfl ?_
      refine V_iconst dX6_ask_88 ci_4 rfl ?_
      refine V_imul dX6_ask_89 rfl ?_
      refine V_iload dX6_ask_90 rfl rfl ?_
      refine V_iadd dX6_ask_92 rfl ?_
      refine A_ld0 dX6_ask_93 rfl h fun v1 h => ?_
      refine A_callS eI dX6_ask_94 cl_X6_268 (As := [.int v1]) (st := [.int ((10 * l4) + l5), .ref 40]) rfl rfl (Nat.le_of_ble_eq_true rfl) rfl h (fun _ _ h => cp_X6_mostShowingOne (d := d + 4) h) fun v2 F1 h => ?_
      refine A_callC (ci := 1) eU dX6_ask_97 cl_X6_131 (by decide) rfl rfl (As := [.int ((10 * l4) + l5), .int v2]) (st := []) rfl rfl (Nat.le_of_ble_eq_true rfl) rfl h (fun _ _ h => cp_X1_offer (d := d + 5) h) fun _ F2 h => ?_
      refine V_iinc dX6_ask_100 (v := l5 + 1) rfl (by rw [ci_1]) rfl (ls' := [.ref 0, .null, .int l2, .null, .int l4, .int (l5 + 1)]) rfl rfl ?_
      refine V_goto dX6_ask_103 rfl ?_
      exact ih (l5 + 1) F2 h
theorem okX6_ask_L48 {N d : Nat} {l2 : Int32} {res : Int32 × FF} : ∀ (n : Nat) (l4 : Int32) (F : FF), fX6_ask_L48 N l2 n l4 F = some res → FV cX6_ask 6 RX6 (d + 6) (some .int) none 48 [.ref 0, .null, .int l2, .null, .int l4, .null] [] F (RI res) := by
  intro n
  induction n with
  | zero =>
    intro l4 F h
    rw [fX6_ask_L48.eq_1] at h
    cases h
  | succ n ih =>
    intro l4 F h
    rw [fX6_ask_L48.eq_2] at h
    refine V_iload dX6_ask_48 rfl rfl ?_
    refine V_bipush dX6_ask_50 cb_40 rfl ?_
    refine A_icmp_gt dX6_ask_52 rfl rfl h (fun h => ?_) (fun h => ?_)
    · refine V_aload_n dX6_ask_112 rfl rfl rfl ?_
      refine F_getR dX6_ask_113 fl_X6_50 ly_0 rfl rfl ?_
      refine V_iload_n dX6_ask_116 rfl rfl rfl ?_
      refine P_callV (ci := 1) dX6_ask_117 cl_X6_225 (by decide) rfl rfl (cq_X1_answer (d := d + 5)) (As := [.int l2]) (st := []) rfl rfl (Nat.le_of_ble_eq_true rfl) rfl ?_
      exact A_ireturn dX6_ask_120 rfl h
    · refine V_iconst dX6_ask_55 ci_0 rfl ?_
      refine V_istore dX6_ask_56 (by decide) rfl (ls' := [.ref 0, .null, .int l2, .null, .int l4, .int 0]) rfl rfl ?_
      exact okX6_ask_L58 (fun x4 F h => ih x4 F h) _ _ _ h
theorem okX6_ask {N d : Nat} {l1 : Int32} {l2 : Int32} {F : FF} {res : Int32 × FF} (h : fX6_ask N l1 l2 F = some res) : FV cX6_ask 6 RX6 (d + 6) (some .int) none 0 [.ref 0, .int l1, .int l2, .null, .null, .null] [] F (RI res) := by
  unfold fX6_ask at h
  refine V_aload_n dX6_ask_0 rfl rfl rfl ?_
  refine F_getR dX6_ask_1 fl_X6_10 ly_0 rfl rfl ?_
  refine V_iload_n dX6_ask_4 rfl rfl rfl ?_
  refine P_callV (ci := 0) dX6_ask_5 cl_X6_157 (by decide) rfl rfl (cq_X0_hasWant (d := d + 5) rfl) (As := [.int l1]) (st := []) rfl rfl (Nat.le_of_ble_eq_true rfl) rfl ?_
  refine A_if_eq dX6_ask_8 rfl rfl h (fun h => ?_) (fun h => ?_)
  · refine V_iconst dX6_ask_20 ci_m1 rfl ?_
    exact A_ireturn dX6_ask_21 rfl h
  · refine V_iload_n dX6_ask_11 rfl rfl rfl ?_
    refine V_iconst dX6_ask_12 ci_0 rfl ?_
    refine V_iconst dX6_ask_13 ci_1 rfl ?_
    refine P_callS dX6_ask_14 cl_X6_69 (cq_X6_within (d := d + 5)) (As := [.int l2, .int 0, .int 1]) (st := []) rfl rfl (Nat.le_of_ble_eq_true rfl) rfl ?_
    refine A_if_ne dX6_ask_17 rfl rfl h (fun h => ?_) (fun h => ?_)
    · refine V_aload_n dX6_ask_22 rfl rfl rfl ?_
      refine V_iload_n dX6_ask_23 rfl rfl rfl ?_
      refine A_callC (ci := 6) eI dX6_ask_24 cl_X6_262 (by decide) rfl rfl (As := [.int l1]) (st := []) rfl rfl (Nat.le_of_ble_eq_true rfl) rfl h (fun _ _ h => cp_X6_candidates (d := d) h) fun v1 F1 h => ?_
      refine V_istore_n dX6_ask_27 rfl (by decide) rfl (ls' := [.ref 0, .int l1, .int l2, .int v1, .null, .null]) rfl rfl ?_
      refine V_aload_n dX6_ask_28 rfl rfl rfl ?_
      refine V_iload_n dX6_ask_29 rfl rfl rfl ?_
      refine V_iload_n dX6_ask_30 rfl rfl rfl ?_
      refine A_callC (ci := 6) eU dX6_ask_31 cl_X6_265 (by decide) rfl rfl (As := [.int l1, .int v1]) (st := []) rfl rfl (Nat.le_of_ble_eq_true rfl) rfl h (fun _ _ h => cp_X6_countLooks (d := d) h) fun _ F2 h => ?_
      refine V_aload_n dX6_ask_34 rfl rfl rfl ?_
      refine F_getR dX6_ask_35 fl_X6_50 ly_0 rfl rfl ?_
      refine V_iload_n dX6_ask_38 rfl rfl rfl ?_
      refine P_callS dX6_ask_39 cl_X6_251 (cq_J6_bitCount_0f7a4 (d := d + 5)) (As := [.int v1]) (st := [.ref 40]) rfl rfl (Nat.le_of_ble_eq_true rfl) rfl ?_
      refine A_callC (ci := 1) eU dX6_ask_42 cl_X6_118 (by decide) rfl rfl (As := [.int (pJ6_bitCount_0f7a4 v1 F2)]) (st := []) rfl rfl (Nat.le_of_ble_eq_true rfl) rfl h (fun _ _ h => cp_X1_reset (d := d + 5) h) fun _ F3 h => ?_
      refine V_iconst dX6_ask_45 ci_0 rfl ?_
      refine V_istore dX6_ask_46 (by decide) rfl (ls' := [.ref 0, .int l1, .int l2, .int v1, .int 0, .null]) rfl rfl ?_
      refine V_weak [true, false, true, false, true, false] rfl ?_
      exact okX6_ask_L48 _ _ _ h
    · refine V_iconst dX6_ask_20 ci_m1 rfl ?_
      exact A_ireturn dX6_ask_21 rfl h
theorem cp_X6_ask {N d : Nat} {l1 : Int32} {l2 : Int32} {F F' : FF} {r : Int32} (h : fX6_ask N l1 l2 F = some (r, F')) : CP (d + 6) mX6_ask [.ref 0, .int l1, .int l2] F (fun r' F'' => r' = eI r ∧ F'' = F') := CP_I rfl (Nat.le_of_ble_eq_true rfl) (okX6_ask h)
theorem okX6_paidBySeed_L9 {N d : Nat} {l1 : Nat} {l3 : Int32} {res : Int32 × FF} : ∀ (n : Nat) (l4 : Int32) (l5 : Int32) (l6 : Int32) (F : FF), fX6_paidBySeed_L9 N l1 l3 n l4 l5 l6 F = some res → FV cX6_paidBySeed 8 RX6 (d + 2) (some .int) none 9 [.ref 0, .ref l1, .null, .int l3, .int l4, .int l5, .int l6, .null] [] F (RI res) := by
  intro n
  induction n with
  | zero =>
    intro l4 l5 l6 F h
    rw [fX6_paidBySeed_L9.eq_1] at h
    cases h
  | succ n ih =>
    intro l4 l5 l6 F h
    rw [fX6_paidBySeed_L9.eq_2] at h
    refine V_iload dX6_paidBySeed_9 rfl rfl ?_
    refine V_iload_n dX6_paidBySeed_11 rfl rfl rfl ?_
    refine A_icmp_ge dX6_paidBySeed_12 rfl rfl h (fun h => ?_) (fun h => ?_)
    · refine V_iload dX6_paidBySeed_67 rfl rfl ?_
      exact A_ireturn dX6_paidBySeed_69 rfl h
    · refine V_iload dX6_paidBySeed_15 rfl rfl ?_
      refine V_ldcw dX6_paidBySeed_17 kc_X6_283 rfl ?_
      refine V_imul dX6_paidBySeed_20 rfl ?_
      refine V_sipush dX6_paidBySeed_21 cs_12345 rfl ?_
      refine V_iadd dX6_paidBySeed_24 rfl ?_
      refine V_istore dX6_paidBySeed_25 (by decide) rfl (ls' := [.ref 0, .ref l1, .null, .int l3, .int ((l4 * 1103515245) + 12345), .int l5, .int l6, .null]) rfl rfl ?_
      refine V_iload dX6_paidBySeed_27 rfl rfl ?_
      refine V_bipush dX6_paidBySeed_29 cb_16 rfl ?_
      refine U_iushr dX6_paidBySeed_31 rfl ?_
      refine V_sipush dX6_paidBySeed_32 cs_32767 rfl ?_
      refine V_iand dX6_paidBySeed_35 rfl ?_
      refine V_istore dX6_paidBySeed_36 (by decide) rfl (ls' := [.ref 0, .ref l1, .null, .int l3, .int ((l4 * 1103515245) + 12345), .int l5, .int l6, .int ((iushr ((l4 * 1103515245) + 12345) 16) &&& 32767)]) rfl rfl ?_
      refine V_iload dX6_paidBySeed_38 rfl rfl ?_
      refine V_aload_n dX6_paidBySeed_40 rfl rfl rfl ?_
      refine V_iload dX6_paidBySeed_41 rfl rfl ?_
      refine V_iconst dX6_paidBySeed_43 ci_1 rfl ?_
      refine V_aload_n dX6_paidBySeed_44 rfl rfl rfl ?_
      refine F_getR dX6_paidBySeed_45 fl_X6_10 ly_0 rfl rfl ?_
      refine F_getI dX6_paidBySeed_48 fl_X6_97 ly_1 rfl rfl ?_
      refine P_mmax dX6_paidBySeed_51 cl_X6_274 (st := [.int ((iushr ((l4 * 1103515245) + 12345) 16) &&& 32767), .ref l1, .int l5]) (Nat.le_of_ble_eq_true rfl) rfl ?_
      refine A_dv h fun hy h => ?_
      refine U_irem dX6_paidBySeed_54 hy rfl ?_
      refine A_callV (ci := 4) eI dX6_paidBySeed_55 cl_X6_284 (by decide) rfl (As := [.int (irem ((iushr ((l4 * 1103515245) + 12345) 16) &&& 32767) (mmax 1 (F 1 0)))]) (st := [.int l5]) rfl rfl (Nat.le_of_ble_eq_true rfl) rfl h (fun _ _ h => cp_X4_serve (d := d) h) fun v1 F1 h => ?_
      refine V_iadd dX6_paidBySeed_58 rfl ?_
      refine V_istore dX6_paidBySeed_59 (by decide) rfl (ls' := [.ref 0, .ref l1, .null, .int l3, .int ((l4 * 1103515245) + 12345), .int (l5 + v1), .int l6, .int ((iushr ((l4 * 1103515245) + 12345) 16) &&& 32767)]) rfl rfl ?_
      refine V_iinc dX6_paidBySeed_61 (v := l6 + 1) rfl (by rw [ci_1]) rfl (ls' := [.ref 0, .ref l1, .null, .int l3, .int ((l4 * 1103515245) + 12345), .int (l5 + v1), .int (l6 + 1), .int ((iushr ((l4 * 1103515245) + 12345) 16) &&& 32767)]) rfl rfl ?_
      refine V_goto dX6_paidBySeed_64 rfl ?_
      refine V_weak [true, true, false, true, true, true, true, false] rfl ?_
      exact ih ((l4 * 1103515245) + 12345) (l5 + v1) (l6 + 1) F1 h
theorem okX6_paidBySeed {N d : Nat} {l1 : Nat} {l2 : Int32} {l3 : Int32} {F : FF} {res : Int32 × FF} (h : fX6_paidBySeed N l1 l2 l3 F = some res) : FV cX6_paidBySeed 8 RX6 (d + 2) (some .int) none 0 [.ref 0, .ref l1, .int l2, .int l3, .null, .null, .null, .null] [] F (RI res) := by
  unfold fX6_paidBySeed at h
  refine V_iload_n dX6_paidBySeed_0 rfl rfl rfl ?_
  refine V_istore dX6_paidBySeed_1 (by decide) rfl (ls' := [.ref 0, .ref l1, .int l2, .int l3, .int l2, .null, .null, .null]) rfl rfl ?_
  refine V_iconst dX6_paidBySeed_3 ci_0 rfl ?_
  refine V_istore dX6_paidBySeed_4 (by decide) rfl (ls' := [.ref 0, .ref l1, .int l2, .int l3, .int l2, .int 0, .null, .null]) rfl rfl ?_
  refine V_iconst dX6_paidBySeed_6 ci_0 rfl ?_
  refine V_istore dX6_paidBySeed_7 (by decide) rfl (ls' := [.ref 0, .ref l1, .int l2, .int l3, .int l2, .int 0, .int 0, .null]) rfl rfl ?_
  refine V_weak [true, true, false, true, true, true, true, false] rfl ?_
  exact okX6_paidBySeed_L9 _ _ _ _ _ h
theorem cp_X6_paidBySeed {N d : Nat} {l1 : Nat} {l2 : Int32} {l3 : Int32} {F F' : FF} {r : Int32} (h : fX6_paidBySeed N l1 l2 l3 F = some (r, F')) : CP (d + 2) mX6_paidBySeed [.ref 0, .ref l1, .int l2, .int l3] F (fun r' F'' => r' = eI r ∧ F'' = F') := CP_I rfl (Nat.le_of_ble_eq_true rfl) (okX6_paidBySeed h)
theorem okX6_drift_L61 {N d : Nat} {l1 : Int32} {l2 : Int32} {l3 : Int32} {res : Int32 × FF} : ∀ (n : Nat) (l4 : Int32) (l5 : Int32) (F : FF), fX6_drift_L61 N l1 l2 l3 n l4 l5 F = some res → FV cX6_drift 7 RX6 (d + 3) (some .int) none 61 [.ref 0, .int l1, .int l2, .int l3, .int l4, .int l5, .null] [] F (RI res) := by
  intro n
  induction n with
  | zero =>
    intro l4 l5 F h
    rw [fX6_drift_L61.eq_1] at h
    cases h
  | succ n ih =>
    intro l4 l5 F h
    rw [fX6_drift_L61.eq_2] at h
    refine V_iload dX6_drift_61 rfl rfl ?_
    refine V_aload_n dX6_drift_63 rfl rfl rfl ?_
    refine F_getR dX6_drift_64 fl_X6_16 ly_0 rfl rfl ?_
    refine F_getI dX6_drift_67 fl_X6_100 ly_16 rfl rfl ?_
    refine A_icmp_ge dX6_drift_70 rfl rfl h (fun h => ?_) (fun h => ?_)
    · refine V_iload_n dX6_drift_115 rfl rfl rfl ?_
      refine V_midI (q := 131) ((if ¬ l3 = 0 then (F 40 0) else l4 : Int32)) [] (fun yJ hy hJ => ?_) ?_
      · refine V_if_ne dX6_drift_116 rfl rfl (fun c => ?_) (fun c => ?_)
        · rw [if_pos c] at hy
          refine V_aload_n dX6_drift_124 rfl rfl rfl ?_
          refine F_getR dX6_drift_125 fl_X6_50 ly_0 rfl rfl ?_
          refine F_getI dX6_drift_128 fl_X6_135 ly_40 rfl rfl ?_
          rw [hy] at hJ
          exact hJ
        · rw [if_neg (fun z => z c)] at hy
          refine V_iload dX6_drift_119 rfl rfl ?_
          refine V_goto dX6_drift_121 rfl ?_
          rw [hy] at hJ
          exact hJ
      · exact A_ireturn dX6_drift_131 rfl h
    · refine V_aload_n dX6_drift_73 rfl rfl rfl ?_
      refine V_aload_n dX6_drift_74 rfl rfl rfl ?_
      refine F_getR dX6_drift_75 fl_X6_16 ly_0 rfl rfl ?_
      refine F_getR dX6_drift_78 fl_X6_122 ly_16 rfl rfl ?_
      refine V_iload dX6_drift_81 rfl rfl ?_
      refine A_ldR (t := 5) dX6_drift_83 rfl h fun v1 h => ?_
      refine V_iload_n dX6_drift_84 rfl rfl rfl ?_
      refine V_iload_n dX6_drift_85 rfl rfl rfl ?_
      refine A_callC (ci := 6) eI dX6_drift_86 cl_X6_279 (by decide) rfl rfl (As := [.ref v1, .int l1, .int l2]) (st := []) rfl rfl (Nat.le_of_ble_eq_true rfl) rfl h (fun _ _ h => cp_X6_paidBySeed (d := d) h) fun v2 F1 h => ?_
      refine V_istore dX6_drift_89 (by decide) rfl (ls' := [.ref 0, .int l1, .int l2, .int l3, .int l4, .int l5, .int v2]) rfl rfl ?_
      refine V_aload_n dX6_drift_91 rfl rfl rfl ?_
      refine F_getR dX6_drift_92 fl_X6_50 ly_0 rfl rfl ?_
      refine V_iload dX6_drift_95 rfl rfl ?_
      refine V_iload dX6_drift_97 rfl rfl ?_
      refine A_callC (ci := 1) eU dX6_drift_99 cl_X6_131 (by decide) rfl rfl (As := [.int l5, .int v2]) (st := []) rfl rfl (Nat.le_of_ble_eq_true rfl) rfl h (fun _ _ h => cp_X1_offer (d := d + 2) h) fun _ F2 h => ?_
      refine V_iload dX6_drift_102 rfl rfl ?_
      refine V_iload dX6_drift_104 rfl rfl ?_
      refine V_iadd dX6_drift_106 rfl ?_
      refine V_istore dX6_drift_107 (by decide) rfl (ls' := [.ref 0, .int l1, .int l2, .int l3, .int (l4 + v2), .int l5, .int v2]) rfl rfl ?_
      refine V_iinc dX6_drift_109 (v := l5 + 1) rfl (by rw [ci_1]) rfl (ls' := [.ref 0, .int l1, .int l2, .int l3, .int (l4 + v2), .int (l5 + 1), .int v2]) rfl rfl ?_
      refine V_goto dX6_drift_112 rfl ?_
      refine V_weak [true, true, true, true, true, true, false] rfl ?_
      exact ih (l4 + v2) (l5 + 1) F2 h
theorem okX6_drift {N d : Nat} {l1 : Int32} {l2 : Int32} {l3 : Int32} {F : FF} {res : Int32 × FF} (h : fX6_drift N l1 l2 l3 F = some res) : FV cX6_drift 7 RX6 (d + 3) (some .int) none 0 [.ref 0, .int l1, .int l2, .int l3, .null, .null, .null] [] F (RI res) := by
  unfold fX6_drift at h
  refine V_iload_n dX6_drift_0 rfl rfl rfl ?_
  refine V_iconst dX6_drift_1 ci_1 rfl ?_
  refine V_sipush dX6_drift_2 cs_200 rfl ?_
  refine P_callS dX6_drift_5 cl_X6_69 (cq_X6_within (d := d + 2)) (As := [.int l2, .int 1, .int 200]) (st := []) rfl rfl (Nat.le_of_ble_eq_true rfl) rfl ?_
  refine A_if_eq dX6_drift_8 rfl rfl h (fun h => ?_) (fun h => ?_)
  · refine V_iconst dX6_drift_20 ci_m1 rfl ?_
    exact A_ireturn dX6_drift_21 rfl h
  · refine V_iload_n dX6_drift_11 rfl rfl rfl ?_
    refine V_iconst dX6_drift_12 ci_0 rfl ?_
    refine V_iconst dX6_drift_13 ci_1 rfl ?_
    refine P_callS dX6_drift_14 cl_X6_69 (cq_X6_within (d := d + 2)) (As := [.int l3, .int 0, .int 1]) (st := []) rfl rfl (Nat.le_of_ble_eq_true rfl) rfl ?_
    refine A_if_ne dX6_drift_17 rfl rfl h (fun h => ?_) (fun h => ?_)
    · refine V_aload_n dX6_drift_22 rfl rfl rfl ?_
      refine F_getR dX6_drift_23 fl_X6_10 ly_0 rfl rfl ?_
      refine F_getI dX6_drift_26 fl_X6_100 ly_1 rfl rfl ?_
      refine A_if_ne dX6_drift_29 rfl rfl h (fun h => ?_) (fun h => ?_)
      · refine V_aload_n dX6_drift_35 rfl rfl rfl ?_
        refine F_getR dX6_drift_36 fl_X6_16 ly_0 rfl rfl ?_
        refine V_aload_n dX6_drift_39 rfl rfl rfl ?_
        refine F_getR dX6_drift_40 fl_X6_10 ly_0 rfl rfl ?_
        refine A_callC (ci := 0) eU dX6_drift_43 cl_X6_90 (by decide) rfl rfl (As := [.ref 1]) (st := []) rfl rfl (Nat.le_of_ble_eq_true rfl) rfl h (fun _ _ h => cp_X0_copy (d := d) h) fun _ F1 h => ?_
        refine V_aload_n dX6_drift_46 rfl rfl rfl ?_
        refine F_getR dX6_drift_47 fl_X6_50 ly_0 rfl rfl ?_
        refine V_ldc dX6_drift_50 kc_X6_117 rfl ?_
        refine A_callC (ci := 1) eU dX6_drift_52 cl_X6_118 (by decide) rfl rfl (As := [.int 1000000000]) (st := []) rfl rfl (Nat.le_of_ble_eq_true rfl) rfl h (fun _ _ h => cp_X1_reset (d := d + 2) h) fun _ F2 h => ?_
        refine V_iconst dX6_drift_55 ci_0 rfl ?_
        refine V_istore dX6_drift_56 (by decide) rfl (ls' := [.ref 0, .int l1, .int l2, .int l3, .int 0, .null, .null]) rfl rfl ?_
        refine V_iconst dX6_drift_58 ci_0 rfl ?_
        refine V_istore dX6_drift_59 (by decide) rfl (ls' := [.ref 0, .int l1, .int l2, .int l3, .int 0, .int 0, .null]) rfl rfl ?_
        exact okX6_drift_L61 _ _ _ _ h
      · refine V_bipush dX6_drift_32 cb_m2 rfl ?_
        exact A_ireturn dX6_drift_34 rfl h
    · refine V_iconst dX6_drift_20 ci_m1 rfl ?_
      exact A_ireturn dX6_drift_21 rfl h
theorem cp_X6_drift {N d : Nat} {l1 : Int32} {l2 : Int32} {l3 : Int32} {F F' : FF} {r : Int32} (h : fX6_drift N l1 l2 l3 F = some (r, F')) : CP (d + 3) mX6_drift [.ref 0, .int l1, .int l2, .int l3] F (fun r' F'' => r' = eI r ∧ F'' = F') := CP_I rfl (Nat.le_of_ble_eq_true rfl) (okX6_drift h)
theorem okX6_keep {N d : Nat} {l1 : Int32} {F : FF} {res : Int32 × FF} (h : fX6_keep N l1 F = some res) : FV cX6_keep 3 RX6 (d + 3) (some .int) none 0 [.ref 0, .int l1, .null] [] F (RI res) := by
  unfold fX6_keep at h
  refine V_iload_n dX6_keep_0 rfl rfl rfl ?_
  refine V_iconst dX6_keep_1 ci_0 rfl ?_
  refine V_iconst dX6_keep_2 ci_1 rfl ?_
  refine P_callS dX6_keep_3 cl_X6_69 (cq_X6_within (d := d + 2)) (As := [.int l1, .int 0, .int 1]) (st := []) rfl rfl (Nat.le_of_ble_eq_true rfl) rfl ?_
  refine A_if_ne dX6_keep_6 rfl rfl h (fun h => ?_) (fun h => ?_)
  · refine V_aload_n dX6_keep_11 rfl rfl rfl ?_
    refine F_getR dX6_keep_12 fl_X6_23 ly_0 rfl rfl ?_
    refine V_iload_n dX6_keep_15 rfl rfl rfl ?_
    refine A_ld2 dX6_keep_16 rfl h fun v1 h => ?_
    refine V_midI (q := 25) ((if v1 = 0 then 0 else 1 : Int32)) [] (fun yJ hy hJ => ?_) ?_
    · refine V_if_eq dX6_keep_17 rfl rfl (fun c => ?_) (fun c => ?_)
      · rw [if_pos c] at hy
        refine V_iconst dX6_keep_24 ci_0 rfl ?_
        rw [hy] at hJ
        exact hJ
      · rw [if_neg c] at hy
        refine V_iconst dX6_keep_20 ci_1 rfl ?_
        refine V_goto dX6_keep_21 rfl ?_
        rw [hy] at hJ
        exact hJ
    · refine V_istore_n dX6_keep_25 rfl (by decide) rfl (ls' := [.ref 0, .int l1, .int ((if v1 = 0 then 0 else 1 : Int32))]) rfl rfl ?_
      refine V_aload_n dX6_keep_26 rfl rfl rfl ?_
      refine F_getR dX6_keep_27 fl_X6_19 ly_0 rfl rfl ?_
      refine V_iload_n dX6_keep_30 rfl rfl rfl ?_
      refine A_ldR (t := 3) dX6_keep_31 rfl h fun v2 h => ?_
      refine V_aload_n dX6_keep_32 rfl rfl rfl ?_
      refine F_getR dX6_keep_33 fl_X6_10 ly_0 rfl rfl ?_
      refine A_callV (ci := 0) eU dX6_keep_36 cl_X6_90 (by decide) rfl (As := [.ref 1]) (st := []) rfl rfl (Nat.le_of_ble_eq_true rfl) rfl h (fun _ _ h => cp_X0_copy (d := d) h) fun _ F1 h => ?_
      refine V_aload_n dX6_keep_39 rfl rfl rfl ?_
      refine F_getR dX6_keep_40 fl_X6_23 ly_0 rfl rfl ?_
      refine V_iload_n dX6_keep_43 rfl rfl rfl ?_
      refine V_iconst dX6_keep_44 ci_1 rfl ?_
      refine A_st2 dX6_keep_45 rfl h fun F2 h => ?_
      refine V_iload_n dX6_keep_46 rfl rfl rfl ?_
      exact A_ireturn dX6_keep_47 rfl h
  · refine V_iconst dX6_keep_9 ci_m1 rfl ?_
    exact A_ireturn dX6_keep_10 rfl h
theorem cp_X6_keep {N d : Nat} {l1 : Int32} {F F' : FF} {r : Int32} (h : fX6_keep N l1 F = some (r, F')) : CP (d + 3) mX6_keep [.ref 0, .int l1] F (fun r' F'' => r' = eI r ∧ F'' = F') := CP_I rfl (Nat.le_of_ble_eq_true rfl) (okX6_keep h)
theorem okX6_back {N d : Nat} {l1 : Int32} {F : FF} {res : Int32 × FF} (h : fX6_back N l1 F = some res) : FV cX6_back 2 RX6 (d + 3) (some .int) none 0 [.ref 0, .int l1] [] F (RI res) := by
  unfold fX6_back at h
  refine V_iload_n dX6_back_0 rfl rfl rfl ?_
  refine V_iconst dX6_back_1 ci_0 rfl ?_
  refine V_iconst dX6_back_2 ci_1 rfl ?_
  refine P_callS dX6_back_3 cl_X6_69 (cq_X6_within (d := d + 2)) (As := [.int l1, .int 0, .int 1]) (st := []) rfl rfl (Nat.le_of_ble_eq_true rfl) rfl ?_
  refine A_if_ne dX6_back_6 rfl rfl h (fun h => ?_) (fun h => ?_)
  · refine V_aload_n dX6_back_11 rfl rfl rfl ?_
    refine F_getR dX6_back_12 fl_X6_23 ly_0 rfl rfl ?_
    refine V_iload_n dX6_back_15 rfl rfl rfl ?_
    refine A_ld2 dX6_back_16 rfl h fun v1 h => ?_
    refine A_if_ne dX6_back_17 rfl rfl h (fun h => ?_) (fun h => ?_)
    · refine V_aload_n dX6_back_23 rfl rfl rfl ?_
      refine F_getR dX6_back_24 fl_X6_10 ly_0 rfl rfl ?_
      refine V_aload_n dX6_back_27 rfl rfl rfl ?_
      refine F_getR dX6_back_28 fl_X6_19 ly_0 rfl rfl ?_
      refine V_iload_n dX6_back_31 rfl rfl rfl ?_
      refine A_ldR (t := 3) dX6_back_32 rfl h fun v2 h => ?_
      refine A_callC (ci := 0) eU dX6_back_33 cl_X6_90 (by decide) rfl rfl (As := [.ref v2]) (st := []) rfl rfl (Nat.le_of_ble_eq_true rfl) rfl h (fun _ _ h => cp_X0_copy (d := d) h) fun _ F1 h => ?_
      refine V_aload_n dX6_back_36 rfl rfl rfl ?_
      refine F_getR dX6_back_37 fl_X6_10 ly_0 rfl rfl ?_
      refine F_getI dX6_back_40 fl_X6_106 ly_1 rfl rfl ?_
      exact A_ireturn dX6_back_43 rfl h
    · refine V_bipush dX6_back_20 cb_m2 rfl ?_
      exact A_ireturn dX6_back_22 rfl h
  · refine V_iconst dX6_back_9 ci_m1 rfl ?_
    exact A_ireturn dX6_back_10 rfl h
theorem cp_X6_back {N d : Nat} {l1 : Int32} {F F' : FF} {r : Int32} (h : fX6_back N l1 F = some (r, F')) : CP (d + 3) mX6_back [.ref 0, .int l1] F (fun r' F'' => r' = eI r ∧ F'' = F') := CP_I rfl (Nat.le_of_ble_eq_true rfl) (okX6_back h)
theorem okX3_begin_L12 {N d : Nat} {l0 : Nat} {res : Unit × FF} : ∀ (n : Nat) (l3 : Int32) (F : FF), fX3_begin_L12 N l0 n l3 F = some res → FV cX3_begin 4 RX3 (d) none none 12 [.ref l0, .null, .null, .int l3] [] F (RU res) := by
  intro n
  induction n with
  | zero =>
    intro l3 F h
    rw [fX3_begin_L12.eq_1] at h
    cases h
  | succ n ih =>
    intro l3 F h
    rw [fX3_begin_L12.eq_2] at h
    refine V_iload_n dX3_begin_12 rfl rfl rfl ?_
    refine V_bipush dX3_begin_13 cb_40 rfl ?_
    refine A_icmp_ge dX3_begin_15 rfl rfl h (fun h => ?_) (fun h => ?_)
    · exact A_return dX3_begin_31 rfl h
    · refine V_aload_n dX3_begin_18 rfl rfl rfl ?_
      refine A_gR dX3_begin_19 fl_X3_15 rfl h fun v1 h => ?_
      refine V_iload_n dX3_begin_22 rfl rfl rfl ?_
      refine V_iconst dX3_begin_23 ci_0 rfl ?_
      refine A_st0 dX3_begin_24 rfl h fun F1 h => ?_
      refine V_iinc dX3_begin_25 (v := l3 + 1) rfl (by rw [ci_1]) rfl (ls' := [.ref l0, .null, .null, .int (l3 + 1)]) rfl rfl ?_
      refine V_goto dX3_begin_28 rfl ?_
      exact ih (l3 + 1) F1 h
theorem okX3_begin {N d : Nat} {l0 : Nat} {l1 : Int32} {l2 : Int32} {F : FF} {res : Unit × FF} (h : fX3_begin N l0 l1 l2 F = some res) : FV cX3_begin 4 RX3 (d) none none 0 [.ref l0, .int l1, .int l2, .null] [] F (RU res) := by
  unfold fX3_begin at h
  refine V_aload_n dX3_begin_0 rfl rfl rfl ?_
  refine V_iload_n dX3_begin_1 rfl rfl rfl ?_
  refine A_pI dX3_begin_2 fl_X3_9 rfl rfl rfl h fun F1 h => ?_
  refine V_aload_n dX3_begin_5 rfl rfl rfl ?_
  refine V_iload_n dX3_begin_6 rfl rfl rfl ?_
  refine A_pI dX3_begin_7 fl_X3_19 rfl rfl rfl h fun F2 h => ?_
  refine V_iconst dX3_begin_10 ci_0 rfl ?_
  refine V_istore_n dX3_begin_11 rfl (by decide) rfl (ls' := [.ref l0, .int l1, .int l2, .int 0]) rfl rfl ?_
  refine V_weak [true, false, false, true] rfl ?_
  exact okX3_begin_L12 _ _ _ h
theorem cp_X3_begin {N d : Nat} {l0 : Nat} {l1 : Int32} {l2 : Int32} {F F' : FF} {r : Unit} (h : fX3_begin N l0 l1 l2 F = some (r, F')) : CP (d) mX3_begin [.ref l0, .int l1, .int l2] F (fun r' F'' => r' = eU r ∧ F'' = F') := CP_U rfl (Nat.le_of_ble_eq_true rfl) (okX3_begin h)
theorem okX6_sheet {N d : Nat} {l1 : Int32} {l2 : Int32} {l3 : Int32} {F : FF} {res : Int32 × FF} (h : fX6_sheet N l1 l2 l3 F = some res) : FV cX6_sheet 4 RX6 (d + 1) (some .int) none 0 [.ref 0, .int l1, .int l2, .int l3] [] F (RI res) := by
  unfold fX6_sheet at h
  refine V_iload_n dX6_sheet_0 rfl rfl rfl ?_
  refine V_iconst dX6_sheet_1 ci_0 rfl ?_
  refine V_iconst dX6_sheet_2 ci_3 rfl ?_
  refine P_callS dX6_sheet_3 cl_X6_69 (cq_X6_within (d := d)) (As := [.int l1, .int 0, .int 3]) (st := []) rfl rfl (Nat.le_of_ble_eq_true rfl) rfl ?_
  refine A_if_eq dX6_sheet_6 rfl rfl h (fun h => ?_) (fun h => ?_)
  · refine V_iconst dX6_sheet_24 ci_m1 rfl ?_
    exact A_ireturn dX6_sheet_25 rfl h
  · refine V_iload_n dX6_sheet_9 rfl rfl rfl ?_
    refine V_iconst dX6_sheet_10 ci_0 rfl ?_
    refine V_iconst dX6_sheet_11 ci_2 rfl ?_
    refine P_callS dX6_sheet_12 cl_X6_69 (cq_X6_within (d := d)) (As := [.int l2, .int 0, .int 2]) (st := []) rfl rfl (Nat.le_of_ble_eq_true rfl) rfl ?_
    refine A_if_eq dX6_sheet_15 rfl rfl h (fun h => ?_) (fun h => ?_)
    · refine V_iconst dX6_sheet_24 ci_m1 rfl ?_
      exact A_ireturn dX6_sheet_25 rfl h
    · refine V_iload_n dX6_sheet_18 rfl rfl rfl ?_
      refine V_bipush dX6_sheet_19 cb_40 rfl ?_
      refine A_icmp_le dX6_sheet_21 rfl rfl h (fun h => ?_) (fun h => ?_)
      · refine V_iload_n dX6_sheet_26 rfl rfl rfl ?_
        refine A_if_ge dX6_sheet_27 rfl rfl h (fun h => ?_) (fun h => ?_)
        · refine V_aload_n dX6_sheet_33 rfl rfl rfl ?_
          refine F_getR dX6_sheet_34 fl_X6_43 ly_0 rfl rfl ?_
          refine V_iload_n dX6_sheet_37 rfl rfl rfl ?_
          refine A_ldR (t := 4) dX6_sheet_38 rfl h fun v1 h => ?_
          refine V_iload_n dX6_sheet_39 rfl rfl rfl ?_
          refine V_iload_n dX6_sheet_40 rfl rfl rfl ?_
          refine A_callV (ci := 3) eU dX6_sheet_41 cl_X6_287 (by decide) rfl (As := [.int l2, .int l3]) (st := []) rfl rfl (Nat.le_of_ble_eq_true rfl) rfl h (fun _ _ h => cp_X3_begin (d := d) h) fun _ F1 h => ?_
          refine V_iconst dX6_sheet_44 ci_1 rfl ?_
          exact A_ireturn dX6_sheet_45 rfl h
        · refine V_bipush dX6_sheet_30 cb_m14 rfl ?_
          exact A_ireturn dX6_sheet_32 rfl h
      · refine V_iconst dX6_sheet_24 ci_m1 rfl ?_
        exact A_ireturn dX6_sheet_25 rfl h
theorem cp_X6_sheet {N d : Nat} {l1 : Int32} {l2 : Int32} {l3 : Int32} {F F' : FF} {r : Int32} (h : fX6_sheet N l1 l2 l3 F = some (r, F')) : CP (d + 1) mX6_sheet [.ref 0, .int l1, .int l2, .int l3] F (fun r' F'' => r' = eI r ∧ F'' = F') := CP_I rfl (Nat.le_of_ble_eq_true rfl) (okX6_sheet h)
theorem okX3_faultOf {N d : Nat} {l0 : Nat} {l1 : Int32} {l2 : Int32} {F : FF} {res : Int32 × FF} (h : fX3_faultOf N l0 l1 l2 F = some res) : FV cX3_faultOf 3 RX3 (d) (some .int) none 0 [.ref l0, .int l1, .int l2] [] F (RI res) := by
  unfold fX3_faultOf at h
  refine V_aload_n dX3_faultOf_0 rfl rfl rfl ?_
  refine A_gI dX3_faultOf_1 fl_X3_9 rfl h fun v1 h => ?_
  refine V_iconst dX3_faultOf_4 ci_m1 rfl ?_
  refine A_icmp_ne dX3_faultOf_5 rfl rfl h (fun h => ?_) (fun h => ?_)
  · refine V_aload_n dX3_faultOf_10 rfl rfl rfl ?_
    refine A_gI dX3_faultOf_11 fl_X3_9 rfl h fun v2 h => ?_
    refine V_iload_n dX3_faultOf_14 rfl rfl rfl ?_
    refine A_icmp_eq dX3_faultOf_15 rfl rfl h (fun h => ?_) (fun h => ?_)
    · refine V_iload_n dX3_faultOf_20 rfl rfl rfl ?_
      refine A_if_lt dX3_faultOf_21 rfl rfl h (fun h => ?_) (fun h => ?_)
      · refine V_iconst dX3_faultOf_36 ci_2 rfl ?_
        exact A_ireturn dX3_faultOf_37 rfl h
      · refine V_iload_n dX3_faultOf_24 rfl rfl rfl ?_
        refine V_aload_n dX3_faultOf_25 rfl rfl rfl ?_
        refine A_gI dX3_faultOf_26 fl_X3_19 rfl h fun v3 h => ?_
        refine V_midI (q := 37) ((if v3 ≤ l2 then 2 else 0 : Int32)) [] (fun yJ hy hJ => ?_) ?_
        · refine V_icmp_ge dX3_faultOf_29 rfl rfl (fun c => ?_) (fun c => ?_)
          · rw [if_pos c] at hy
            refine V_iconst dX3_faultOf_36 ci_2 rfl ?_
            rw [hy] at hJ
            exact hJ
          · rw [if_neg c] at hy
            refine V_iconst dX3_faultOf_32 ci_0 rfl ?_
            refine V_goto dX3_faultOf_33 rfl ?_
            rw [hy] at hJ
            exact hJ
        · exact A_ireturn dX3_faultOf_37 rfl h
    · refine V_iconst dX3_faultOf_18 ci_3 rfl ?_
      exact A_ireturn dX3_faultOf_19 rfl h
  · refine V_iconst dX3_faultOf_8 ci_1 rfl ?_
    exact A_ireturn dX3_faultOf_9 rfl h
theorem cp_X3_faultOf {N d : Nat} {l0 : Nat} {l1 : Int32} {l2 : Int32} {F F' : FF} {r : Int32} (h : fX3_faultOf N l0 l1 l2 F = some (r, F')) : CP (d) mX3_faultOf [.ref l0, .int l1, .int l2] F (fun r' F'' => r' = eI r ∧ F'' = F') := CP_I rfl (Nat.le_of_ble_eq_true rfl) (okX3_faultOf h)
theorem pe_X3_faultOf {N : Nat} {l0 : Nat} {l1 : Int32} {l2 : Int32} {F : FF} (hok : okC 3 l0 = true) : fX3_faultOf N l0 l1 l2 F = some (pX3_faultOf l0 l1 l2 F, F) := by
  simp only [fX3_faultOf, pX3_faultOf, gI, okF_C hok (k := 0) rfl, okF_C hok (k := 1) rfl, if_true]
  repeat (first | rfl | split)
theorem cq_X3_faultOf {d : Nat} {l0 : Nat} {l1 : Int32} {l2 : Int32} {F : FF} (hok : okC 3 l0 = true) : CP (d) mX3_faultOf [.ref l0, .int l1, .int l2] F (fun r' F'' => r' = eI (pX3_faultOf l0 l1 l2 F) ∧ F'' = F) := cp_X3_faultOf (N := 0) (pe_X3_faultOf hok)
theorem okX3_write {N d : Nat} {l0 : Nat} {l1 : Int32} {l2 : Int32} {F : FF} {res : Unit × FF} (h : fX3_write N l0 l1 l2 F = some res) : FV cX3_write 3 RX3 (d) none none 0 [.ref l0, .int l1, .int l2] [] F (RU res) := by
  unfold fX3_write at h
  refine V_aload_n dX3_write_0 rfl rfl rfl ?_
  refine A_gI dX3_write_1 fl_X3_9 rfl h fun v1 h => ?_
  refine A_if h (fun c h => ?_) (fun c0 h => ?_)
  · rw [c]
    refine V_lookup dX3_write_4 (by decide) rfl rfl ?_
    refine V_aload_n dX3_write_32 rfl rfl rfl ?_
    refine A_gR dX3_write_33 fl_X3_15 rfl h fun v2 h => ?_
    refine V_iload_n dX3_write_36 rfl rfl rfl ?_
    refine V_iload_n dX3_write_37 rfl rfl rfl ?_
    refine V_i2b dX3_write_38 rfl ?_
    refine A_st0 dX3_write_39 rfl h fun F1 h => ?_
    refine V_goto dX3_write_40 rfl ?_
    exact A_return dX3_write_61 rfl h
  refine A_if h (fun c h => ?_) (fun c1 h => ?_)
  · rw [c]
    refine V_lookup dX3_write_4 (by decide) rfl rfl ?_
    refine V_aload_n dX3_write_43 rfl rfl rfl ?_
    refine A_gR dX3_write_44 fl_X3_15 rfl h fun v3 h => ?_
    refine V_iload_n dX3_write_47 rfl rfl rfl ?_
    refine V_iload_n dX3_write_48 rfl rfl rfl ?_
    refine V_i2s dX3_write_49 rfl ?_
    refine A_st0 dX3_write_50 rfl h fun F2 h => ?_
    refine V_goto dX3_write_51 rfl ?_
    exact A_return dX3_write_61 rfl h
  refine V_lookup dX3_write_4 (by decide) (tb_lk2 c0 c1) rfl ?_
  refine V_aload_n dX3_write_54 rfl rfl rfl ?_
  refine A_gR dX3_write_55 fl_X3_15 rfl h fun v4 h => ?_
  refine V_iload_n dX3_write_58 rfl rfl rfl ?_
  refine V_iload_n dX3_write_59 rfl rfl rfl ?_
  refine A_st0 dX3_write_60 rfl h fun F3 h => ?_
  exact A_return dX3_write_61 rfl h
theorem cp_X3_write {N d : Nat} {l0 : Nat} {l1 : Int32} {l2 : Int32} {F F' : FF} {r : Unit} (h : fX3_write N l0 l1 l2 F = some (r, F')) : CP (d) mX3_write [.ref l0, .int l1, .int l2] F (fun r' F'' => r' = eU r ∧ F'' = F') := CP_U rfl (Nat.le_of_ble_eq_true rfl) (okX3_write h)
theorem okX6_lay {N d : Nat} {l1 : Int32} {l2 : Int32} {l3 : Int32} {F : FF} {res : Int32 × FF} (h : fX6_lay N l1 l2 l3 F = some res) : FV cX6_lay 5 RX6 (d + 1) (some .int) none 0 [.ref 0, .int l1, .int l2, .int l3, .null] [] F (RI res) := by
  unfold fX6_lay at h
  refine V_iload_n dX6_lay_0 rfl rfl rfl ?_
  refine V_iconst dX6_lay_1 ci_0 rfl ?_
  refine V_iconst dX6_lay_2 ci_3 rfl ?_
  refine P_callS dX6_lay_3 cl_X6_69 (cq_X6_within (d := d)) (As := [.int l1, .int 0, .int 3]) (st := []) rfl rfl (Nat.le_of_ble_eq_true rfl) rfl ?_
  refine A_if_ne dX6_lay_6 rfl rfl h (fun h => ?_) (fun h => ?_)
  · refine V_aload_n dX6_lay_11 rfl rfl rfl ?_
    refine F_getR dX6_lay_12 fl_X6_43 ly_0 rfl rfl ?_
    refine V_iload_n dX6_lay_15 rfl rfl rfl ?_
    refine A_ldR (t := 4) dX6_lay_16 rfl h fun v1 h => ?_
    refine V_aload_n dX6_lay_17 rfl rfl rfl ?_
    refine F_getR dX6_lay_18 fl_X6_43 ly_0 rfl rfl ?_
    refine V_iload_n dX6_lay_21 rfl rfl rfl ?_
    refine A_ldR (t := 4) dX6_lay_22 rfl h fun v2 h => ?_
    refine A_gI dX6_lay_23 fl_X6_290 rfl h fun v3 h => ?_
    refine V_iload_n dX6_lay_26 rfl rfl rfl ?_
    refine A_okc h fun hok h => ?_
    refine P_callV (ci := 3) dX6_lay_27 cl_X6_293 (by decide) rfl hok (cq_X3_faultOf (d := d) hok) (As := [.int v3, .int l2]) (st := []) rfl rfl (Nat.le_of_ble_eq_true rfl) rfl ?_
    refine V_istore dX6_lay_30 (by decide) rfl (ls' := [.ref 0, .int l1, .int l2, .int l3, .int (pX3_faultOf v1 v3 l2 F)]) rfl rfl ?_
    refine V_iload dX6_lay_32 rfl rfl ?_
    refine A_if_eq dX6_lay_34 rfl rfl h (fun h => ?_) (fun h => ?_)
    · refine V_aload_n dX6_lay_43 rfl rfl rfl ?_
      refine F_getR dX6_lay_44 fl_X6_43 ly_0 rfl rfl ?_
      refine V_iload_n dX6_lay_47 rfl rfl rfl ?_
      refine A_ldR (t := 4) dX6_lay_48 rfl h fun v4 h => ?_
      refine V_iload_n dX6_lay_49 rfl rfl rfl ?_
      refine V_iload_n dX6_lay_50 rfl rfl rfl ?_
      refine A_callV (ci := 3) eU dX6_lay_51 cl_X6_296 (by decide) rfl (As := [.int l2, .int l3]) (st := []) rfl rfl (Nat.le_of_ble_eq_true rfl) rfl h (fun _ _ h => cp_X3_write (d := d) h) fun _ F1 h => ?_
      refine V_iconst dX6_lay_54 ci_1 rfl ?_
      exact A_ireturn dX6_lay_55 rfl h
    · refine V_bipush dX6_lay_37 cb_m10 rfl ?_
      refine V_iload dX6_lay_39 rfl rfl ?_
      refine V_isub dX6_lay_41 rfl ?_
      exact A_ireturn dX6_lay_42 rfl h
  · refine V_iconst dX6_lay_9 ci_m1 rfl ?_
    exact A_ireturn dX6_lay_10 rfl h
theorem cp_X6_lay {N d : Nat} {l1 : Int32} {l2 : Int32} {l3 : Int32} {F F' : FF} {r : Int32} (h : fX6_lay N l1 l2 l3 F = some (r, F')) : CP (d + 1) mX6_lay [.ref 0, .int l1, .int l2, .int l3] F (fun r' F'' => r' = eI r ∧ F'' = F') := CP_I rfl (Nat.le_of_ble_eq_true rfl) (okX6_lay h)
theorem okX6_read_L54 {N d : Nat} {l2 : Int32} {l3 : Int32} {l4 : Int32} {l5 : Nat} {l6 : Int32} {res : Int32 × FF} : ∀ (n : Nat) (l7 : Int32) (l8 : Int32) (F : FF), fX6_read_L54 N l2 l3 l4 l5 l6 n l7 l8 F = some res → FV cX6_read 9 RX6 (d + 2) (some .int) none 54 [.ref 0, .null, .int l2, .int l3, .int l4, .ref l5, .int l6, .int l7, .int l8] [] F (RI res) := by
  intro n
  induction n with
  | zero =>
    intro l7 l8 F h
    rw [fX6_read_L54.eq_1] at h
    cases h
  | succ n ih =>
    intro l7 l8 F h
    rw [fX6_read_L54.eq_2] at h
    refine V_iload dX6_read_54 rfl rfl ?_
    refine V_iload dX6_read_56 rfl rfl ?_
    refine A_icmp_ge dX6_read_58 rfl rfl h (fun h => ?_) (fun h => ?_)
    · refine V_aload_n dX6_read_121 rfl rfl rfl ?_
      refine V_iload dX6_read_122 rfl rfl ?_
      refine A_pn dX6_read_124 fl_X6_64 rfl (Or.inl rfl) ly_0 rfl rfl h fun F1 h => ?_
      refine V_iload dX6_read_127 rfl rfl ?_
      exact A_ireturn dX6_read_129 rfl h
    · refine V_iload dX6_read_61 rfl rfl ?_
      refine A_if_ne dX6_read_63 rfl rfl h (fun h => ?_) (fun h => ?_)
      · refine V_aload_n dX6_read_121 rfl rfl rfl ?_
        refine V_iload dX6_read_122 rfl rfl ?_
        refine A_pn dX6_read_124 fl_X6_64 rfl (Or.inl rfl) ly_0 rfl rfl h fun F2 h => ?_
        refine V_iload dX6_read_127 rfl rfl ?_
        exact A_ireturn dX6_read_129 rfl h
      · refine V_aload dX6_read_66 rfl rfl ?_
        refine V_iload_n dX6_read_68 rfl rfl rfl ?_
        refine V_iload_n dX6_read_69 rfl rfl rfl ?_
        refine V_iload dX6_read_70 rfl rfl ?_
        refine V_iadd dX6_read_72 rfl ?_
        refine A_okc h fun hok h => ?_
        refine P_callV (ci := 3) dX6_read_73 cl_X6_293 (by decide) rfl hok (cq_X3_faultOf (d := d + 1) hok) (As := [.int l2, .int (l3 + l8)]) (st := []) rfl rfl (Nat.le_of_ble_eq_true rfl) rfl ?_
        refine V_istore dX6_read_76 (by decide) rfl (ls' := [.ref 0, .null, .int l2, .int l3, .int l4, .ref l5, .int l6, .int (pX3_faultOf l5 l2 (l3 + l8) F), .int l8]) rfl rfl ?_
        refine V_iload dX6_read_78 rfl rfl ?_
        refine A_if_ne dX6_read_80 rfl rfl h (fun h => ?_) (fun h => ?_)
        · exact ih (pX3_faultOf l5 l2 (l3 + l8) F) l8 F h
        · refine V_aload_n dX6_read_83 rfl rfl rfl ?_
          refine V_aload dX6_read_84 rfl rfl ?_
          refine A_gR dX6_read_86 fl_X6_299 rfl h fun v1 h => ?_
          refine V_iload_n dX6_read_89 rfl rfl rfl ?_
          refine V_iload dX6_read_90 rfl rfl ?_
          refine V_iadd dX6_read_92 rfl ?_
          refine A_ld0 dX6_read_93 rfl h fun v2 h => ?_
          refine A_callC (ci := 6) eI dX6_read_94 cl_X6_302 (by decide) rfl rfl (As := [.int v2]) (st := []) rfl rfl (Nat.le_of_ble_eq_true rfl) rfl h (fun _ _ h => cp_X6_add (d := d) h) fun v3 F3 h => ?_
          refine A_if_ge dX6_read_97 rfl rfl h (fun h => ?_) (fun h => ?_)
          · refine V_iinc dX6_read_115 (v := l8 + 1) rfl (by rw [ci_1]) rfl (ls' := [.ref 0, .null, .int l2, .int l3, .int l4, .ref l5, .int l6, .int (pX3_faultOf l5 l2 (l3 + l8) F), .int (l8 + 1)]) rfl rfl ?_
            refine V_goto dX6_read_118 rfl ?_
            exact ih (pX3_faultOf l5 l2 (l3 + l8) F) (l8 + 1) F3 h
          · refine V_aload_n dX6_read_100 rfl rfl rfl ?_
            refine F_getR dX6_read_101 fl_X6_10 ly_0 rfl rfl ?_
            refine V_iload dX6_read_104 rfl rfl ?_
            refine A_pn dX6_read_106 fl_X6_103 rfl (Or.inl rfl) ly_1 rfl rfl h fun F4 h => ?_
            refine V_bipush dX6_read_109 cb_m20 rfl ?_
            refine V_iload dX6_read_111 rfl rfl ?_
            refine V_isub dX6_read_113 rfl ?_
            exact A_ireturn dX6_read_114 rfl h
theorem okX6_read {N d : Nat} {l1 : Int32} {l2 : Int32} {l3 : Int32} {l4 : Int32} {F : FF} {res : Int32 × FF} (h : fX6_read N l1 l2 l3 l4 F = some res) : FV cX6_read 9 RX6 (d + 2) (some .int) none 0 [.ref 0, .int l1, .int l2, .int l3, .int l4, .null, .null, .null, .null] [] F (RI res) := by
  unfold fX6_read at h
  refine V_iload_n dX6_read_0 rfl rfl rfl ?_
  refine V_iconst dX6_read_1 ci_0 rfl ?_
  refine V_iconst dX6_read_2 ci_3 rfl ?_
  refine P_callS dX6_read_3 cl_X6_69 (cq_X6_within (d := d + 1)) (As := [.int l1, .int 0, .int 3]) (st := []) rfl rfl (Nat.le_of_ble_eq_true rfl) rfl ?_
  refine A_if_eq dX6_read_6 rfl rfl h (fun h => ?_) (fun h => ?_)
  · refine V_iconst dX6_read_29 ci_m1 rfl ?_
    exact A_ireturn dX6_read_30 rfl h
  · refine V_iload_n dX6_read_9 rfl rfl rfl ?_
    refine V_iconst dX6_read_10 ci_0 rfl ?_
    refine V_iconst dX6_read_11 ci_2 rfl ?_
    refine P_callS dX6_read_12 cl_X6_69 (cq_X6_within (d := d + 1)) (As := [.int l2, .int 0, .int 2]) (st := []) rfl rfl (Nat.le_of_ble_eq_true rfl) rfl ?_
    refine A_if_eq dX6_read_15 rfl rfl h (fun h => ?_) (fun h => ?_)
    · refine V_iconst dX6_read_29 ci_m1 rfl ?_
      exact A_ireturn dX6_read_30 rfl h
    · refine V_iload dX6_read_18 rfl rfl ?_
      refine V_iconst dX6_read_20 ci_0 rfl ?_
      refine V_bipush dX6_read_21 cb_40 rfl ?_
      refine P_callS dX6_read_23 cl_X6_69 (cq_X6_within (d := d + 1)) (As := [.int l4, .int 0, .int 40]) (st := []) rfl rfl (Nat.le_of_ble_eq_true rfl) rfl ?_
      refine A_if_ne dX6_read_26 rfl rfl h (fun h => ?_) (fun h => ?_)
      · refine V_aload_n dX6_read_31 rfl rfl rfl ?_
        refine F_getR dX6_read_32 fl_X6_43 ly_0 rfl rfl ?_
        refine V_iload_n dX6_read_35 rfl rfl rfl ?_
        refine A_ldR (t := 4) dX6_read_36 rfl h fun v1 h => ?_
        refine V_astore dX6_read_37 (by decide) rfl (ls' := [.ref 0, .int l1, .int l2, .int l3, .int l4, .ref v1, .null, .null, .null]) rfl rfl ?_
        refine V_aload_n dX6_read_39 rfl rfl rfl ?_
        refine F_getR dX6_read_40 fl_X6_10 ly_0 rfl rfl ?_
        refine F_getI dX6_read_43 fl_X6_103 ly_1 rfl rfl ?_
        refine V_istore dX6_read_46 (by decide) rfl (ls' := [.ref 0, .int l1, .int l2, .int l3, .int l4, .ref v1, .int (F 1 2), .null, .null]) rfl rfl ?_
        refine V_iconst dX6_read_48 ci_0 rfl ?_
        refine V_istore dX6_read_49 (by decide) rfl (ls' := [.ref 0, .int l1, .int l2, .int l3, .int l4, .ref v1, .int (F 1 2), .int 0, .null]) rfl rfl ?_
        refine V_iconst dX6_read_51 ci_0 rfl ?_
        refine V_istore dX6_read_52 (by decide) rfl (ls' := [.ref 0, .int l1, .int l2, .int l3, .int l4, .ref v1, .int (F 1 2), .int 0, .int 0]) rfl rfl ?_
        refine V_weak [true, false, true, true, true, true, true, true, true] rfl ?_
        exact okX6_read_L54 _ _ _ _ h
      · refine V_iconst dX6_read_29 ci_m1 rfl ?_
        exact A_ireturn dX6_read_30 rfl h
theorem cp_X6_read {N d : Nat} {l1 : Int32} {l2 : Int32} {l3 : Int32} {l4 : Int32} {F F' : FF} {r : Int32} (h : fX6_read N l1 l2 l3 l4 F = some (r, F')) : CP (d + 2) mX6_read [.ref 0, .int l1, .int l2, .int l3, .int l4] F (fun r' F'' => r' = eI r ∧ F'' = F') := CP_I rfl (Nat.le_of_ble_eq_true rfl) (okX6_read h)
theorem okX6_torn {N d : Nat} {F : FF} {res : Int32 × FF} (h : fX6_torn N F = some res) : FV cX6_torn 1 RX6 (d) (some .int) none 0 [.ref 0] [] F (RI res) := by
  unfold fX6_torn at h
  refine V_aload_n dX6_torn_0 rfl rfl rfl ?_
  refine F_getI dX6_torn_1 fl_X6_64 ly_0 rfl rfl ?_
  exact A_ireturn dX6_torn_4 rfl h
theorem cp_X6_torn {N d : Nat} {F F' : FF} {r : Int32} (h : fX6_torn N F = some (r, F')) : CP (d) mX6_torn [.ref 0] F (fun r' F'' => r' = eI r ∧ F'' = F') := CP_I rfl (Nat.le_of_ble_eq_true rfl) (okX6_torn h)
theorem pe_X6_torn {N : Nat} {F : FF} : fX6_torn N F = some (pX6_torn F, F) := by
  simp only [fX6_torn, pX6_torn]
  repeat (first | rfl | split)
theorem cq_X6_torn {d : Nat} {F : FF} : CP (d) mX6_torn [.ref 0] F (fun r' F'' => r' = eI (pX6_torn F) ∧ F'' = F) := cp_X6_torn (N := 0) (pe_X6_torn)
theorem okX6_imagesKept_L4 {N d : Nat} {res : Int32 × FF} : ∀ (n : Nat) (l1 : Int32) (l2 : Int32) (F : FF), fX6_imagesKept_L4 N n l1 l2 F = some res → FV cX6_imagesKept 3 RX6 (d) (some .int) none 4 [.ref 0, .int l1, .int l2] [] F (RI res) := by
  intro n
  induction n with
  | zero =>
    intro l1 l2 F h
    rw [fX6_imagesKept_L4.eq_1] at h
    cases h
  | succ n ih =>
    intro l1 l2 F h
    rw [fX6_imagesKept_L4.eq_2] at h
    refine V_iload_n dX6_imagesKept_4 rfl rfl rfl ?_
    refine V_iconst dX6_imagesKept_5 ci_2 rfl ?_
    refine A_icmp_ge dX6_imagesKept_6 rfl rfl h (fun h => ?_) (fun h => ?_)
    · refine V_iload_n dX6_imagesKept_32 rfl rfl rfl ?_
      exact A_ireturn dX6_imagesKept_33 rfl h
    · refine V_iload_n dX6_imagesKept_9 rfl rfl rfl ?_
      refine V_aload_n dX6_imagesKept_10 rfl rfl rfl ?_
      refine F_getR dX6_imagesKept_11 fl_X6_23 ly_0 rfl rfl ?_
      refine V_iload_n dX6_imagesKept_14 rfl rfl rfl ?_
      refine A_ld2 dX6_imagesKept_15 rfl h fun v1 h => ?_
      refine V_midI (q := 24) ((if v1 = 0 then 0 else 1 : Int32)) [.int l1] (fun yJ hy hJ => ?_) ?_
      · refine V_if_eq dX6_imagesKept_16 rfl rfl (fun c => ?_) (fun c => ?_)
        · rw [if_pos c] at hy
          refine V_iconst dX6_imagesKept_23 ci_0 rfl ?_
          rw [hy] at hJ
          exact hJ
        · rw [if_neg c] at hy
          refine V_iconst dX6_imagesKept_19 ci_1 rfl ?_
          refine V_goto dX6_imagesKept_20 rfl ?_
          rw [hy] at hJ
          exact hJ
      · refine V_iadd dX6_imagesKept_24 rfl ?_
        refine V_istore_n dX6_imagesKept_25 rfl (by decide) rfl (ls' := [.ref 0, .int (l1 + ((if v1 = 0 then 0 else 1 : Int32))), .int l2]) rfl rfl ?_
        refine V_iinc dX6_imagesKept_26 (v := l2 + 1) rfl (by rw [ci_1]) rfl (ls' := [.ref 0, .int (l1 + ((if v1 = 0 then 0 else 1 : Int32))), .int (l2 + 1)]) rfl rfl ?_
        refine V_goto dX6_imagesKept_29 rfl ?_
        exact ih (l1 + ((if v1 = 0 then 0 else 1 : Int32))) (l2 + 1) F h
theorem okX6_imagesKept {N d : Nat} {F : FF} {res : Int32 × FF} (h : fX6_imagesKept N F = some res) : FV cX6_imagesKept 3 RX6 (d) (some .int) none 0 [.ref 0, .null, .null] [] F (RI res) := by
  unfold fX6_imagesKept at h
  refine V_iconst dX6_imagesKept_0 ci_0 rfl ?_
  refine V_istore_n dX6_imagesKept_1 rfl (by decide) rfl (ls' := [.ref 0, .int 0, .null]) rfl rfl ?_
  refine V_iconst dX6_imagesKept_2 ci_0 rfl ?_
  refine V_istore_n dX6_imagesKept_3 rfl (by decide) rfl (ls' := [.ref 0, .int 0, .int 0]) rfl rfl ?_
  exact okX6_imagesKept_L4 _ _ _ _ h
theorem cp_X6_imagesKept {N d : Nat} {F F' : FF} {r : Int32} (h : fX6_imagesKept N F = some (r, F')) : CP (d) mX6_imagesKept [.ref 0] F (fun r' F'' => r' = eI r ∧ F'' = F') := CP_I rfl (Nat.le_of_ble_eq_true rfl) (okX6_imagesKept h)
theorem okX0_costOfAll_L4 {N d : Nat} {l0 : Nat} {res : Int32 × FF} : ∀ (n : Nat) (l1 : Int32) (l2 : Int32) (F : FF), fX0_costOfAll_L4 N l0 n l1 l2 F = some res → FV cX0_costOfAll 3 RX0 (d) (some .int) none 4 [.ref l0, .int l1, .int l2] [] F (RI res) := by
  intro n
  induction n with
  | zero =>
    intro l1 l2 F h
    rw [fX0_costOfAll_L4.eq_1] at h
    cases h
  | succ n ih =>
    intro l1 l2 F h
    rw [fX0_costOfAll_L4.eq_2] at h
    refine V_iload_n dX0_costOfAll_4 rfl rfl rfl ?_
    refine V_aload_n dX0_costOfAll_5 rfl rfl rfl ?_
    refine A_gI dX0_costOfAll_6 fl_X0_29 rfl h fun v1 h => ?_
    refine A_icmp_ge dX0_costOfAll_9 rfl rfl h (fun h => ?_) (fun h => ?_)
    · refine V_iload_n dX0_costOfAll_30 rfl rfl rfl ?_
      exact A_ireturn dX0_costOfAll_31 rfl h
    · refine V_iload_n dX0_costOfAll_12 rfl rfl rfl ?_
      refine V_aload_n dX0_costOfAll_13 rfl rfl rfl ?_
      refine A_gR dX0_costOfAll_14 fl_X0_11 rfl h fun v2 h => ?_
      refine V_iload_n dX0_costOfAll_17 rfl rfl rfl ?_
      refine A_ldR (t := 5) dX0_costOfAll_18 rfl h fun v3 h => ?_
      refine A_gI dX0_costOfAll_19 fl_X0_86 rfl h fun v4 h => ?_
      refine V_iadd dX0_costOfAll_22 rfl ?_
      refine V_istore_n dX0_costOfAll_23 rfl (by decide) rfl (ls' := [.ref l0, .int (l1 + v4), .int l2]) rfl rfl ?_
      refine V_iinc dX0_costOfAll_24 (v := l2 + 1) rfl (by rw [ci_1]) rfl (ls' := [.ref l0, .int (l1 + v4), .int (l2 + 1)]) rfl rfl ?_
      refine V_goto dX0_costOfAll_27 rfl ?_
      exact ih (l1 + v4) (l2 + 1) F h
theorem okX0_costOfAll {N d : Nat} {l0 : Nat} {F : FF} {res : Int32 × FF} (h : fX0_costOfAll N l0 F = some res) : FV cX0_costOfAll 3 RX0 (d) (some .int) none 0 [.ref l0, .null, .null] [] F (RI res) := by
  unfold fX0_costOfAll at h
  refine V_iconst dX0_costOfAll_0 ci_0 rfl ?_
  refine V_istore_n dX0_costOfAll_1 rfl (by decide) rfl (ls' := [.ref l0, .int 0, .null]) rfl rfl ?_
  refine V_iconst dX0_costOfAll_2 ci_0 rfl ?_
  refine V_istore_n dX0_costOfAll_3 rfl (by decide) rfl (ls' := [.ref l0, .int 0, .int 0]) rfl rfl ?_
  exact okX0_costOfAll_L4 _ _ _ _ h
theorem cp_X0_costOfAll {N d : Nat} {l0 : Nat} {F F' : FF} {r : Int32} (h : fX0_costOfAll N l0 F = some (r, F')) : CP (d) mX0_costOfAll [.ref l0] F (fun r' F'' => r' = eI r ∧ F'' = F') := CP_I rfl (Nat.le_of_ble_eq_true rfl) (okX0_costOfAll h)
theorem okX0_wantsSummed_L4 {N d : Nat} {l0 : Nat} {res : Int32 × FF} : ∀ (n : Nat) (l1 : Int32) (l2 : Int32) (F : FF), fX0_wantsSummed_L4 N l0 n l1 l2 F = some res → FV cX0_wantsSummed 3 RX0 (d) (some .int) none 4 [.ref l0, .int l1, .int l2] [] F (RI res) := by
  intro n
  induction n with
  | zero =>
    intro l1 l2 F h
    rw [fX0_wantsSummed_L4.eq_1] at h
    cases h
  | succ n ih =>
    intro l1 l2 F h
    rw [fX0_wantsSummed_L4.eq_2] at h
    refine V_iload_n dX0_wantsSummed_4 rfl rfl rfl ?_
    refine V_aload_n dX0_wantsSummed_5 rfl rfl rfl ?_
    refine A_gI dX0_wantsSummed_6 fl_X0_32 rfl h fun v1 h => ?_
    refine A_icmp_ge dX0_wantsSummed_9 rfl rfl h (fun h => ?_) (fun h => ?_)
    · refine V_iload_n dX0_wantsSummed_27 rfl rfl rfl ?_
      exact A_ireturn dX0_wantsSummed_28 rfl h
    · refine V_iload_n dX0_wantsSummed_12 rfl rfl rfl ?_
      refine V_aload_n dX0_wantsSummed_13 rfl rfl rfl ?_
      refine A_gR dX0_wantsSummed_14 fl_X0_17 rfl h fun v2 h => ?_
      refine V_iload_n dX0_wantsSummed_17 rfl rfl rfl ?_
      refine A_ld0 dX0_wantsSummed_18 rfl h fun v3 h => ?_
      refine V_iadd dX0_wantsSummed_19 rfl ?_
      refine V_istore_n dX0_wantsSummed_20 rfl (by decide) rfl (ls' := [.ref l0, .int (l1 + v3), .int l2]) rfl rfl ?_
      refine V_iinc dX0_wantsSummed_21 (v := l2 + 1) rfl (by rw [ci_1]) rfl (ls' := [.ref l0, .int (l1 + v3), .int (l2 + 1)]) rfl rfl ?_
      refine V_goto dX0_wantsSummed_24 rfl ?_
      exact ih (l1 + v3) (l2 + 1) F h
theorem okX0_wantsSummed {N d : Nat} {l0 : Nat} {F : FF} {res : Int32 × FF} (h : fX0_wantsSummed N l0 F = some res) : FV cX0_wantsSummed 3 RX0 (d) (some .int) none 0 [.ref l0, .null, .null] [] F (RI res) := by
  unfold fX0_wantsSummed at h
  refine V_iconst dX0_wantsSummed_0 ci_0 rfl ?_
  refine V_istore_n dX0_wantsSummed_1 rfl (by decide) rfl (ls' := [.ref l0, .int 0, .null]) rfl rfl ?_
  refine V_iconst dX0_wantsSummed_2 ci_0 rfl ?_
  refine V_istore_n dX0_wantsSummed_3 rfl (by decide) rfl (ls' := [.ref l0, .int 0, .int 0]) rfl rfl ?_
  exact okX0_wantsSummed_L4 _ _ _ _ h
theorem cp_X0_wantsSummed {N d : Nat} {l0 : Nat} {F F' : FF} {r : Int32} (h : fX0_wantsSummed N l0 F = some (r, F')) : CP (d) mX0_wantsSummed [.ref l0] F (fun r' F'' => r' = eI r ∧ F'' = F') := CP_I rfl (Nat.le_of_ble_eq_true rfl) (okX0_wantsSummed h)
