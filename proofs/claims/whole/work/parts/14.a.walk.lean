theorem okX4_begin_L12 {N d : Nat} {l0 : Nat} {res : Unit × FF} : ∀ (n : Nat) (l2 : Int32) (F : FF), fX4_begin_L12 N l0 n l2 F = some res → FV cX4_begin 3 RX4 (d) none none 12 [.ref l0, .null, .int l2] [] F (RU res) := by
  intro n
  induction n with
  | zero =>
    intro l2 F h
    rw [fX4_begin_L12.eq_1] at h
    cases h
  | succ n ih =>
    intro l2 F h
    rw [fX4_begin_L12.eq_2] at h
    refine V_iload_n dX4_begin_12 rfl rfl rfl ?_
    refine V_bipush dX4_begin_13 cb_6 rfl ?_
    refine A_icmp_ge dX4_begin_15 rfl rfl h (fun h => ?_) (fun h => ?_)
    · exact A_return dX4_begin_38 rfl h
    · refine V_aload_n dX4_begin_18 rfl rfl rfl ?_
      refine A_gR dX4_begin_19 fl_X4_9 rfl h fun v1 h => ?_
      refine V_iload_n dX4_begin_22 rfl rfl rfl ?_
      refine V_iload_n dX4_begin_23 rfl rfl rfl ?_
      refine A_st0 dX4_begin_24 rfl h fun F1 h => ?_
      refine V_aload_n dX4_begin_25 rfl rfl rfl ?_
      refine A_gR dX4_begin_26 fl_X4_15 rfl h fun v2 h => ?_
      refine V_iload_n dX4_begin_29 rfl rfl rfl ?_
      refine V_iconst dX4_begin_30 ci_0 rfl ?_
      refine A_st0 dX4_begin_31 rfl h fun F2 h => ?_
      refine V_iinc dX4_begin_32 (v := l2 + 1) rfl (by rw [ci_1]) rfl (ls' := [.ref l0, .null, .int (l2 + 1)]) rfl rfl ?_
      refine V_goto dX4_begin_35 rfl ?_
      exact ih (l2 + 1) F2 h
theorem okX4_begin {N d : Nat} {l0 : Nat} {l1 : Int32} {F : FF} {res : Unit × FF} (h : fX4_begin N l0 l1 F = some res) : FV cX4_begin 3 RX4 (d) none none 0 [.ref l0, .int l1, .null] [] F (RU res) := by
  unfold fX4_begin at h
  refine V_aload_n dX4_begin_0 rfl rfl rfl ?_
  refine V_iload_n dX4_begin_1 rfl rfl rfl ?_
  refine A_pI dX4_begin_2 fl_X4_22 rfl rfl rfl h fun F1 h => ?_
  refine V_aload_n dX4_begin_5 rfl rfl rfl ?_
  refine V_iconst dX4_begin_6 ci_0 rfl ?_
  refine A_pI dX4_begin_7 fl_X4_26 rfl rfl rfl h fun F2 h => ?_
  refine V_iconst dX4_begin_10 ci_0 rfl ?_
  refine V_istore_n dX4_begin_11 rfl (by decide) rfl (ls' := [.ref l0, .int l1, .int 0]) rfl rfl ?_
  refine V_weak [true, false, true] rfl ?_
  exact okX4_begin_L12 _ _ _ h
theorem cp_X4_begin {N d : Nat} {l0 : Nat} {l1 : Int32} {F F' : FF} {r : Unit} (h : fX4_begin N l0 l1 F = some (r, F')) : CP (d) mX4_begin [.ref l0, .int l1] F (fun r' F'' => r' = eU r ∧ F'' = F') := CP_U rfl (Nat.le_of_ble_eq_true rfl) (okX4_begin h)
theorem okX0_empty {N d : Nat} {l0 : Nat} {F : FF} {res : Unit × FF} (h : fX0_empty N l0 F = some res) : FV cX0_empty 1 RX0 (d) none none 0 [.ref l0] [] F (RU res) := by
  unfold fX0_empty at h
  refine V_aload_n dX0_empty_0 rfl rfl rfl ?_
  refine V_iconst dX0_empty_1 ci_4 rfl ?_
  refine A_pI dX0_empty_2 fl_X0_25 rfl rfl rfl h fun F1 h => ?_
  refine V_aload_n dX0_empty_5 rfl rfl rfl ?_
  refine V_iconst dX0_empty_6 ci_0 rfl ?_
  refine A_pI dX0_empty_7 fl_X0_29 rfl rfl rfl h fun F2 h => ?_
  refine V_aload_n dX0_empty_10 rfl rfl rfl ?_
  refine V_iconst dX0_empty_11 ci_0 rfl ?_
  refine A_pI dX0_empty_12 fl_X0_32 rfl rfl rfl h fun F3 h => ?_
  refine V_aload_n dX0_empty_15 rfl rfl rfl ?_
  refine V_iconst dX0_empty_16 ci_0 rfl ?_
  refine A_pI dX0_empty_17 fl_X0_35 rfl rfl rfl h fun F4 h => ?_
  exact A_return dX0_empty_20 rfl h
theorem cp_X0_empty {N d : Nat} {l0 : Nat} {F F' : FF} {r : Unit} (h : fX0_empty N l0 F = some (r, F')) : CP (d) mX0_empty [.ref l0] F (fun r' F'' => r' = eU r ∧ F'' = F') := CP_U rfl (Nat.le_of_ble_eq_true rfl) (okX0_empty h)
theorem okX6_within {N d : Nat} {l0 : Int32} {l1 : Int32} {l2 : Int32} {F : FF} {res : Int32 × FF} (h : fX6_within N l0 l1 l2 F = some res) : FV cX6_within 3 RX6 (d) (some .boolean) none 0 [.int l0, .int l1, .int l2] [] F (RI res) := by
  unfold fX6_within at h
  refine V_iload_n dX6_within_0 rfl rfl rfl ?_
  refine V_iload_n dX6_within_1 rfl rfl rfl ?_
  refine V_midI (q := 15) ((if l0 < l1 then 0 else (if l2 < l0 then 0 else 1) : Int32)) [] (fun yJ hy hJ => ?_) ?_
  · refine V_icmp_lt dX6_within_2 rfl rfl (fun c => ?_) (fun c => ?_)
    · rw [if_pos c] at hy
      refine V_iconst dX6_within_14 ci_0 rfl ?_
      rw [hy] at hJ
      exact hJ
    · rw [if_neg c] at hy
      refine V_iload_n dX6_within_5 rfl rfl rfl ?_
      refine V_iload_n dX6_within_6 rfl rfl rfl ?_
      refine V_icmp_gt dX6_within_7 rfl rfl (fun c => ?_) (fun c => ?_)
      · rw [if_pos c] at hy
        refine V_iconst dX6_within_14 ci_0 rfl ?_
        rw [hy] at hJ
        exact hJ
      · rw [if_neg c] at hy
        refine V_iconst dX6_within_10 ci_1 rfl ?_
        refine V_goto dX6_within_11 rfl ?_
        rw [hy] at hJ
        exact hJ
  · exact A_creturn dX6_within_15 rfl (by repeat' (first | exact Or.inl rfl | exact Or.inr rfl | split)) h
theorem cp_X6_within {N d : Nat} {l0 : Int32} {l1 : Int32} {l2 : Int32} {F F' : FF} {r : Int32} (h : fX6_within N l0 l1 l2 F = some (r, F')) : CP (d) mX6_within [.int l0, .int l1, .int l2] F (fun r' F'' => r' = eI r ∧ F'' = F') := CP_I rfl (Nat.le_of_ble_eq_true rfl) (okX6_within h)
theorem pe_X6_within {N : Nat} {l0 : Int32} {l1 : Int32} {l2 : Int32} {F : FF} : fX6_within N l0 l1 l2 F = some (pX6_within l0 l1 l2 F, F) := by
  simp only [fX6_within, pX6_within]
  repeat (first | rfl | split)
theorem cq_X6_within {d : Nat} {l0 : Int32} {l1 : Int32} {l2 : Int32} {F : FF} : CP (d) mX6_within [.int l0, .int l1, .int l2] F (fun r' F'' => r' = eI (pX6_within l0 l1 l2 F) ∧ F'' = F) := cp_X6_within (N := 0) (pe_X6_within)
theorem okX6_feed {N d : Nat} {l1 : Int32} {F : FF} {res : Int32 × FF} (h : fX6_feed N l1 F = some res) : FV cX6_feed 2 RX6 (d + 1) (some .int) none 0 [.ref 0, .int l1] [] F (RI res) := by
  unfold fX6_feed at h
  refine V_iload_n dX6_feed_0 rfl rfl rfl ?_
  refine V_iconst dX6_feed_1 ci_0 rfl ?_
  refine V_bipush dX6_feed_2 cb_127 rfl ?_
  refine P_callS dX6_feed_4 cl_X6_69 (cq_X6_within (d := d)) (As := [.int l1, .int 0, .int 127]) (st := []) rfl rfl (Nat.le_of_ble_eq_true rfl) rfl ?_
  refine A_if_ne dX6_feed_7 rfl rfl h (fun h => ?_) (fun h => ?_)
  · refine V_aload_n dX6_feed_12 rfl rfl rfl ?_
    refine F_getR dX6_feed_13 fl_X6_30 ly_0 rfl rfl ?_
    refine F_getI dX6_feed_16 fl_X6_73 ly_33 rfl rfl ?_
    refine V_sipush dX6_feed_19 cs_160 rfl ?_
    refine A_icmp_lt dX6_feed_22 rfl rfl h (fun h => ?_) (fun h => ?_)
    · refine V_aload_n dX6_feed_28 rfl rfl rfl ?_
      refine F_getR dX6_feed_29 fl_X6_30 ly_0 rfl rfl ?_
      refine F_getR dX6_feed_32 fl_X6_76 ly_33 rfl rfl ?_
      refine V_aload_n dX6_feed_35 rfl rfl rfl ?_
      refine F_getR dX6_feed_36 fl_X6_30 ly_0 rfl rfl ?_
      refine F_getI dX6_feed_39 fl_X6_73 ly_33 rfl rfl ?_
      refine V_iload_n dX6_feed_42 rfl rfl rfl ?_
      refine V_i2b dX6_feed_43 rfl ?_
      refine A_st1 dX6_feed_44 rfl h fun F1 h => ?_
      refine V_aload_n dX6_feed_45 rfl rfl rfl ?_
      refine F_getR dX6_feed_46 fl_X6_30 ly_0 rfl rfl ?_
      refine V_dup dX6_feed_49 rfl rfl ?_
      refine F_getI dX6_feed_50 fl_X6_73 ly_33 rfl rfl ?_
      refine V_iconst dX6_feed_53 ci_1 rfl ?_
      refine V_iadd dX6_feed_54 rfl ?_
      refine A_pn dX6_feed_55 fl_X6_73 rfl (Or.inl rfl) ly_33 rfl rfl h fun F2 h => ?_
      refine V_aload_n dX6_feed_58 rfl rfl rfl ?_
      refine F_getR dX6_feed_59 fl_X6_30 ly_0 rfl rfl ?_
      refine F_getI dX6_feed_62 fl_X6_73 ly_33 rfl rfl ?_
      exact A_ireturn dX6_feed_65 rfl h
    · refine V_bipush dX6_feed_25 cb_m3 rfl ?_
      exact A_ireturn dX6_feed_27 rfl h
  · refine V_iconst dX6_feed_10 ci_m1 rfl ?_
    exact A_ireturn dX6_feed_11 rfl h
theorem cp_X6_feed {N d : Nat} {l1 : Int32} {F F' : FF} {r : Int32} (h : fX6_feed N l1 F = some (r, F')) : CP (d + 1) mX6_feed [.ref 0, .int l1] F (fun r' F'' => r' = eI r ∧ F'' = F') := CP_I rfl (Nat.le_of_ble_eq_true rfl) (okX6_feed h)
theorem okX6_end {N d : Nat} {l1 : Int32} {F : FF} {res : Int32 × FF} (h : fX6_end N l1 F = some res) : FV cX6_end 3 RX6 (d + 1) (some .int) none 0 [.ref 0, .int l1, .null] [] F (RI res) := by
  unfold fX6_end at h
  refine V_iload_n dX6_end_0 rfl rfl rfl ?_
  refine V_iconst dX6_end_1 ci_0 rfl ?_
  refine V_aload_n dX6_end_2 rfl rfl rfl ?_
  refine F_getR dX6_end_3 fl_X6_30 ly_0 rfl rfl ?_
  refine F_getI dX6_end_6 fl_X6_73 ly_33 rfl rfl ?_
  refine P_callS dX6_end_9 cl_X6_69 (cq_X6_within (d := d)) (As := [.int l1, .int 0, .int (F 33 1)]) (st := []) rfl rfl (Nat.le_of_ble_eq_true rfl) rfl ?_
  refine A_if_ne dX6_end_12 rfl rfl h (fun h => ?_) (fun h => ?_)
  · refine V_aload_n dX6_end_17 rfl rfl rfl ?_
    refine F_getR dX6_end_18 fl_X6_30 ly_0 rfl rfl ?_
    refine F_getI dX6_end_21 fl_X6_73 ly_33 rfl rfl ?_
    refine V_istore_n dX6_end_24 rfl (by decide) rfl (ls' := [.ref 0, .int l1, .int (F 33 1)]) rfl rfl ?_
    refine V_aload_n dX6_end_25 rfl rfl rfl ?_
    refine F_getR dX6_end_26 fl_X6_30 ly_0 rfl rfl ?_
    refine V_iload_n dX6_end_29 rfl rfl rfl ?_
    refine A_pn dX6_end_30 fl_X6_73 rfl (Or.inl rfl) ly_33 rfl rfl h fun F1 h => ?_
    refine V_iload_n dX6_end_33 rfl rfl rfl ?_
    exact A_ireturn dX6_end_34 rfl h
  · refine V_iconst dX6_end_15 ci_m1 rfl ?_
    exact A_ireturn dX6_end_16 rfl h
theorem cp_X6_end {N d : Nat} {l1 : Int32} {F F' : FF} {r : Int32} (h : fX6_end N l1 F = some (r, F')) : CP (d + 1) mX6_end [.ref 0, .int l1] F (fun r' F'' => r' = eI r ∧ F'' = F') := CP_I rfl (Nat.le_of_ble_eq_true rfl) (okX6_end h)
theorem okX5_isLetter {N d : Nat} {l0 : Int32} {F : FF} {res : Int32 × FF} (h : fX5_isLetter N l0 F = some res) : FV cX5_isLetter 1 RX5 (d) (some .boolean) none 0 [.int l0] [] F (RI res) := by
  unfold fX5_isLetter at h
  refine V_iload_n dX5_isLetter_0 rfl rfl rfl ?_
  refine V_bipush dX5_isLetter_1 cb_97 rfl ?_
  refine V_midI (q := 17) ((if l0 < 97 then 0 else (if 122 < l0 then 0 else 1) : Int32)) [] (fun yJ hy hJ => ?_) ?_
  · refine V_icmp_lt dX5_isLetter_3 rfl rfl (fun c => ?_) (fun c => ?_)
    · rw [if_pos c] at hy
      refine V_iconst dX5_isLetter_16 ci_0 rfl ?_
      rw [hy] at hJ
      exact hJ
    · rw [if_neg c] at hy
      refine V_iload_n dX5_isLetter_6 rfl rfl rfl ?_
      refine V_bipush dX5_isLetter_7 cb_122 rfl ?_
      refine V_icmp_gt dX5_isLetter_9 rfl rfl (fun c => ?_) (fun c => ?_)
      · rw [if_pos c] at hy
        refine V_iconst dX5_isLetter_16 ci_0 rfl ?_
        rw [hy] at hJ
        exact hJ
      · rw [if_neg c] at hy
        refine V_iconst dX5_isLetter_12 ci_1 rfl ?_
        refine V_goto dX5_isLetter_13 rfl ?_
        rw [hy] at hJ
        exact hJ
  · exact A_creturn dX5_isLetter_17 rfl (by repeat' (first | exact Or.inl rfl | exact Or.inr rfl | split)) h
theorem cp_X5_isLetter {N d : Nat} {l0 : Int32} {F F' : FF} {r : Int32} (h : fX5_isLetter N l0 F = some (r, F')) : CP (d) mX5_isLetter [.int l0] F (fun r' F'' => r' = eI r ∧ F'' = F') := CP_I rfl (Nat.le_of_ble_eq_true rfl) (okX5_isLetter h)
theorem pe_X5_isLetter {N : Nat} {l0 : Int32} {F : FF} : fX5_isLetter N l0 F = some (pX5_isLetter l0 F, F) := by
  simp only [fX5_isLetter, pX5_isLetter]
  repeat (first | rfl | split)
theorem cq_X5_isLetter {d : Nat} {l0 : Int32} {F : FF} : CP (d) mX5_isLetter [.int l0] F (fun r' F'' => r' = eI (pX5_isLetter l0 F) ∧ F'' = F) := cp_X5_isLetter (N := 0) (pe_X5_isLetter)
theorem okX5_scanName_L5 {N d : Nat} {res : Unit × FF} : ∀ (n : Nat) (F : FF), fX5_scanName_L5 N n F = some res → FV cX5_scanName 1 RX5 (d + 1) none none 5 [.ref 33] [] F (RU res) := by
  intro n
  induction n with
  | zero =>
    intro F h
    rw [fX5_scanName_L5.eq_1] at h
    cases h
  | succ n ih =>
    intro F h
    rw [fX5_scanName_L5.eq_2] at h
    refine V_aload_n dX5_scanName_5 rfl rfl rfl ?_
    refine F_getI dX5_scanName_6 fl_X5_20 ly_33 rfl rfl ?_
    refine V_aload_n dX5_scanName_9 rfl rfl rfl ?_
    refine F_getI dX5_scanName_10 fl_X5_34 ly_33 rfl rfl ?_
    refine A_icmp_ge dX5_scanName_13 rfl rfl h (fun h => ?_) (fun h => ?_)
    · exact A_return dX5_scanName_44 rfl h
    · refine V_aload_n dX5_scanName_16 rfl rfl rfl ?_
      refine F_getR dX5_scanName_17 fl_X5_9 ly_33 rfl rfl ?_
      refine V_aload_n dX5_scanName_20 rfl rfl rfl ?_
      refine F_getI dX5_scanName_21 fl_X5_20 ly_33 rfl rfl ?_
      refine A_ld1 dX5_scanName_24 rfl h fun v1 h => ?_
      refine P_callS dX5_scanName_25 cl_X5_114 (cq_X5_isLetter (d := d)) (As := [.int v1]) (st := []) rfl rfl (Nat.le_of_ble_eq_true rfl) rfl ?_
      refine A_if_eq dX5_scanName_28 rfl rfl h (fun h => ?_) (fun h => ?_)
      · exact A_return dX5_scanName_44 rfl h
      · refine V_aload_n dX5_scanName_31 rfl rfl rfl ?_
        refine V_dup dX5_scanName_32 rfl rfl ?_
        refine F_getI dX5_scanName_33 fl_X5_20 ly_33 rfl rfl ?_
        refine V_iconst dX5_scanName_36 ci_1 rfl ?_
        refine V_iadd dX5_scanName_37 rfl ?_
        refine A_pn dX5_scanName_38 fl_X5_20 rfl (Or.inl rfl) ly_33 rfl rfl h fun F1 h => ?_
        refine V_goto dX5_scanName_41 rfl ?_
        exact ih F1 h
theorem okX5_scanName {N d : Nat} {F : FF} {res : Unit × FF} (h : fX5_scanName N F = some res) : FV cX5_scanName 1 RX5 (d + 1) none none 0 [.ref 33] [] F (RU res) := by
  unfold fX5_scanName at h
  refine V_aload_n dX5_scanName_0 rfl rfl rfl ?_
  refine V_iconst dX5_scanName_1 ci_0 rfl ?_
  refine A_pn dX5_scanName_2 fl_X5_52 rfl (Or.inl rfl) ly_33 rfl rfl h fun F1 h => ?_
  exact okX5_scanName_L5 _ _ h
theorem cp_X5_scanName {N d : Nat} {F F' : FF} {r : Unit} (h : fX5_scanName N F = some (r, F')) : CP (d + 1) mX5_scanName [.ref 33] F (fun r' F'' => r' = eU r ∧ F'' = F') := CP_U rfl (Nat.le_of_ble_eq_true rfl) (okX5_scanName h)
theorem okX5_isFigure {N d : Nat} {l0 : Int32} {F : FF} {res : Int32 × FF} (h : fX5_isFigure N l0 F = some res) : FV cX5_isFigure 1 RX5 (d) (some .boolean) none 0 [.int l0] [] F (RI res) := by
  unfold fX5_isFigure at h
  refine V_iload_n dX5_isFigure_0 rfl rfl rfl ?_
  refine V_bipush dX5_isFigure_1 cb_48 rfl ?_
  refine V_midI (q := 17) ((if l0 < 48 then 0 else (if 57 < l0 then 0 else 1) : Int32)) [] (fun yJ hy hJ => ?_) ?_
  · refine V_icmp_lt dX5_isFigure_3 rfl rfl (fun c => ?_) (fun c => ?_)
    · rw [if_pos c] at hy
      refine V_iconst dX5_isFigure_16 ci_0 rfl ?_
      rw [hy] at hJ
      exact hJ
    · rw [if_neg c] at hy
      refine V_iload_n dX5_isFigure_6 rfl rfl rfl ?_
      refine V_bipush dX5_isFigure_7 cb_57 rfl ?_
      refine V_icmp_gt dX5_isFigure_9 rfl rfl (fun c => ?_) (fun c => ?_)
      · rw [if_pos c] at hy
        refine V_iconst dX5_isFigure_16 ci_0 rfl ?_
        rw [hy] at hJ
        exact hJ
      · rw [if_neg c] at hy
        refine V_iconst dX5_isFigure_12 ci_1 rfl ?_
        refine V_goto dX5_isFigure_13 rfl ?_
        rw [hy] at hJ
        exact hJ
  · exact A_creturn dX5_isFigure_17 rfl (by repeat' (first | exact Or.inl rfl | exact Or.inr rfl | split)) h
theorem cp_X5_isFigure {N d : Nat} {l0 : Int32} {F F' : FF} {r : Int32} (h : fX5_isFigure N l0 F = some (r, F')) : CP (d) mX5_isFigure [.int l0] F (fun r' F'' => r' = eI r ∧ F'' = F') := CP_I rfl (Nat.le_of_ble_eq_true rfl) (okX5_isFigure h)
theorem pe_X5_isFigure {N : Nat} {l0 : Int32} {F : FF} : fX5_isFigure N l0 F = some (pX5_isFigure l0 F, F) := by
  simp only [fX5_isFigure, pX5_isFigure]
  repeat (first | rfl | split)
theorem cq_X5_isFigure {d : Nat} {l0 : Int32} {F : FF} : CP (d) mX5_isFigure [.int l0] F (fun r' F'' => r' = eI (pX5_isFigure l0 F) ∧ F'' = F) := cp_X5_isFigure (N := 0) (pe_X5_isFigure)
theorem okX5_refuse {N d : Nat} {l1 : Int32} {F : FF} {res : Int32 × FF} (h : fX5_refuse N l1 F = some res) : FV cX5_refuse 2 RX5 (d) (some .boolean) none 0 [.ref 33, .int l1] [] F (RI res) := by
  unfold fX5_refuse at h
  refine V_aload_n dX5_refuse_0 rfl rfl rfl ?_
  refine F_getI dX5_refuse_1 fl_X5_24 ly_33 rfl rfl ?_
  refine A_if_ne dX5_refuse_4 rfl rfl h (fun h => ?_) (fun h => ?_)
  · refine V_iconst dX5_refuse_20 ci_0 rfl ?_
    exact A_creturn dX5_refuse_21 rfl (by decide) h
  · refine V_aload_n dX5_refuse_7 rfl rfl rfl ?_
    refine V_iload_n dX5_refuse_8 rfl rfl rfl ?_
    refine A_pn dX5_refuse_9 fl_X5_24 rfl (Or.inl rfl) ly_33 rfl rfl h fun F1 h => ?_
    refine V_aload_n dX5_refuse_12 rfl rfl rfl ?_
    refine V_aload_n dX5_refuse_13 rfl rfl rfl ?_
    refine F_getI dX5_refuse_14 fl_X5_95 ly_33 rfl rfl ?_
    refine A_pn dX5_refuse_17 fl_X5_27 rfl (Or.inl rfl) ly_33 rfl rfl h fun F2 h => ?_
    refine V_iconst dX5_refuse_20 ci_0 rfl ?_
    exact A_creturn dX5_refuse_21 rfl (by decide) h
theorem cp_X5_refuse {N d : Nat} {l1 : Int32} {F F' : FF} {r : Int32} (h : fX5_refuse N l1 F = some (r, F')) : CP (d) mX5_refuse [.ref 33, .int l1] F (fun r' F'' => r' = eI r ∧ F'' = F') := CP_I rfl (Nat.le_of_ble_eq_true rfl) (okX5_refuse h)
theorem okX5_scanNumber_b73 {N d : Nat} {F : FF} {res : Unit × FF} (h : fX5_scanNumber_b73 N F = some res) : FV cX5_scanNumber 1 RX5 (d + 1) none none 73 [.ref 33] [] F (RU res) := by
  unfold fX5_scanNumber_b73 at h
  refine V_aload_n dX5_scanNumber_73 rfl rfl rfl ?_
  refine F_getI dX5_scanNumber_74 fl_X5_20 ly_33 rfl rfl ?_
  refine V_aload_n dX5_scanNumber_77 rfl rfl rfl ?_
  refine F_getI dX5_scanNumber_78 fl_X5_95 ly_33 rfl rfl ?_
  refine V_isub dX5_scanNumber_81 rfl ?_
  refine V_iconst dX5_scanNumber_82 ci_2 rfl ?_
  refine A_icmp_le dX5_scanNumber_83 rfl rfl h (fun h => ?_) (fun h => ?_)
  · exact A_return dX5_scanNumber_97 rfl h
  · refine V_aload_n dX5_scanNumber_86 rfl rfl rfl ?_
    refine V_iconst dX5_scanNumber_87 ci_4 rfl ?_
    refine A_pn dX5_scanNumber_88 fl_X5_52 rfl (Or.inl rfl) ly_33 rfl rfl h fun F1 h => ?_
    refine V_aload_n dX5_scanNumber_91 rfl rfl rfl ?_
    refine V_iconst dX5_scanNumber_92 ci_1 rfl ?_
    refine A_callC (ci := 5) eI dX5_scanNumber_93 cl_X5_45 (by decide) rfl rfl (As := [.int 1]) (st := []) rfl rfl (Nat.le_of_ble_eq_true rfl) rfl h (fun _ _ h => cp_X5_refuse (d := d) h) fun v1 F2 h => ?_
    refine V_pop dX5_scanNumber_96 rfl rfl ?_
    exact A_return dX5_scanNumber_97 rfl h
theorem okX5_scanNumber_L10 {N d : Nat} {res : Unit × FF} : ∀ (n : Nat) (F : FF), fX5_scanNumber_L10 N n F = some res → FV cX5_scanNumber 1 RX5 (d + 1) none none 10 [.ref 33] [] F (RU res) := by
  intro n
  induction n with
  | zero =>
    intro F h
    rw [fX5_scanNumber_L10.eq_1] at h
    cases h
  | succ n ih =>
    intro F h
    rw [fX5_scanNumber_L10.eq_2] at h
    refine V_aload_n dX5_scanNumber_10 rfl rfl rfl ?_
    refine F_getI dX5_scanNumber_11 fl_X5_20 ly_33 rfl rfl ?_
    refine V_aload_n dX5_scanNumber_14 rfl rfl rfl ?_
    refine F_getI dX5_scanNumber_15 fl_X5_34 ly_33 rfl rfl ?_
    refine A_icmp_ge dX5_scanNumber_18 rfl rfl h (fun h => ?_) (fun h => ?_)
    · exact okX5_scanNumber_b73 h
    · refine V_aload_n dX5_scanNumber_21 rfl rfl rfl ?_
      refine F_getR dX5_scanNumber_22 fl_X5_9 ly_33 rfl rfl ?_
      refine V_aload_n dX5_scanNumber_25 rfl rfl rfl ?_
      refine F_getI dX5_scanNumber_26 fl_X5_20 ly_33 rfl rfl ?_
      refine A_ld1 dX5_scanNumber_29 rfl h fun v1 h => ?_
      refine P_callS dX5_scanNumber_30 cl_X5_120 (cq_X5_isFigure (d := d)) (As := [.int v1]) (st := []) rfl rfl (Nat.le_of_ble_eq_true rfl) rfl ?_
      refine A_if_eq dX5_scanNumber_33 rfl rfl h (fun h => ?_) (fun h => ?_)
      · exact okX5_scanNumber_b73 h
      · refine V_aload_n dX5_scanNumber_36 rfl rfl rfl ?_
        refine V_aload_n dX5_scanNumber_37 rfl rfl rfl ?_
        refine F_getI dX5_scanNumber_38 fl_X5_83 ly_33 rfl rfl ?_
        refine V_bipush dX5_scanNumber_41 cb_10 rfl ?_
        refine V_imul dX5_scanNumber_43 rfl ?_
        refine V_aload_n dX5_scanNumber_44 rfl rfl rfl ?_
        refine F_getR dX5_scanNumber_45 fl_X5_9 ly_33 rfl rfl ?_
        refine V_aload_n dX5_scanNumber_48 rfl rfl rfl ?_
        refine F_getI dX5_scanNumber_49 fl_X5_20 ly_33 rfl rfl ?_
        refine A_ld1 dX5_scanNumber_52 rfl h fun v2 h => ?_
        refine V_iadd dX5_scanNumber_53 rfl ?_
        refine V_bipush dX5_scanNumber_54 cb_48 rfl ?_
        refine V_isub dX5_scanNumber_56 rfl ?_
        refine A_pn dX5_scanNumber_57 fl_X5_83 rfl (Or.inl rfl) ly_33 rfl rfl h fun F1 h => ?_
        refine V_aload_n dX5_scanNumber_60 rfl rfl rfl ?_
        refine V_dup dX5_scanNumber_61 rfl rfl ?_
        refine F_getI dX5_scanNumber_62 fl_X5_20 ly_33 rfl rfl ?_
        refine V_iconst dX5_scanNumber_65 ci_1 rfl ?_
        refine V_iadd dX5_scanNumber_66 rfl ?_
        refine A_pn dX5_scanNumber_67 fl_X5_20 rfl (Or.inl rfl) ly_33 rfl rfl h fun F2 h => ?_
        refine V_goto dX5_scanNumber_70 rfl ?_
        exact ih F2 h
theorem okX5_scanNumber {N d : Nat} {F : FF} {res : Unit × FF} (h : fX5_scanNumber N F = some res) : FV cX5_scanNumber 1 RX5 (d + 1) none none 0 [.ref 33] [] F (RU res) := by
  unfold fX5_scanNumber at h
  refine V_aload_n dX5_scanNumber_0 rfl rfl rfl ?_
  refine V_iconst dX5_scanNumber_1 ci_1 rfl ?_
  refine A_pn dX5_scanNumber_2 fl_X5_52 rfl (Or.inl rfl) ly_33 rfl rfl h fun F1 h => ?_
  refine V_aload_n dX5_scanNumber_5 rfl rfl rfl ?_
  refine V_iconst dX5_scanNumber_6 ci_0 rfl ?_
  refine A_pn dX5_scanNumber_7 fl_X5_83 rfl (Or.inl rfl) ly_33 rfl rfl h fun F2 h => ?_
  exact okX5_scanNumber_L10 _ _ h
theorem cp_X5_scanNumber {N d : Nat} {F F' : FF} {r : Unit} (h : fX5_scanNumber N F = some (r, F')) : CP (d + 1) mX5_scanNumber [.ref 33] F (fun r' F'' => r' = eU r ∧ F'' = F') := CP_U rfl (Nat.le_of_ble_eq_true rfl) (okX5_scanNumber h)
theorem okX5_scan_b38 {N d : Nat} {F : FF} {res : Unit × FF} (h : fX5_scan_b38 N F = some res) : FV cX5_scan 1 RX5 (d + 2) none none 38 [.ref 33] [] F (RU res) := by
  unfold fX5_scan_b38 at h
  refine V_aload_n dX5_scan_38 rfl rfl rfl ?_
  refine V_aload_n dX5_scan_39 rfl rfl rfl ?_
  refine F_getI dX5_scan_40 fl_X5_20 ly_33 rfl rfl ?_
  refine A_pn dX5_scan_43 fl_X5_95 rfl (Or.inl rfl) ly_33 rfl rfl h fun F1 h => ?_
  refine V_aload_n dX5_scan_46 rfl rfl rfl ?_
  refine F_getI dX5_scan_47 fl_X5_20 ly_33 rfl rfl ?_
  refine V_aload_n dX5_scan_50 rfl rfl rfl ?_
  refine F_getI dX5_scan_51 fl_X5_34 ly_33 rfl rfl ?_
  refine A_icmp_lt dX5_scan_54 rfl rfl h (fun h => ?_) (fun h => ?_)
  · refine V_aload_n dX5_scan_65 rfl rfl rfl ?_
    refine F_getR dX5_scan_66 fl_X5_9 ly_33 rfl rfl ?_
    refine V_aload_n dX5_scan_69 rfl rfl rfl ?_
    refine F_getI dX5_scan_70 fl_X5_20 ly_33 rfl rfl ?_
    refine A_ld1 dX5_scan_73 rfl h fun v1 h => ?_
    refine V_bipush dX5_scan_74 cb_59 rfl ?_
    refine A_icmp_ne dX5_scan_76 rfl rfl h (fun h => ?_) (fun h => ?_)
    · refine V_aload_n dX5_scan_97 rfl rfl rfl ?_
      refine F_getR dX5_scan_98 fl_X5_9 ly_33 rfl rfl ?_
      refine V_aload_n dX5_scan_101 rfl rfl rfl ?_
      refine F_getI dX5_scan_102 fl_X5_20 ly_33 rfl rfl ?_
      refine A_ld1 dX5_scan_105 rfl h fun v2 h => ?_
      refine P_callS dX5_scan_106 cl_X5_114 (cq_X5_isLetter (d := d + 1)) (As := [.int v2]) (st := []) rfl rfl (Nat.le_of_ble_eq_true rfl) rfl ?_
      refine A_if_eq dX5_scan_109 rfl rfl h (fun h => ?_) (fun h => ?_)
      · refine V_aload_n dX5_scan_119 rfl rfl rfl ?_
        refine F_getR dX5_scan_120 fl_X5_9 ly_33 rfl rfl ?_
        refine V_aload_n dX5_scan_123 rfl rfl rfl ?_
        refine F_getI dX5_scan_124 fl_X5_20 ly_33 rfl rfl ?_
        refine A_ld1 dX5_scan_127 rfl h fun v3 h => ?_
        refine P_callS dX5_scan_128 cl_X5_120 (cq_X5_isFigure (d := d + 1)) (As := [.int v3]) (st := []) rfl rfl (Nat.le_of_ble_eq_true rfl) rfl ?_
        refine A_if_eq dX5_scan_131 rfl rfl h (fun h => ?_) (fun h => ?_)
        · refine V_aload_n dX5_scan_141 rfl rfl rfl ?_
          refine V_iconst dX5_scan_142 ci_4 rfl ?_
          refine A_pn dX5_scan_143 fl_X5_52 rfl (Or.inl rfl) ly_33 rfl rfl h fun F2 h => ?_
          refine V_aload_n dX5_scan_146 rfl rfl rfl ?_
          refine V_iconst dX5_scan_147 ci_1 rfl ?_
          refine A_callC (ci := 5) eI dX5_scan_148 cl_X5_45 (by decide) rfl rfl (As := [.int 1]) (st := []) rfl rfl (Nat.le_of_ble_eq_true rfl) rfl h (fun _ _ h => cp_X5_refuse (d := d + 1) h) fun v4 F3 h => ?_
          refine V_pop dX5_scan_151 rfl rfl ?_
          exact A_return dX5_scan_152 rfl h
        · refine V_aload_n dX5_scan_134 rfl rfl rfl ?_
          refine A_callC (ci := 5) eU dX5_scan_135 cl_X5_123 (by decide) rfl rfl (As := []) (st := []) rfl rfl (Nat.le_of_ble_eq_true rfl) rfl h (fun _ _ h => cp_X5_scanNumber (d := d) h) fun _ F4 h => ?_
          refine V_goto dX5_scan_138 rfl ?_
          exact A_return dX5_scan_152 rfl h
      · refine V_aload_n dX5_scan_112 rfl rfl rfl ?_
        refine A_callC (ci := 5) eU dX5_scan_113 cl_X5_117 (by decide) rfl rfl (As := []) (st := []) rfl rfl (Nat.le_of_ble_eq_true rfl) rfl h (fun _ _ h => cp_X5_scanName (d := d) h) fun _ F5 h => ?_
        refine V_goto dX5_scan_116 rfl ?_
        exact A_return dX5_scan_152 rfl h
    · refine V_aload_n dX5_scan_79 rfl rfl rfl ?_
      refine V_dup dX5_scan_80 rfl rfl ?_
      refine F_getI dX5_scan_81 fl_X5_20 ly_33 rfl rfl ?_
      refine V_iconst dX5_scan_84 ci_1 rfl ?_
      refine V_iadd dX5_scan_85 rfl ?_
      refine A_pn dX5_scan_86 fl_X5_20 rfl (Or.inl rfl) ly_33 rfl rfl h fun F6 h => ?_
      refine V_aload_n dX5_scan_89 rfl rfl rfl ?_
      refine V_iconst dX5_scan_90 ci_2 rfl ?_
      refine A_pn dX5_scan_91 fl_X5_52 rfl (Or.inl rfl) ly_33 rfl rfl h fun F7 h => ?_
      refine V_goto dX5_scan_94 rfl ?_
      exact A_return dX5_scan_152 rfl h
  · refine V_aload_n dX5_scan_57 rfl rfl rfl ?_
    refine V_iconst dX5_scan_58 ci_3 rfl ?_
    refine A_pn dX5_scan_59 fl_X5_52 rfl (Or.inl rfl) ly_33 rfl rfl h fun F8 h => ?_
    refine V_goto dX5_scan_62 rfl ?_
    exact A_return dX5_scan_152 rfl h
theorem okX5_scan_L0 {N d : Nat} {res : Unit × FF} : ∀ (n : Nat) (F : FF), fX5_scan_L0 N n F = some res → FV cX5_scan 1 RX5 (d + 2) none none 0 [.ref 33] [] F (RU res) := by
  intro n
  induction n with
  | zero =>
    intro F h
    rw [fX5_scan_L0.eq_1] at h
    cases h
  | succ n ih =>
    intro F h
    rw [fX5_scan_L0.eq_2] at h
    refine V_aload_n dX5_scan_0 rfl rfl rfl ?_
    refine F_getI dX5_scan_1 fl_X5_20 ly_33 rfl rfl ?_
    refine V_aload_n dX5_scan_4 rfl rfl rfl ?_
    refine F_getI dX5_scan_5 fl_X5_34 ly_33 rfl rfl ?_
    refine A_icmp_ge dX5_scan_8 rfl rfl h (fun h => ?_) (fun h => ?_)
    · exact okX5_scan_b38 h
    · refine V_aload_n dX5_scan_11 rfl rfl rfl ?_
      refine F_getR dX5_scan_12 fl_X5_9 ly_33 rfl rfl ?_
      refine V_aload_n dX5_scan_15 rfl rfl rfl ?_
      refine F_getI dX5_scan_16 fl_X5_20 ly_33 rfl rfl ?_
      refine A_ld1 dX5_scan_19 rfl h fun v1 h => ?_
      refine V_bipush dX5_scan_20 cb_32 rfl ?_
      refine A_icmp_ne dX5_scan_22 rfl rfl h (fun h => ?_) (fun h => ?_)
      · exact okX5_scan_b38 h
      · refine V_aload_n dX5_scan_25 rfl rfl rfl ?_
        refine V_dup dX5_scan_26 rfl rfl ?_
        refine F_getI dX5_scan_27 fl_X5_20 ly_33 rfl rfl ?_
        refine V_iconst dX5_scan_30 ci_1 rfl ?_
        refine V_iadd dX5_scan_31 rfl ?_
        refine A_pn dX5_scan_32 fl_X5_20 rfl (Or.inl rfl) ly_33 rfl rfl h fun F1 h => ?_
        refine V_goto dX5_scan_35 rfl ?_
        exact ih F1 h
theorem cp_X5_scan {N d : Nat} {F F' : FF} {r : Unit} (h : fX5_scan N F = some (r, F')) : CP (d + 2) mX5_scan [.ref 33] F (fun r' F'' => r' = eU r ∧ F'' = F') := CP_U rfl (Nat.le_of_ble_eq_true rfl) (okX5_scan_L0 _ _ h)
theorem okX5_isNamed_L20 {N d : Nat} {l1 : UInt32} {res : Int32 × FF} : ∀ (n : Nat) (l2 : Int32) (F : FF), fX5_isNamed_L20 N l1 n l2 F = some res → FV cX5_isNamed 3 RX5 (d + 5) (some .boolean) none 20 [.ref 33, .float l1, .int l2] [] F (RI res) := by
  intro n
  induction n with
  | zero =>
    intro l2 F h
    rw [fX5_isNamed_L20.eq_1] at h
    cases h
  | succ n ih =>
    intro l2 F h
    rw [fX5_isNamed_L20.eq_2] at h
    refine V_iload_n dX5_isNamed_20 rfl rfl rfl ?_
    refine V_sload_n dX5_isNamed_21 rfl rfl rfl ?_
    refine A_sLen cl_X5_106 dX5_isNamed_22 (st := [.int l2]) (Nat.le_of_ble_eq_true rfl) rfl h fun v1 h => ?_
    refine A_icmp_ge dX5_isNamed_25 rfl rfl h (fun h => ?_) (fun h => ?_)
    · refine V_iconst dX5_isNamed_55 ci_1 rfl ?_
      exact A_creturn dX5_isNamed_56 rfl (by decide) h
    · refine V_aload_n dX5_isNamed_28 rfl rfl rfl ?_
      refine F_getR dX5_isNamed_29 fl_X5_9 ly_33 rfl rfl ?_
      refine V_aload_n dX5_isNamed_32 rfl rfl rfl ?_
      refine F_getI dX5_isNamed_33 fl_X5_95 ly_33 rfl rfl ?_
      refine V_iload_n dX5_isNamed_36 rfl rfl rfl ?_
      refine V_iadd dX5_isNamed_37 rfl ?_
      refine A_ld1 dX5_isNamed_38 rfl h fun v2 h => ?_
      refine V_sload_n dX5_isNamed_39 rfl rfl rfl ?_
      refine V_iload_n dX5_isNamed_40 rfl rfl rfl ?_
      refine A_sAt cl_X5_110 dX5_isNamed_41 (st := [.int v2]) (Nat.le_of_ble_eq_true rfl) rfl h fun v3 h => ?_
      refine A_icmp_eq dX5_isNamed_44 rfl rfl h (fun h => ?_) (fun h => ?_)
      · refine V_iinc dX5_isNamed_49 (v := l2 + 1) rfl (by rw [ci_1]) rfl (ls' := [.ref 33, .float l1, .int (l2 + 1)]) rfl rfl ?_
        refine V_goto dX5_isNamed_52 rfl ?_
        exact ih (l2 + 1) F h
      · refine V_iconst dX5_isNamed_47 ci_0 rfl ?_
        exact A_creturn dX5_isNamed_48 rfl (by decide) h
theorem okX5_isNamed {N d : Nat} {l1 : UInt32} {F : FF} {res : Int32 × FF} (h : fX5_isNamed N l1 F = some res) : FV cX5_isNamed 3 RX5 (d + 5) (some .boolean) none 0 [.ref 33, .float l1, .null] [] F (RI res) := by
  unfold fX5_isNamed at h
  refine V_aload_n dX5_isNamed_0 rfl rfl rfl ?_
  refine F_getI dX5_isNamed_1 fl_X5_20 ly_33 rfl rfl ?_
  refine V_aload_n dX5_isNamed_4 rfl rfl rfl ?_
  refine F_getI dX5_isNamed_5 fl_X5_95 ly_33 rfl rfl ?_
  refine V_isub dX5_isNamed_8 rfl ?_
  refine V_sload_n dX5_isNamed_9 rfl rfl rfl ?_
  refine A_sLen cl_X5_106 dX5_isNamed_10 (st := [.int ((F 33 4) - (F 33 5))]) (Nat.le_of_ble_eq_true rfl) rfl h fun v1 h => ?_
  refine A_icmp_eq dX5_isNamed_13 rfl rfl h (fun h => ?_) (fun h => ?_)
  · refine V_iconst dX5_isNamed_18 ci_0 rfl ?_
    refine V_istore_n dX5_isNamed_19 rfl (by decide) rfl (ls' := [.ref 33, .float l1, .int 0]) rfl rfl ?_
    exact okX5_isNamed_L20 _ _ _ h
  · refine V_iconst dX5_isNamed_16 ci_0 rfl ?_
    exact A_creturn dX5_isNamed_17 rfl (by decide) h
theorem cp_X5_isNamed {N d : Nat} {l1 : UInt32} {F F' : FF} {r : Int32} (h : fX5_isNamed N l1 F = some (r, F')) : CP (d + 5) mX5_isNamed [.ref 33, .float l1] F (fun r' F'' => r' = eI r ∧ F'' = F') := CP_I rfl (Nat.le_of_ble_eq_true rfl) (okX5_isNamed h)
theorem okX5_takeSemicolon {N d : Nat} {F : FF} {res : Int32 × FF} (h : fX5_takeSemicolon N F = some res) : FV cX5_takeSemicolon 1 RX5 (d + 3) (some .boolean) none 0 [.ref 33] [] F (RI res) := by
  unfold fX5_takeSemicolon at h
  refine V_aload_n dX5_takeSemicolon_0 rfl rfl rfl ?_
  refine A_callC (ci := 5) eU dX5_takeSemicolon_1 cl_X5_49 (by decide) rfl rfl (As := []) (st := []) rfl rfl (Nat.le_of_ble_eq_true rfl) rfl h (fun _ _ h => cp_X5_scan (d := d) h) fun _ F1 h => ?_
  refine V_aload_n dX5_takeSemicolon_4 rfl rfl rfl ?_
  refine F_getI dX5_takeSemicolon_5 fl_X5_52 ly_33 rfl rfl ?_
  refine V_iconst dX5_takeSemicolon_8 ci_2 rfl ?_
  refine A_icmp_eq dX5_takeSemicolon_9 rfl rfl h (fun h => ?_) (fun h => ?_)
  · refine V_iconst dX5_takeSemicolon_20 ci_1 rfl ?_
    refine V_goto dX5_takeSemicolon_21 rfl ?_
    exact A_creturn dX5_takeSemicolon_25 rfl (by decide) h
  · refine V_aload_n dX5_takeSemicolon_12 rfl rfl rfl ?_
    refine V_iconst dX5_takeSemicolon_13 ci_2 rfl ?_
    refine A_callC (ci := 5) eI dX5_takeSemicolon_14 cl_X5_45 (by decide) rfl rfl (As := [.int 2]) (st := []) rfl rfl (Nat.le_of_ble_eq_true rfl) rfl h (fun _ _ h => cp_X5_refuse (d := d + 2) h) fun v1 F2 h => ?_
    refine V_midI (q := 25) ((if v1 = 0 then 0 else 1 : Int32)) [] (fun yJ hy hJ => ?_) ?_
    · refine V_if_eq dX5_takeSemicolon_17 rfl rfl (fun c => ?_) (fun c => ?_)
      · rw [if_pos c] at hy
        refine V_iconst dX5_takeSemicolon_24 ci_0 rfl ?_
        rw [hy] at hJ
        exact hJ
      · rw [if_neg c] at hy
        refine V_iconst dX5_takeSemicolon_20 ci_1 rfl ?_
        refine V_goto dX5_takeSemicolon_21 rfl ?_
        rw [hy] at hJ
        exact hJ
    · exact A_creturn dX5_takeSemicolon_25 rfl (by repeat' (first | exact Or.inl rfl | exact Or.inr rfl | split)) h
theorem cp_X5_takeSemicolon {N d : Nat} {F F' : FF} {r : Int32} (h : fX5_takeSemicolon N F = some (r, F')) : CP (d + 3) mX5_takeSemicolon [.ref 33] F (fun r' F'' => r' = eI r ∧ F'' = F') := CP_I rfl (Nat.le_of_ble_eq_true rfl) (okX5_takeSemicolon h)
theorem okX5_takeBooks_b53 {N d : Nat} {F : FF} {res : Int32 × FF} (h : fX5_takeBooks_b53 N F = some res) : FV cX5_takeBooks 2 RX5 (d + 4) (some .boolean) none 53 [.ref 33, .null] [] F (RI res) := by
  unfold fX5_takeBooks_b53 at h
  refine V_aload_n dX5_takeBooks_53 rfl rfl rfl ?_
  refine V_iconst dX5_takeBooks_54 ci_3 rfl ?_
  refine A_callC (ci := 5) eI dX5_takeBooks_55 cl_X5_45 (by decide) rfl rfl (As := [.int 3]) (st := []) rfl rfl (Nat.le_of_ble_eq_true rfl) rfl h (fun _ _ h => cp_X5_refuse (d := d + 3) h) fun v1 F1 h => ?_
  exact A_zreturn dX5_takeBooks_58 rfl h
theorem okX5_takeBooks {N d : Nat} {F : FF} {res : Int32 × FF} (h : fX5_takeBooks N F = some res) : FV cX5_takeBooks 2 RX5 (d + 4) (some .boolean) none 0 [.ref 33, .ref 16] [] F (RI res) := by
  unfold fX5_takeBooks at h
  refine V_aload_n dX5_takeBooks_0 rfl rfl rfl ?_
  refine F_getI dX5_takeBooks_1 fl_X5_30 ly_33 rfl rfl ?_
  refine A_if_eq dX5_takeBooks_4 rfl rfl h (fun h => ?_) (fun h => ?_)
  · refine V_aload_n dX5_takeBooks_13 rfl rfl rfl ?_
    refine V_iconst dX5_takeBooks_14 ci_1 rfl ?_
    refine A_pn dX5_takeBooks_15 fl_X5_30 rfl (Or.inr ⟨rfl, by decide⟩) ly_33 rfl rfl h fun F1 h => ?_
    refine V_aload_n dX5_takeBooks_18 rfl rfl rfl ?_
    refine A_callC (ci := 5) eU dX5_takeBooks_19 cl_X5_49 (by decide) rfl rfl (As := []) (st := []) rfl rfl (Nat.le_of_ble_eq_true rfl) rfl h (fun _ _ h => cp_X5_scan (d := d + 1) h) fun _ F2 h => ?_
    refine V_aload_n dX5_takeBooks_22 rfl rfl rfl ?_
    refine F_getI dX5_takeBooks_23 fl_X5_52 ly_33 rfl rfl ?_
    refine V_iconst dX5_takeBooks_26 ci_1 rfl ?_
    refine A_icmp_eq dX5_takeBooks_27 rfl rfl h (fun h => ?_) (fun h => ?_)
    · refine V_aload_n dX5_takeBooks_36 rfl rfl rfl ?_
      refine F_getI dX5_takeBooks_37 fl_X5_83 ly_33 rfl rfl ?_
      refine V_iconst dX5_takeBooks_40 ci_1 rfl ?_
      refine A_icmp_lt dX5_takeBooks_41 rfl rfl h (fun h => ?_) (fun h => ?_)
      · refine V_weak [true, false] rfl ?_
        exact okX5_takeBooks_b53 h
      · refine V_aload_n dX5_takeBooks_44 rfl rfl rfl ?_
        refine F_getI dX5_takeBooks_45 fl_X5_83 ly_33 rfl rfl ?_
        refine V_bipush dX5_takeBooks_48 cb_6 rfl ?_
        refine A_icmp_le dX5_takeBooks_50 rfl rfl h (fun h => ?_) (fun h => ?_)
        · refine V_aload_n dX5_takeBooks_59 rfl rfl rfl ?_
          refine V_aload_n dX5_takeBooks_60 rfl rfl rfl ?_
          refine F_getI dX5_takeBooks_61 fl_X5_83 ly_33 rfl rfl ?_
          refine A_pn dX5_takeBooks_64 fl_X5_86 rfl (Or.inl rfl) ly_16 rfl rfl h fun F3 h => ?_
          refine V_aload_n dX5_takeBooks_67 rfl rfl rfl ?_
          refine A_callC (ci := 5) eI dX5_takeBooks_68 cl_X5_80 (by decide) rfl rfl (As := []) (st := []) rfl rfl (Nat.le_of_ble_eq_true rfl) rfl h (fun _ _ h => cp_X5_takeSemicolon (d := d) h) fun v1 F4 h => ?_
          exact A_zreturn dX5_takeBooks_71 rfl h
        · refine V_weak [true, false] rfl ?_
          exact okX5_takeBooks_b53 h
    · refine V_aload_n dX5_takeBooks_30 rfl rfl rfl ?_
      refine V_iconst dX5_takeBooks_31 ci_2 rfl ?_
      refine A_callC (ci := 5) eI dX5_takeBooks_32 cl_X5_45 (by decide) rfl rfl (As := [.int 2]) (st := []) rfl rfl (Nat.le_of_ble_eq_true rfl) rfl h (fun _ _ h => cp_X5_refuse (d := d + 3) h) fun v2 F5 h => ?_
      exact A_zreturn dX5_takeBooks_35 rfl h
  · refine V_aload_n dX5_takeBooks_7 rfl rfl rfl ?_
    refine V_iconst dX5_takeBooks_8 ci_4 rfl ?_
    refine A_callC (ci := 5) eI dX5_takeBooks_9 cl_X5_45 (by decide) rfl rfl (As := [.int 4]) (st := []) rfl rfl (Nat.le_of_ble_eq_true rfl) rfl h (fun _ _ h => cp_X5_refuse (d := d + 3) h) fun v3 F6 h => ?_
    exact A_zreturn dX5_takeBooks_12 rfl h
theorem cp_X5_takeBooks {N d : Nat} {F F' : FF} {r : Int32} (h : fX5_takeBooks N F = some (r, F')) : CP (d + 4) mX5_takeBooks [.ref 33, .ref 16] F (fun r' F'' => r' = eI r ∧ F'' = F') := CP_I rfl (Nat.le_of_ble_eq_true rfl) (okX5_takeBooks h)
theorem okX0_addWant {N d : Nat} {l0 : Nat} {l1 : Int32} {F : FF} {res : Int32 × FF} (h : fX0_addWant N l0 l1 F = some res) : FV cX0_addWant 2 RX0 (d) (some .boolean) none 0 [.ref l0, .int l1] [] F (RI res) := by
  unfold fX0_addWant at h
  refine V_aload_n dX0_addWant_0 rfl rfl rfl ?_
  refine A_gI dX0_addWant_1 fl_X0_32 rfl h fun v1 h => ?_
  refine V_bipush dX0_addWant_4 cb_16 rfl ?_
  refine A_icmp_lt dX0_addWant_6 rfl rfl h (fun h => ?_) (fun h => ?_)
  · refine V_aload_n dX0_addWant_11 rfl rfl rfl ?_
    refine A_gR dX0_addWant_12 fl_X0_17 rfl h fun v2 h => ?_
    refine V_aload_n dX0_addWant_15 rfl rfl rfl ?_
    refine A_gI dX0_addWant_16 fl_X0_32 rfl h fun v3 h => ?_
    refine V_iload_n dX0_addWant_19 rfl rfl rfl ?_
    refine A_st0 dX0_addWant_20 rfl h fun F1 h => ?_
    refine V_aload_n dX0_addWant_21 rfl rfl rfl ?_
    refine V_dup dX0_addWant_22 rfl rfl ?_
    refine A_gI dX0_addWant_23 fl_X0_32 rfl h fun v4 h => ?_
    refine V_iconst dX0_addWant_26 ci_1 rfl ?_
    refine V_iadd dX0_addWant_27 rfl ?_
    refine A_pI dX0_addWant_28 fl_X0_32 rfl rfl rfl h fun F2 h => ?_
    refine V_iconst dX0_addWant_31 ci_1 rfl ?_
    exact A_creturn dX0_addWant_32 rfl (by decide) h
  · refine V_iconst dX0_addWant_9 ci_0 rfl ?_
    exact A_creturn dX0_addWant_10 rfl (by decide) h
theorem cp_X0_addWant {N d : Nat} {l0 : Nat} {l1 : Int32} {F F' : FF} {r : Int32} (h : fX0_addWant N l0 l1 F = some (r, F')) : CP (d) mX0_addWant [.ref l0, .int l1] F (fun r' F'' => r' = eI r ∧ F'' = F') := CP_I rfl (Nat.le_of_ble_eq_true rfl) (okX0_addWant h)
theorem okX5_takeWants_L2 {N d : Nat} {res : Int32 × FF} : ∀ (n : Nat) (l2 : Int32) (F : FF), fX5_takeWants_L2 N n l2 F = some res → FV cX5_takeWants 3 RX5 (d + 3) (some .boolean) none 2 [.ref 33, .ref 16, .int l2] [] F (RI res) := by
  intro n
  induction n with
  | zero =>
    intro l2 F h
    rw [fX5_takeWants_L2.eq_1] at h
    cases h
  | succ n ih =>
    intro l2 F h
    rw [fX5_takeWants_L2.eq_2] at h
    refine V_iload_n dX5_takeWants_2 rfl rfl rfl ?_
    refine V_bipush dX5_takeWants_3 cb_16 rfl ?_
    refine A_icmp_gt dX5_takeWants_5 rfl rfl h (fun h => ?_) (fun h => ?_)
    · refine V_iconst dX5_takeWants_81 ci_0 rfl ?_
      exact A_creturn dX5_takeWants_82 rfl (by decide) h
    · refine V_aload_n dX5_takeWants_8 rfl rfl rfl ?_
      refine A_callC (ci := 5) eU dX5_takeWants_9 cl_X5_49 (by decide) rfl rfl (As := []) (st := []) rfl rfl (Nat.le_of_ble_eq_true rfl) rfl h (fun _ _ h => cp_X5_scan (d := d) h) fun _ F1 h => ?_
      refine V_aload_n dX5_takeWants_12 rfl rfl rfl ?_
      refine F_getI dX5_takeWants_13 fl_X5_52 ly_33 rfl rfl ?_
      refine V_iconst dX5_takeWants_16 ci_2 rfl ?_
      refine A_icmp_ne dX5_takeWants_17 rfl rfl h (fun h => ?_) (fun h => ?_)
      · refine V_aload_n dX5_takeWants_22 rfl rfl rfl ?_
        refine F_getI dX5_takeWants_23 fl_X5_52 ly_33 rfl rfl ?_
        refine V_iconst dX5_takeWants_26 ci_1 rfl ?_
        refine A_icmp_eq dX5_takeWants_27 rfl rfl h (fun h => ?_) (fun h => ?_)
        · refine V_aload_n dX5_takeWants_36 rfl rfl rfl ?_
          refine F_getI dX5_takeWants_37 fl_X5_89 ly_16 rfl rfl ?_
          refine V_bipush dX5_takeWants_40 cb_16 rfl ?_
          refine A_icmp_lt dX5_takeWants_42 rfl rfl h (fun h => ?_) (fun h => ?_)
          · refine V_aload_n dX5_takeWants_51 rfl rfl rfl ?_
            refine F_getI dX5_takeWants_52 fl_X5_83 ly_33 rfl rfl ?_
            refine V_bipush dX5_takeWants_55 cb_6 rfl ?_
            refine A_icmp_lt dX5_takeWants_57 rfl rfl h (fun h => ?_) (fun h => ?_)
            · refine V_aload_n dX5_takeWants_66 rfl rfl rfl ?_
              refine V_aload_n dX5_takeWants_67 rfl rfl rfl ?_
              refine F_getI dX5_takeWants_68 fl_X5_83 ly_33 rfl rfl ?_
              refine A_callC (ci := 0) eI dX5_takeWants_71 cl_X5_92 (by decide) rfl rfl (As := [.int (F1 33 7)]) (st := []) rfl rfl (Nat.le_of_ble_eq_true rfl) rfl h (fun _ _ h => cp_X0_addWant (d := d + 2) h) fun v1 F2 h => ?_
              refine V_pop dX5_takeWants_74 rfl rfl ?_
              refine V_iinc dX5_takeWants_75 (v := l2 + 1) rfl (by rw [ci_1]) rfl (ls' := [.ref 33, .ref 16, .int (l2 + 1)]) rfl rfl ?_
              refine V_goto dX5_takeWants_78 rfl ?_
              exact ih (l2 + 1) F2 h
            · refine V_aload_n dX5_takeWants_60 rfl rfl rfl ?_
              refine V_iconst dX5_takeWants_61 ci_3 rfl ?_
              refine A_callC (ci := 5) eI dX5_takeWants_62 cl_X5_45 (by decide) rfl rfl (As := [.int 3]) (st := []) rfl rfl (Nat.le_of_ble_eq_true rfl) rfl h (fun _ _ h => cp_X5_refuse (d := d + 2) h) fun v2 F3 h => ?_
              exact A_zreturn dX5_takeWants_65 rfl h
          · refine V_aload_n dX5_takeWants_45 rfl rfl rfl ?_
            refine V_iconst dX5_takeWants_46 ci_5 rfl ?_
            refine A_callC (ci := 5) eI dX5_takeWants_47 cl_X5_45 (by decide) rfl rfl (As := [.int 5]) (st := []) rfl rfl (Nat.le_of_ble_eq_true rfl) rfl h (fun _ _ h => cp_X5_refuse (d := d + 2) h) fun v3 F4 h => ?_
            exact A_zreturn dX5_takeWants_50 rfl h
        · refine V_aload_n dX5_takeWants_30 rfl rfl rfl ?_
          refine V_iconst dX5_takeWants_31 ci_2 rfl ?_
          refine A_callC (ci := 5) eI dX5_takeWants_32 cl_X5_45 (by decide) rfl rfl (As := [.int 2]) (st := []) rfl rfl (Nat.le_of_ble_eq_true rfl) rfl h (fun _ _ h => cp_X5_refuse (d := d + 2) h) fun v4 F5 h => ?_
          exact A_zreturn dX5_takeWants_35 rfl h
      · refine V_iconst dX5_takeWants_20 ci_1 rfl ?_
        exact A_creturn dX5_takeWants_21 rfl (by decide) h
theorem okX5_takeWants {N d : Nat} {F : FF} {res : Int32 × FF} (h : fX5_takeWants N F = some res) : FV cX5_takeWants 3 RX5 (d + 3) (some .boolean) none 0 [.ref 33, .ref 16, .null] [] F (RI res) := by
  unfold fX5_takeWants at h
  refine V_iconst dX5_takeWants_0 ci_0 rfl ?_
  refine V_istore_n dX5_takeWants_1 rfl (by decide) rfl (ls' := [.ref 33, .ref 16, .int 0]) rfl rfl ?_
  exact okX5_takeWants_L2 _ _ _ h
theorem cp_X5_takeWants {N d : Nat} {F F' : FF} {r : Int32} (h : fX5_takeWants N F = some (r, F')) : CP (d + 3) mX5_takeWants [.ref 33, .ref 16] F (fun r' F'' => r' = eI r ∧ F'' = F') := CP_I rfl (Nat.le_of_ble_eq_true rfl) (okX5_takeWants h)
theorem okX5_kindNamed {N d : Nat} {F : FF} {res : Int32 × FF} (h : fX5_kindNamed N F = some res) : FV cX5_kindNamed 1 RX5 (d + 6) (some .int) none 0 [.ref 33] [] F (RI res) := by
  unfold fX5_kindNamed at h
  refine V_aload_n dX5_kindNamed_0 rfl rfl rfl ?_
  refine V_ldcS (i := 2) dX5_kindNamed_1 rfl rfl rfl rfl ?_
  refine A_callC (ci := 5) eI dX5_kindNamed_3 cl_X5_57 (by decide) rfl rfl (As := [.float 2]) (st := []) rfl rfl (Nat.le_of_ble_eq_true rfl) rfl h (fun _ _ h => cp_X5_isNamed (d := d) h) fun v1 F1 h => ?_
  refine A_if_eq dX5_kindNamed_6 rfl rfl h (fun h => ?_) (fun h => ?_)
  · refine V_aload_n dX5_kindNamed_11 rfl rfl rfl ?_
    refine V_ldcS (i := 3) dX5_kindNamed_12 rfl rfl rfl rfl ?_
    refine A_callC (ci := 5) eI dX5_kindNamed_14 cl_X5_57 (by decide) rfl rfl (As := [.float 3]) (st := []) rfl rfl (Nat.le_of_ble_eq_true rfl) rfl h (fun _ _ h => cp_X5_isNamed (d := d) h) fun v2 F2 h => ?_
    refine A_if_eq dX5_kindNamed_17 rfl rfl h (fun h => ?_) (fun h => ?_)
    · refine V_aload_n dX5_kindNamed_22 rfl rfl rfl ?_
      refine V_ldcS (i := 4) dX5_kindNamed_23 rfl rfl rfl rfl ?_
      refine A_callC (ci := 5) eI dX5_kindNamed_25 cl_X5_57 (by decide) rfl rfl (As := [.float 4]) (st := []) rfl rfl (Nat.le_of_ble_eq_true rfl) rfl h (fun _ _ h => cp_X5_isNamed (d := d) h) fun v3 F3 h => ?_
      refine A_if_eq dX5_kindNamed_28 rfl rfl h (fun h => ?_) (fun h => ?_)
      · refine V_aload_n dX5_kindNamed_33 rfl rfl rfl ?_
        refine V_ldcS (i := 5) dX5_kindNamed_34 rfl rfl rfl rfl ?_
        refine A_callC (ci := 5) eI dX5_kindNamed_36 cl_X5_57 (by decide) rfl rfl (As := [.float 5]) (st := []) rfl rfl (Nat.le_of_ble_eq_true rfl) rfl h (fun _ _ h => cp_X5_isNamed (d := d) h) fun v4 F4 h => ?_
        refine V_midI (q := 47) ((if v4 = 0 then ((-1)) else 3 : Int32)) [] (fun yJ hy hJ => ?_) ?_
        · refine V_if_eq dX5_kindNamed_39 rfl rfl (fun c => ?_) (fun c => ?_)
          · rw [if_pos c] at hy
            refine V_iconst dX5_kindNamed_46 ci_m1 rfl ?_
            rw [hy] at hJ
            exact hJ
          · rw [if_neg c] at hy
            refine V_iconst dX5_kindNamed_42 ci_3 rfl ?_
            refine V_goto dX5_kindNamed_43 rfl ?_
            rw [hy] at hJ
            exact hJ
        · exact A_ireturn dX5_kindNamed_47 rfl h
      · refine V_iconst dX5_kindNamed_31 ci_2 rfl ?_
        exact A_ireturn dX5_kindNamed_32 rfl h
    · refine V_iconst dX5_kindNamed_20 ci_1 rfl ?_
      exact A_ireturn dX5_kindNamed_21 rfl h
  · refine V_iconst dX5_kindNamed_9 ci_0 rfl ?_
    exact A_ireturn dX5_kindNamed_10 rfl h
theorem cp_X5_kindNamed {N d : Nat} {F F' : FF} {r : Int32} (h : fX5_kindNamed N F = some (r, F')) : CP (d + 6) mX5_kindNamed [.ref 33] F (fun r' F'' => r' = eI r ∧ F'' = F') := CP_I rfl (Nat.le_of_ble_eq_true rfl) (okX5_kindNamed h)
theorem okX0_addShelf {N d : Nat} {l0 : Nat} {l1 : Int32} {F : FF} {res : Int32 × FF} (h : fX0_addShelf N l0 l1 F = some res) : FV cX0_addShelf 2 RX0 (d + 1) (some .boolean) none 0 [.ref l0, .int l1] [] F (RI res) := by
  unfold fX0_addShelf at h
  refine V_aload_n dX0_addShelf_0 rfl rfl rfl ?_
  refine A_gI dX0_addShelf_1 fl_X0_29 rfl h fun v1 h => ?_
  refine V_iconst dX0_addShelf_4 ci_4 rfl ?_
  refine A_icmp_lt dX0_addShelf_5 rfl rfl h (fun h => ?_) (fun h => ?_)
  · refine V_aload_n dX0_addShelf_10 rfl rfl rfl ?_
    refine A_gR dX0_addShelf_11 fl_X0_11 rfl h fun v2 h => ?_
    refine V_aload_n dX0_addShelf_14 rfl rfl rfl ?_
    refine A_gI dX0_addShelf_15 fl_X0_29 rfl h fun v3 h => ?_
    refine A_ldR (t := 5) dX0_addShelf_18 rfl h fun v4 h => ?_
    refine V_iload_n dX0_addShelf_19 rfl rfl rfl ?_
    refine A_callV (ci := 4) eU dX0_addShelf_20 cl_X0_48 (by decide) rfl (As := [.int l1]) (st := []) rfl rfl (Nat.le_of_ble_eq_true rfl) rfl h (fun _ _ h => cp_X4_begin (d := d) h) fun _ F1 h => ?_
    refine V_aload_n dX0_addShelf_23 rfl rfl rfl ?_
    refine V_dup dX0_addShelf_24 rfl rfl ?_
    refine A_gI dX0_addShelf_25 fl_X0_29 rfl h fun v5 h => ?_
    refine V_iconst dX0_addShelf_28 ci_1 rfl ?_
    refine V_iadd dX0_addShelf_29 rfl ?_
    refine A_pI dX0_addShelf_30 fl_X0_29 rfl rfl rfl h fun F2 h => ?_
    refine V_iconst dX0_addShelf_33 ci_1 rfl ?_
    exact A_creturn dX0_addShelf_34 rfl (by decide) h
  · refine V_iconst dX0_addShelf_8 ci_0 rfl ?_
    exact A_creturn dX0_addShelf_9 rfl (by decide) h
theorem cp_X0_addShelf {N d : Nat} {l0 : Nat} {l1 : Int32} {F F' : FF} {r : Int32} (h : fX0_addShelf N l0 l1 F = some (r, F')) : CP (d + 1) mX0_addShelf [.ref l0, .int l1] F (fun r' F'' => r' = eI r ∧ F'' = F') := CP_I rfl (Nat.le_of_ble_eq_true rfl) (okX0_addShelf h)
theorem okX5_takeShelf {N d : Nat} {l2 : Int32} {F : FF} {res : Int32 × FF} (h : fX5_takeShelf N l2 F = some res) : FV cX5_takeShelf 3 RX5 (d + 4) (some .boolean) none 0 [.ref 33, .ref 16, .int l2] [] F (RI res) := by
  unfold fX5_takeShelf at h
  refine V_aload_n dX5_takeShelf_0 rfl rfl rfl ?_
  refine V_iload_n dX5_takeShelf_1 rfl rfl rfl ?_
  refine A_callC (ci := 0) eI dX5_takeShelf_2 cl_X5_77 (by decide) rfl rfl (As := [.int l2]) (st := []) rfl rfl (Nat.le_of_ble_eq_true rfl) rfl h (fun _ _ h => cp_X0_addShelf (d := d + 2) h) fun v1 F1 h => ?_
  refine A_if_ne dX5_takeShelf_5 rfl rfl h (fun h => ?_) (fun h => ?_)
  · refine V_aload_n dX5_takeShelf_14 rfl rfl rfl ?_
    refine A_callC (ci := 5) eI dX5_takeShelf_15 cl_X5_80 (by decide) rfl rfl (As := []) (st := []) rfl rfl (Nat.le_of_ble_eq_true rfl) rfl h (fun _ _ h => cp_X5_takeSemicolon (d := d) h) fun v2 F2 h => ?_
    exact A_zreturn dX5_takeShelf_18 rfl h
  · refine V_aload_n dX5_takeShelf_8 rfl rfl rfl ?_
    refine V_iconst dX5_takeShelf_9 ci_5 rfl ?_
    refine A_callC (ci := 5) eI dX5_takeShelf_10 cl_X5_45 (by decide) rfl rfl (As := [.int 5]) (st := []) rfl rfl (Nat.le_of_ble_eq_true rfl) rfl h (fun _ _ h => cp_X5_refuse (d := d + 3) h) fun v3 F3 h => ?_
    exact A_zreturn dX5_takeShelf_13 rfl h
theorem cp_X5_takeShelf {N d : Nat} {l2 : Int32} {F F' : FF} {r : Int32} (h : fX5_takeShelf N l2 F = some (r, F')) : CP (d + 4) mX5_takeShelf [.ref 33, .ref 16, .int l2] F (fun r' F'' => r' = eI r ∧ F'' = F') := CP_I rfl (Nat.le_of_ble_eq_true rfl) (okX5_takeShelf h)
theorem okX5_takeLine {N d : Nat} {F : FF} {res : Int32 × FF} (h : fX5_takeLine N F = some res) : FV cX5_takeLine 3 RX5 (d + 7) (some .boolean) none 0 [.ref 33, .ref 16, .null] [] F (RI res) := by
  unfold fX5_takeLine at h
  refine V_aload_n dX5_takeLine_0 rfl rfl rfl ?_
  refine A_callC (ci := 5) eU dX5_takeLine_1 cl_X5_49 (by decide) rfl rfl (As := []) (st := []) rfl rfl (Nat.le_of_ble_eq_true rfl) rfl h (fun _ _ h => cp_X5_scan (d := d + 4) h) fun _ F1 h => ?_
  refine V_aload_n dX5_takeLine_4 rfl rfl rfl ?_
  refine F_getI dX5_takeLine_5 fl_X5_52 ly_33 rfl rfl ?_
  refine V_iconst dX5_takeLine_8 ci_3 rfl ?_
  refine A_icmp_ne dX5_takeLine_9 rfl rfl h (fun h => ?_) (fun h => ?_)
  · refine V_aload_n dX5_takeLine_14 rfl rfl rfl ?_
    refine F_getI dX5_takeLine_15 fl_X5_52 ly_33 rfl rfl ?_
    refine A_if_eq dX5_takeLine_18 rfl rfl h (fun h => ?_) (fun h => ?_)
    · refine V_aload_n dX5_takeLine_27 rfl rfl rfl ?_
      refine V_ldcS (i := 0) dX5_takeLine_28 rfl rfl rfl rfl ?_
      refine A_callC (ci := 5) eI dX5_takeLine_30 cl_X5_57 (by decide) rfl rfl (As := [.float 0]) (st := []) rfl rfl (Nat.le_of_ble_eq_true rfl) rfl h (fun _ _ h => cp_X5_isNamed (d := d + 1) h) fun v1 F2 h => ?_
      refine A_if_eq dX5_takeLine_33 rfl rfl h (fun h => ?_) (fun h => ?_)
      · refine V_aload_n dX5_takeLine_42 rfl rfl rfl ?_
        refine V_ldcS (i := 1) dX5_takeLine_43 rfl rfl rfl rfl ?_
        refine A_callC (ci := 5) eI dX5_takeLine_45 cl_X5_57 (by decide) rfl rfl (As := [.float 1]) (st := []) rfl rfl (Nat.le_of_ble_eq_true rfl) rfl h (fun _ _ h => cp_X5_isNamed (d := d + 1) h) fun v2 F3 h => ?_
        refine A_if_eq dX5_takeLine_48 rfl rfl h (fun h => ?_) (fun h => ?_)
        · refine V_aload_n dX5_takeLine_57 rfl rfl rfl ?_
          refine A_callC (ci := 5) eI dX5_takeLine_58 cl_X5_69 (by decide) rfl rfl (As := []) (st := []) rfl rfl (Nat.le_of_ble_eq_true rfl) rfl h (fun _ _ h => cp_X5_kindNamed (d := d) h) fun v3 F4 h => ?_
          refine V_istore_n dX5_takeLine_61 rfl (by decide) rfl (ls' := [.ref 33, .ref 16, .int v3]) rfl rfl ?_
          refine V_iload_n dX5_takeLine_62 rfl rfl rfl ?_
          refine V_iconst dX5_takeLine_63 ci_m1 rfl ?_
          refine A_icmp_ne dX5_takeLine_64 rfl rfl h (fun h => ?_) (fun h => ?_)
          · refine V_aload_n dX5_takeLine_75 rfl rfl rfl ?_
            refine V_aload_n dX5_takeLine_76 rfl rfl rfl ?_
            refine V_iload_n dX5_takeLine_77 rfl rfl rfl ?_
            refine A_callC (ci := 5) eI dX5_takeLine_78 cl_X5_73 (by decide) rfl rfl (As := [.ref 16, .int v3]) (st := []) rfl rfl (Nat.le_of_ble_eq_true rfl) rfl h (fun _ _ h => cp_X5_takeShelf (d := d + 2) h) fun v4 F5 h => ?_
            exact A_zreturn dX5_takeLine_81 rfl h
          · refine V_aload_n dX5_takeLine_67 rfl rfl rfl ?_
            refine V_iconst dX5_takeLine_68 ci_2 rfl ?_
            refine A_callC (ci := 5) eI dX5_takeLine_69 cl_X5_45 (by decide) rfl rfl (As := [.int 2]) (st := []) rfl rfl (Nat.le_of_ble_eq_true rfl) rfl h (fun _ _ h => cp_X5_refuse (d := d + 6) h) fun v5 F6 h => ?_
            refine V_goto dX5_takeLine_72 rfl ?_
            exact A_zreturn dX5_takeLine_81 rfl h
        · refine V_aload_n dX5_takeLine_51 rfl rfl rfl ?_
          refine V_aload_n dX5_takeLine_52 rfl rfl rfl ?_
          refine A_callC (ci := 5) eI dX5_takeLine_53 cl_X5_66 (by decide) rfl rfl (As := [.ref 16]) (st := []) rfl rfl (Nat.le_of_ble_eq_true rfl) rfl h (fun _ _ h => cp_X5_takeWants (d := d + 3) h) fun v6 F7 h => ?_
          exact A_zreturn dX5_takeLine_56 rfl h
      · refine V_aload_n dX5_takeLine_36 rfl rfl rfl ?_
        refine V_aload_n dX5_takeLine_37 rfl rfl rfl ?_
        refine A_callC (ci := 5) eI dX5_takeLine_38 cl_X5_61 (by decide) rfl rfl (As := [.ref 16]) (st := []) rfl rfl (Nat.le_of_ble_eq_true rfl) rfl h (fun _ _ h => cp_X5_takeBooks (d := d + 2) h) fun v7 F8 h => ?_
        exact A_zreturn dX5_takeLine_41 rfl h
    · refine V_aload_n dX5_takeLine_21 rfl rfl rfl ?_
      refine V_iconst dX5_takeLine_22 ci_2 rfl ?_
      refine A_callC (ci := 5) eI dX5_takeLine_23 cl_X5_45 (by decide) rfl rfl (As := [.int 2]) (st := []) rfl rfl (Nat.le_of_ble_eq_true rfl) rfl h (fun _ _ h => cp_X5_refuse (d := d + 6) h) fun v8 F9 h => ?_
      exact A_zreturn dX5_takeLine_26 rfl h
  · refine V_iconst dX5_takeLine_12 ci_0 rfl ?_
    exact A_creturn dX5_takeLine_13 rfl (by decide) h
theorem cp_X5_takeLine {N d : Nat} {F F' : FF} {r : Int32} (h : fX5_takeLine N F = some (r, F')) : CP (d + 7) mX5_takeLine [.ref 33, .ref 16] F (fun r' F'' => r' = eI r ∧ F'' = F') := CP_I rfl (Nat.le_of_ble_eq_true rfl) (okX5_takeLine h)
theorem okX0_hasBook {N d : Nat} {l0 : Nat} {l1 : Int32} {F : FF} {res : Int32 × FF} (h : fX0_hasBook N l0 l1 F = some res) : FV cX0_hasBook 2 RX0 (d) (some .boolean) none 0 [.ref l0, .int l1] [] F (RI res) := by
  unfold fX0_hasBook at h
  refine V_iload_n dX0_hasBook_0 rfl rfl rfl ?_
  refine A_if_lt dX0_hasBook_1 rfl rfl h (fun h => ?_) (fun h => ?_)
  · refine V_iconst dX0_hasBook_16 ci_0 rfl ?_
    exact A_creturn dX0_hasBook_17 rfl (by decide) h
  · refine V_iload_n dX0_hasBook_4 rfl rfl rfl ?_
    refine V_aload_n dX0_hasBook_5 rfl rfl rfl ?_
    refine A_gI dX0_hasBook_6 fl_X0_25 rfl h fun v1 h => ?_
    refine V_midI (q := 17) ((if v1 ≤ l1 then 0 else 1 : Int32)) [] (fun yJ hy hJ => ?_) ?_
    · refine V_icmp_ge dX0_hasBook_9 rfl rfl (fun c => ?_) (fun c => ?_)
      · rw [if_pos c] at hy
        refine V_iconst dX0_hasBook_16 ci_0 rfl ?_
        rw [hy] at hJ
        exact hJ
      · rw [if_neg c] at hy
        refine V_iconst dX0_hasBook_12 ci_1 rfl ?_
        refine V_goto dX0_hasBook_13 rfl ?_
        rw [hy] at hJ
        exact hJ
    · exact A_creturn dX0_hasBook_17 rfl (by repeat' (first | exact Or.inl rfl | exact Or.inr rfl | split)) h
theorem cp_X0_hasBook {N d : Nat} {l0 : Nat} {l1 : Int32} {F F' : FF} {r : Int32} (h : fX0_hasBook N l0 l1 F = some (r, F')) : CP (d) mX0_hasBook [.ref l0, .int l1] F (fun r' F'' => r' = eI r ∧ F'' = F') := CP_I rfl (Nat.le_of_ble_eq_true rfl) (okX0_hasBook h)
theorem pe_X0_hasBook {N : Nat} {l0 : Nat} {l1 : Int32} {F : FF} (hok : okC 0 l0 = true) : fX0_hasBook N l0 l1 F = some (pX0_hasBook l0 l1 F, F) := by
  simp only [fX0_hasBook, pX0_hasBook, gI, okF_C hok (k := 0) rfl, okF_C hok (k := 1) rfl, okF_C hok (k := 2) rfl, okF_C hok (k := 3) rfl, if_true]
  repeat (first | rfl | split)
theorem cq_X0_hasBook {d : Nat} {l0 : Nat} {l1 : Int32} {F : FF} (hok : okC 0 l0 = true) : CP (d) mX0_hasBook [.ref l0, .int l1] F (fun r' F'' => r' = eI (pX0_hasBook l0 l1 F) ∧ F'' = F) := cp_X0_hasBook (N := 0) (pe_X0_hasBook hok)
theorem okX0_wantsNoSuchBook_L2 {N d : Nat} {l0 : Nat} {res : Int32 × FF} : ∀ (n : Nat) (l1 : Int32) (F : FF), fX0_wantsNoSuchBook_L2 N l0 n l1 F = some res → FV cX0_wantsNoSuchBook 2 RX0 (d + 1) (some .boolean) none 2 [.ref l0, .int l1] [] F (RI res) := by
  intro n
  induction n with
  | zero =>
    intro l1 F h
    rw [fX0_wantsNoSuchBook_L2.eq_1] at h
    cases h
  | succ n ih =>
    intro l1 F h
    rw [fX0_wantsNoSuchBook_L2.eq_2] at h
    refine V_iload_n dX0_wantsNoSuchBook_2 rfl rfl rfl ?_
    refine V_aload_n dX0_wantsNoSuchBook_3 rfl rfl rfl ?_
    refine A_gI dX0_wantsNoSuchBook_4 fl_X0_32 rfl h fun v1 h => ?_
    refine A_icmp_ge dX0_wantsNoSuchBook_7 rfl rfl h (fun h => ?_) (fun h => ?_)
    · refine V_iconst dX0_wantsNoSuchBook_31 ci_0 rfl ?_
      exact A_creturn dX0_wantsNoSuchBook_32 rfl (by decide) h
    · refine V_aload_n dX0_wantsNoSuchBook_10 rfl rfl rfl ?_
      refine V_aload_n dX0_wantsNoSuchBook_11 rfl rfl rfl ?_
      refine A_gR dX0_wantsNoSuchBook_12 fl_X0_17 rfl h fun v2 h => ?_
      refine V_iload_n dX0_wantsNoSuchBook_15 rfl rfl rfl ?_
      refine A_ld0 dX0_wantsNoSuchBook_16 rfl h fun v3 h => ?_
      refine A_okc h fun hok h => ?_
      refine P_callV (ci := 0) dX0_wantsNoSuchBook_17 cl_X0_52 (by decide) rfl hok (cq_X0_hasBook (d := d) hok) (As := [.int v3]) (st := []) rfl rfl (Nat.le_of_ble_eq_true rfl) rfl ?_
      refine A_if_ne dX0_wantsNoSuchBook_20 rfl rfl h (fun h => ?_) (fun h => ?_)
      · refine V_iinc dX0_wantsNoSuchBook_25 (v := l1 + 1) rfl (by rw [ci_1]) rfl (ls' := [.ref l0, .int (l1 + 1)]) rfl rfl ?_
        refine V_goto dX0_wantsNoSuchBook_28 rfl ?_
        exact ih (l1 + 1) F h
      · refine V_iconst dX0_wantsNoSuchBook_23 ci_1 rfl ?_
        exact A_creturn dX0_wantsNoSuchBook_24 rfl (by decide) h
theorem okX0_wantsNoSuchBook {N d : Nat} {l0 : Nat} {F : FF} {res : Int32 × FF} (h : fX0_wantsNoSuchBook N l0 F = some res) : FV cX0_wantsNoSuchBook 2 RX0 (d + 1) (some .boolean) none 0 [.ref l0, .null] [] F (RI res) := by
  unfold fX0_wantsNoSuchBook at h
  refine V_iconst dX0_wantsNoSuchBook_0 ci_0 rfl ?_
  refine V_istore_n dX0_wantsNoSuchBook_1 rfl (by decide) rfl (ls' := [.ref l0, .int 0]) rfl rfl ?_
  exact okX0_wantsNoSuchBook_L2 _ _ _ h
theorem cp_X0_wantsNoSuchBook {N d : Nat} {l0 : Nat} {F F' : FF} {r : Int32} (h : fX0_wantsNoSuchBook N l0 F = some (r, F')) : CP (d + 1) mX0_wantsNoSuchBook [.ref l0] F (fun r' F'' => r' = eI r ∧ F'' = F') := CP_I rfl (Nat.le_of_ble_eq_true rfl) (okX0_wantsNoSuchBook h)
theorem okX5_tellTo_b48 {N d : Nat} {l2 : Int32} {F : FF} {res : Int32 × FF} (h : fX5_tellTo_b48 N l2 F = some res) : FV cX5_tellTo 3 RX5 (d + 8) (some .int) none 48 [.ref 33, .ref 16, .int l2] [] F (RI res) := by
  unfold fX5_tellTo_b48 at h
  refine V_aload_n dX5_tellTo_48 rfl rfl rfl ?_
  refine A_callC (ci := 0) eI dX5_tellTo_49 cl_X5_41 (by decide) rfl rfl (As := []) (st := []) rfl rfl (Nat.le_of_ble_eq_true rfl) rfl h (fun _ _ h => cp_X0_wantsNoSuchBook (d := d + 6) h) fun v1 F1 h => ?_
  refine A_if_eq dX5_tellTo_52 rfl rfl h (fun h => ?_) (fun h => ?_)
  · refine V_iload_n dX5_tellTo_62 rfl rfl rfl ?_
    exact A_ireturn dX5_tellTo_63 rfl h
  · refine V_aload_n dX5_tellTo_55 rfl rfl rfl ?_
    refine V_bipush dX5_tellTo_56 cb_6 rfl ?_
    refine A_callC (ci := 5) eI dX5_tellTo_58 cl_X5_45 (by decide) rfl rfl (As := [.int 6]) (st := []) rfl rfl (Nat.le_of_ble_eq_true rfl) rfl h (fun _ _ h => cp_X5_refuse (d := d + 7) h) fun v2 F2 h => ?_
    refine V_pop dX5_tellTo_61 rfl rfl ?_
    refine V_iload_n dX5_tellTo_62 rfl rfl rfl ?_
    exact A_ireturn dX5_tellTo_63 rfl h
theorem okX5_tellTo_L26 {N d : Nat} {res : Int32 × FF} : ∀ (n : Nat) (l2 : Int32) (F : FF), fX5_tellTo_L26 N n l2 F = some res → FV cX5_tellTo 3 RX5 (d + 8) (some .int) none 26 [.ref 33, .ref 16, .int l2] [] F (RI res) := by
  intro n
  induction n with
  | zero =>
    intro l2 F h
    rw [fX5_tellTo_L26.eq_1] at h
    cases h
  | succ n ih =>
    intro l2 F h
    rw [fX5_tellTo_L26.eq_2] at h
    refine V_iload_n dX5_tellTo_26 rfl rfl rfl ?_
    refine V_aload_n dX5_tellTo_27 rfl rfl rfl ?_
    refine F_getI dX5_tellTo_28 fl_X5_34 ly_33 rfl rfl ?_
    refine A_icmp_gt dX5_tellTo_31 rfl rfl h (fun h => ?_) (fun h => ?_)
    · exact okX5_tellTo_b48 h
    · refine V_aload_n dX5_tellTo_34 rfl rfl rfl ?_
      refine V_aload_n dX5_tellTo_35 rfl rfl rfl ?_
      refine A_callC (ci := 5) eI dX5_tellTo_36 cl_X5_37 (by decide) rfl rfl (As := [.ref 16]) (st := []) rfl rfl (Nat.le_of_ble_eq_true rfl) rfl h (fun _ _ h => cp_X5_takeLine (d := d) h) fun v1 F1 h => ?_
      refine A_if_eq dX5_tellTo_39 rfl rfl h (fun h => ?_) (fun h => ?_)
      · exact okX5_tellTo_b48 h
      · refine V_iinc dX5_tellTo_42 (v := l2 + 1) rfl (by rw [ci_1]) rfl (ls' := [.ref 33, .ref 16, .int (l2 + 1)]) rfl rfl ?_
        refine V_goto dX5_tellTo_45 rfl ?_
        exact ih (l2 + 1) F1 h
theorem okX5_tellTo {N d : Nat} {F : FF} {res : Int32 × FF} (h : fX5_tellTo N F = some res) : FV cX5_tellTo 3 RX5 (d + 8) (some .int) none 0 [.ref 33, .ref 16, .null] [] F (RI res) := by
  unfold fX5_tellTo at h
  refine V_aload_n dX5_tellTo_0 rfl rfl rfl ?_
  refine A_callC (ci := 0) eU dX5_tellTo_1 cl_X5_15 (by decide) rfl rfl (As := []) (st := []) rfl rfl (Nat.le_of_ble_eq_true rfl) rfl h (fun _ _ h => cp_X0_empty (d := d + 7) h) fun _ F1 h => ?_
  refine V_aload_n dX5_tellTo_4 rfl rfl rfl ?_
  refine V_iconst dX5_tellTo_5 ci_0 rfl ?_
  refine A_pn dX5_tellTo_6 fl_X5_20 rfl (Or.inl rfl) ly_33 rfl rfl h fun F2 h => ?_
  refine V_aload_n dX5_tellTo_9 rfl rfl rfl ?_
  refine V_iconst dX5_tellTo_10 ci_0 rfl ?_
  refine A_pn dX5_tellTo_11 fl_X5_24 rfl (Or.inl rfl) ly_33 rfl rfl h fun F3 h => ?_
  refine V_aload_n dX5_tellTo_14 rfl rfl rfl ?_
  refine V_iconst dX5_tellTo_15 ci_0 rfl ?_
  refine A_pn dX5_tellTo_16 fl_X5_27 rfl (Or.inl rfl) ly_33 rfl rfl h fun F4 h => ?_
  refine V_aload_n dX5_tellTo_19 rfl rfl rfl ?_
  refine V_iconst dX5_tellTo_20 ci_0 rfl ?_
  refine A_pn dX5_tellTo_21 fl_X5_30 rfl (Or.inr ⟨rfl, by decide⟩) ly_33 rfl rfl h fun F5 h => ?_
  refine V_iconst dX5_tellTo_24 ci_0 rfl ?_
  refine V_istore_n dX5_tellTo_25 rfl (by decide) rfl (ls' := [.ref 33, .ref 16, .int 0]) rfl rfl ?_
  exact okX5_tellTo_L26 _ _ _ h
theorem cp_X5_tellTo {N d : Nat} {F F' : FF} {r : Int32} (h : fX5_tellTo N F = some (r, F')) : CP (d + 8) mX5_tellTo [.ref 33, .ref 16] F (fun r' F'' => r' = eI r ∧ F'' = F') := CP_I rfl (Nat.le_of_ble_eq_true rfl) (okX5_tellTo h)
theorem okX4_copy {N d : Nat} {l0 : Nat} {l1 : Nat} {F : FF} {res : Unit × FF} (h : fX4_copy N l0 l1 F = some res) : FV cX4_copy 2 RX4 (d + 1) none none 0 [.ref l0, .ref l1] [] F (RU res) := by
  unfold fX4_copy at h
  refine V_aload_n dX4_copy_0 rfl rfl rfl ?_
  refine V_aload_n dX4_copy_1 rfl rfl rfl ?_
  refine A_gI dX4_copy_2 fl_X4_22 rfl h fun v1 h => ?_
  refine A_pI dX4_copy_5 fl_X4_22 rfl rfl rfl h fun F1 h => ?_
  refine V_aload_n dX4_copy_8 rfl rfl rfl ?_
  refine V_aload_n dX4_copy_9 rfl rfl rfl ?_
  refine A_gI dX4_copy_10 fl_X4_26 rfl h fun v2 h => ?_
  refine A_pI dX4_copy_13 fl_X4_26 rfl rfl rfl h fun F2 h => ?_
  refine V_aload_n dX4_copy_16 rfl rfl rfl ?_
  refine A_gR dX4_copy_17 fl_X4_9 rfl h fun v3 h => ?_
  refine V_iconst dX4_copy_20 ci_0 rfl ?_
  refine V_aload_n dX4_copy_21 rfl rfl rfl ?_
  refine A_gR dX4_copy_22 fl_X4_9 rfl h fun v4 h => ?_
  refine V_iconst dX4_copy_25 ci_0 rfl ?_
  refine V_bipush dX4_copy_26 cb_6 rfl ?_
  refine A_cp (N := 6) dX4_copy_28 ac_X4 rfl (by decide) rfl h fun F3 h => ?_
  refine V_aload_n dX4_copy_31 rfl rfl rfl ?_
  refine A_gR dX4_copy_32 fl_X4_15 rfl h fun v5 h => ?_
  refine V_iconst dX4_copy_35 ci_0 rfl ?_
  refine V_aload_n dX4_copy_36 rfl rfl rfl ?_
  refine A_gR dX4_copy_37 fl_X4_15 rfl h fun v6 h => ?_
  refine V_iconst dX4_copy_40 ci_0 rfl ?_
  refine V_bipush dX4_copy_41 cb_6 rfl ?_
  refine A_cp (N := 6) dX4_copy_43 ac_X4 rfl (by decide) rfl h fun F4 h => ?_
  exact A_return dX4_copy_46 rfl h
theorem cp_X4_copy {N d : Nat} {l0 : Nat} {l1 : Nat} {F F' : FF} {r : Unit} (h : fX4_copy N l0 l1 F = some (r, F')) : CP (d + 1) mX4_copy [.ref l0, .ref l1] F (fun r' F'' => r' = eU r ∧ F'' = F') := CP_U rfl (Nat.le_of_ble_eq_true rfl) (okX4_copy h)
theorem okX0_copy_L34 {N d : Nat} {l0 : Nat} {l1 : Nat} {res : Unit × FF} : ∀ (n : Nat) (l2 : Int32) (F : FF), fX0_copy_L34 N l0 l1 n l2 F = some res → FV cX0_copy 3 RX0 (d + 2) none none 34 [.ref l0, .ref l1, .int l2] [] F (RU res) := by
  intro n
  induction n with
  | zero =>
    intro l2 F h
    rw [fX0_copy_L34.eq_1] at h
    cases h
  | succ n ih =>
    intro l2 F h
    rw [fX0_copy_L34.eq_2] at h
    refine V_iload_n dX0_copy_34 rfl rfl rfl ?_
    refine V_aload_n dX0_copy_35 rfl rfl rfl ?_
    refine A_gI dX0_copy_36 fl_X0_29 rfl h fun v1 h => ?_
    refine A_icmp_ge dX0_copy_39 rfl rfl h (fun h => ?_) (fun h => ?_)
    · refine V_aload_n dX0_copy_63 rfl rfl rfl ?_
      refine A_gR dX0_copy_64 fl_X0_17 rfl h fun v2 h => ?_
      refine V_iconst dX0_copy_67 ci_0 rfl ?_
      refine V_aload_n dX0_copy_68 rfl rfl rfl ?_
      refine A_gR dX0_copy_69 fl_X0_17 rfl h fun v3 h => ?_
      refine V_iconst dX0_copy_72 ci_0 rfl ?_
      refine V_bipush dX0_copy_73 cb_16 rfl ?_
      refine A_cp (N := 16) dX0_copy_75 ac_X0 rfl (by decide) rfl h fun F1 h => ?_
      exact A_return dX0_copy_78 rfl h
    · refine V_aload_n dX0_copy_42 rfl rfl rfl ?_
      refine A_gR dX0_copy_43 fl_X0_11 rfl h fun v4 h => ?_
      refine V_iload_n dX0_copy_46 rfl rfl rfl ?_
      refine A_ldR (t := 5) dX0_copy_47 rfl h fun v5 h => ?_
      refine V_aload_n dX0_copy_48 rfl rfl rfl ?_
      refine A_gR dX0_copy_49 fl_X0_11 rfl h fun v6 h => ?_
      refine V_iload_n dX0_copy_52 rfl rfl rfl ?_
      refine A_ldR (t := 5) dX0_copy_53 rfl h fun v7 h => ?_
      refine A_callV (ci := 4) eU dX0_copy_54 cl_X0_38 (by decide) rfl (As := [.ref v7]) (st := []) rfl rfl (Nat.le_of_ble_eq_true rfl) rfl h (fun _ _ h => cp_X4_copy (d := d) h) fun _ F2 h => ?_
      refine V_iinc dX0_copy_57 (v := l2 + 1) rfl (by rw [ci_1]) rfl (ls' := [.ref l0, .ref l1, .int (l2 + 1)]) rfl rfl ?_
      refine V_goto dX0_copy_60 rfl ?_
      exact ih (l2 + 1) F2 h
theorem okX0_copy {N d : Nat} {l0 : Nat} {l1 : Nat} {F : FF} {res : Unit × FF} (h : fX0_copy N l0 l1 F = some res) : FV cX0_copy 3 RX0 (d + 2) none none 0 [.ref l0, .ref l1, .null] [] F (RU res) := by
  unfold fX0_copy at h
  refine V_aload_n dX0_copy_0 rfl rfl rfl ?_
  refine V_aload_n dX0_copy_1 rfl rfl rfl ?_
  refine A_gI dX0_copy_2 fl_X0_25 rfl h fun v1 h => ?_
  refine A_pI dX0_copy_5 fl_X0_25 rfl rfl rfl h fun F1 h => ?_
  refine V_aload_n dX0_copy_8 rfl rfl rfl ?_
  refine V_aload_n dX0_copy_9 rfl rfl rfl ?_
  refine A_gI dX0_copy_10 fl_X0_29 rfl h fun v2 h => ?_
  refine A_pI dX0_copy_13 fl_X0_29 rfl rfl rfl h fun F2 h => ?_
  refine V_aload_n dX0_copy_16 rfl rfl rfl ?_
  refine V_aload_n dX0_copy_17 rfl rfl rfl ?_
  refine A_gI dX0_copy_18 fl_X0_32 rfl h fun v3 h => ?_
  refine A_pI dX0_copy_21 fl_X0_32 rfl rfl rfl h fun F3 h => ?_
  refine V_aload_n dX0_copy_24 rfl rfl rfl ?_
  refine V_aload_n dX0_copy_25 rfl rfl rfl ?_
  refine A_gI dX0_copy_26 fl_X0_35 rfl h fun v4 h => ?_
  refine A_pI dX0_copy_29 fl_X0_35 rfl rfl rfl h fun F4 h => ?_
  refine V_iconst dX0_copy_32 ci_0 rfl ?_
  refine V_istore_n dX0_copy_33 rfl (by decide) rfl (ls' := [.ref l0, .ref l1, .int 0]) rfl rfl ?_
  exact okX0_copy_L34 _ _ _ h
theorem cp_X0_copy {N d : Nat} {l0 : Nat} {l1 : Nat} {F F' : FF} {r : Unit} (h : fX0_copy N l0 l1 F = some (r, F')) : CP (d + 2) mX0_copy [.ref l0, .ref l1] F (fun r' F'' => r' = eU r ∧ F'' = F') := CP_U rfl (Nat.le_of_ble_eq_true rfl) (okX0_copy h)
theorem okX6_text_L62 {N d : Nat} {l1 : Int32} {res : Int32 × FF} : ∀ (n : Nat) (l2 : Int32) (F : FF), fX6_text_L62 N l1 n l2 F = some res → FV cX6_text 3 RX6 (d + 9) (some .int) none 62 [.ref 0, .int l1, .int l2] [] F (RI res) := by
  intro n
  induction n with
  | zero =>
    intro l2 F h
    rw [fX6_text_L62.eq_1] at h
    cases h
  | succ n ih =>
    intro l2 F h
    rw [fX6_text_L62.eq_2] at h
    refine V_iload_n dX6_text_62 rfl rfl rfl ?_
    refine V_iconst dX6_text_63 ci_2 rfl ?_
    refine A_icmp_ge dX6_text_64 rfl rfl h (fun h => ?_) (fun h => ?_)
    · refine V_iload_n dX6_text_80 rfl rfl rfl ?_
      exact A_ireturn dX6_text_81 rfl h
    · refine V_aload_n dX6_text_67 rfl rfl rfl ?_
      refine F_getR dX6_text_68 fl_X6_23 ly_0 rfl rfl ?_
      refine V_iload_n dX6_text_71 rfl rfl rfl ?_
      refine V_iconst dX6_text_72 ci_0 rfl ?_
      refine A_st2 dX6_text_73 rfl h fun F1 h => ?_
      refine V_iinc dX6_text_74 (v := l2 + 1) rfl (by rw [ci_1]) rfl (ls' := [.ref 0, .int l1, .int (l2 + 1)]) rfl rfl ?_
      refine V_goto dX6_text_77 rfl ?_
      exact ih (l2 + 1) F1 h
theorem okX6_text {N d : Nat} {F : FF} {res : Int32 × FF} (h : fX6_text N F = some res) : FV cX6_text 3 RX6 (d + 9) (some .int) none 0 [.ref 0, .null, .null] [] F (RI res) := by
  unfold fX6_text at h
  refine V_aload_n dX6_text_0 rfl rfl rfl ?_
  refine F_getR dX6_text_1 fl_X6_30 ly_0 rfl rfl ?_
  refine V_aload_n dX6_text_4 rfl rfl rfl ?_
  refine F_getR dX6_text_5 fl_X6_16 ly_0 rfl rfl ?_
  refine A_callC (ci := 5) eI dX6_text_8 cl_X6_80 (by decide) rfl rfl (As := [.ref 16]) (st := []) rfl rfl (Nat.le_of_ble_eq_true rfl) rfl h (fun _ _ h => cp_X5_tellTo (d := d) h) fun v1 F1 h => ?_
  refine V_istore_n dX6_text_11 rfl (by decide) rfl (ls' := [.ref 0, .int v1, .null]) rfl rfl ?_
  refine V_aload_n dX6_text_12 rfl rfl rfl ?_
  refine F_getR dX6_text_13 fl_X6_30 ly_0 rfl rfl ?_
  refine V_iconst dX6_text_16 ci_0 rfl ?_
  refine A_pn dX6_text_17 fl_X6_73 rfl (Or.inl rfl) ly_33 rfl rfl h fun F2 h => ?_
  refine V_aload_n dX6_text_20 rfl rfl rfl ?_
  refine F_getR dX6_text_21 fl_X6_30 ly_0 rfl rfl ?_
  refine F_getI dX6_text_24 fl_X6_84 ly_33 rfl rfl ?_
  refine A_if_eq dX6_text_27 rfl rfl h (fun h => ?_) (fun h => ?_)
  · refine V_aload_n dX6_text_41 rfl rfl rfl ?_
    refine F_getR dX6_text_42 fl_X6_10 ly_0 rfl rfl ?_
    refine V_aload_n dX6_text_45 rfl rfl rfl ?_
    refine F_getR dX6_text_46 fl_X6_16 ly_0 rfl rfl ?_
    refine A_callC (ci := 0) eU dX6_text_49 cl_X6_90 (by decide) rfl rfl (As := [.ref 16]) (st := []) rfl rfl (Nat.le_of_ble_eq_true rfl) rfl h (fun _ _ h => cp_X0_copy (d := d + 6) h) fun _ F3 h => ?_
    refine V_aload_n dX6_text_52 rfl rfl rfl ?_
    refine F_getR dX6_text_53 fl_X6_37 ly_0 rfl rfl ?_
    refine V_iconst dX6_text_56 ci_0 rfl ?_
    refine A_pn dX6_text_57 fl_X6_94 rfl (Or.inl rfl) ly_35 rfl rfl h fun F4 h => ?_
    refine V_iconst dX6_text_60 ci_0 rfl ?_
    refine V_istore_n dX6_text_61 rfl (by decide) rfl (ls' := [.ref 0, .int v1, .int 0]) rfl rfl ?_
    exact okX6_text_L62 _ _ _ h
  · refine V_bipush dX6_text_30 cb_m10 rfl ?_
    refine V_aload_n dX6_text_32 rfl rfl rfl ?_
    refine F_getR dX6_text_33 fl_X6_30 ly_0 rfl rfl ?_
    refine F_getI dX6_text_36 fl_X6_87 ly_33 rfl rfl ?_
    refine V_isub dX6_text_39 rfl ?_
    exact A_ireturn dX6_text_40 rfl h
theorem cp_X6_text {N d : Nat} {F F' : FF} {r : Int32} (h : fX6_text N F = some (r, F')) : CP (d + 9) mX6_text [.ref 0] F (fun r' F'' => r' = eI r ∧ F'' = F') := CP_I rfl (Nat.le_of_ble_eq_true rfl) (okX6_text h)
theorem okX6_fault {N d : Nat} {F : FF} {res : Int32 × FF} (h : fX6_fault N F = some res) : FV cX6_fault 1 RX6 (d) (some .int) none 0 [.ref 0] [] F (RI res) := by
  unfold fX6_fault at h
  refine V_aload_n dX6_fault_0 rfl rfl rfl ?_
  refine F_getR dX6_fault_1 fl_X6_30 ly_0 rfl rfl ?_
  refine F_getI dX6_fault_4 fl_X6_84 ly_33 rfl rfl ?_
  exact A_ireturn dX6_fault_7 rfl h
theorem cp_X6_fault {N d : Nat} {F F' : FF} {r : Int32} (h : fX6_fault N F = some (r, F')) : CP (d) mX6_fault [.ref 0] F (fun r' F'' => r' = eI r ∧ F'' = F') := CP_I rfl (Nat.le_of_ble_eq_true rfl) (okX6_fault h)
theorem pe_X6_fault {N : Nat} {F : FF} : fX6_fault N F = some (pX6_fault F, F) := by
  simp only [fX6_fault, pX6_fault]
  repeat (first | rfl | split)
theorem cq_X6_fault {d : Nat} {F : FF} : CP (d) mX6_fault [.ref 0] F (fun r' F'' => r' = eI (pX6_fault F) ∧ F'' = F) := cp_X6_fault (N := 0) (pe_X6_fault)
theorem okX0_turn {N d : Nat} {l0 : Nat} {l1 : Int32} {F : FF} {res : Int32 × FF} (h : fX0_turn N l0 l1 F = some res) : FV cX0_turn 2 RX0 (d) (some .int) none 0 [.ref l0, .int l1] [] F (RI res) := by
  unfold fX0_turn at h
  refine V_aload_n dX0_turn_0 rfl rfl rfl ?_
  refine A_gI dX0_turn_1 fl_X0_32 rfl h fun v1 h => ?_
  refine A_if_le dX0_turn_4 rfl rfl h (fun h => ?_) (fun h => ?_)
  · refine V_bipush dX0_turn_21 cb_m4 rfl ?_
    exact A_ireturn dX0_turn_23 rfl h
  · refine V_aload_n dX0_turn_7 rfl rfl rfl ?_
    refine A_gI dX0_turn_8 fl_X0_35 rfl h fun v2 h => ?_
    refine V_iload_n dX0_turn_11 rfl rfl rfl ?_
    refine V_iadd dX0_turn_12 rfl ?_
    refine V_aload_n dX0_turn_13 rfl rfl rfl ?_
    refine A_gI dX0_turn_14 fl_X0_32 rfl h fun v3 h => ?_
    refine A_dv h fun hy h => ?_
    refine U_irem dX0_turn_17 hy rfl ?_
    refine V_goto dX0_turn_18 rfl ?_
    exact A_ireturn dX0_turn_23 rfl h
theorem cp_X0_turn {N d : Nat} {l0 : Nat} {l1 : Int32} {F F' : FF} {r : Int32} (h : fX0_turn N l0 l1 F = some (r, F')) : CP (d) mX0_turn [.ref l0, .int l1] F (fun r' F'' => r' = eI r ∧ F'' = F') := CP_I rfl (Nat.le_of_ble_eq_true rfl) (okX0_turn h)
theorem okX1_reset {N d : Nat} {l1 : Int32} {F : FF} {res : Unit × FF} (h : fX1_reset N l1 F = some res) : FV cX1_reset 2 RX1 (d) none none 0 [.ref 40, .int l1] [] F (RU res) := by
  unfold fX1_reset at h
  refine V_aload_n dX1_reset_0 rfl rfl rfl ?_
  refine V_bipush dX1_reset_1 cb_m4 rfl ?_
  refine A_pn dX1_reset_3 fl_X1_9 rfl (Or.inl rfl) ly_40 rfl rfl h fun F1 h => ?_
  refine V_aload_n dX1_reset_6 rfl rfl rfl ?_
  refine V_iload_n dX1_reset_7 rfl rfl rfl ?_
  refine A_pn dX1_reset_8 fl_X1_15 rfl (Or.inl rfl) ly_40 rfl rfl h fun F2 h => ?_
  exact A_return dX1_reset_11 rfl h
theorem cp_X1_reset {N d : Nat} {l1 : Int32} {F F' : FF} {r : Unit} (h : fX1_reset N l1 F = some (r, F')) : CP (d) mX1_reset [.ref 40, .int l1] F (fun r' F'' => r' = eU r ∧ F'' = F') := CP_U rfl (Nat.le_of_ble_eq_true rfl) (okX1_reset h)
theorem okX1_offer {N d : Nat} {l1 : Int32} {l2 : Int32} {F : FF} {res : Unit × FF} (h : fX1_offer N l1 l2 F = some res) : FV cX1_offer 3 RX1 (d) none none 0 [.ref 40, .int l1, .int l2] [] F (RU res) := by
  unfold fX1_offer at h
  refine V_iload_n dX1_offer_0 rfl rfl rfl ?_
  refine V_aload_n dX1_offer_1 rfl rfl rfl ?_
  refine F_getI dX1_offer_2 fl_X1_15 ly_40 rfl rfl ?_
  refine A_icmp_ge dX1_offer_5 rfl rfl h (fun h => ?_) (fun h => ?_)
  · exact A_return dX1_offer_18 rfl h
  · refine V_aload_n dX1_offer_8 rfl rfl rfl ?_
    refine V_iload_n dX1_offer_9 rfl rfl rfl ?_
    refine A_pn dX1_offer_10 fl_X1_9 rfl (Or.inl rfl) ly_40 rfl rfl h fun F1 h => ?_
    refine V_aload_n dX1_offer_13 rfl rfl rfl ?_
    refine V_iload_n dX1_offer_14 rfl rfl rfl ?_
    refine A_pn dX1_offer_15 fl_X1_15 rfl (Or.inl rfl) ly_40 rfl rfl h fun F2 h => ?_
    exact A_return dX1_offer_18 rfl h
theorem cp_X1_offer {N d : Nat} {l1 : Int32} {l2 : Int32} {F F' : FF} {r : Unit} (h : fX1_offer N l1 l2 F = some (r, F')) : CP (d) mX1_offer [.ref 40, .int l1, .int l2] F (fun r' F'' => r' = eU r ∧ F'' = F') := CP_U rfl (Nat.le_of_ble_eq_true rfl) (okX1_offer h)
theorem okX6_leastCost_L11 {N d : Nat} {res : Int32 × FF} : ∀ (n : Nat) (l1 : Int32) (F : FF), fX6_leastCost_L11 N n l1 F = some res → FV cX6_leastCost 2 RX6 (d + 1) (some .int) none 11 [.ref 0, .int l1] [] F (RI res) := by
  intro n
  induction n with
  | zero =>
    intro l1 F h
    rw [fX6_leastCost_L11.eq_1] at h
    cases h
  | succ n ih =>
    intro l1 F h
    rw [fX6_leastCost_L11.eq_2] at h
    refine V_iload_n dX6_leastCost_11 rfl rfl rfl ?_
    refine V_aload_n dX6_leastCost_12 rfl rfl rfl ?_
    refine F_getR dX6_leastCost_13 fl_X6_10 ly_0 rfl rfl ?_
    refine F_getI dX6_leastCost_16 fl_X6_100 ly_1 rfl rfl ?_
    refine A_icmp_ge dX6_leastCost_19 rfl rfl h (fun h => ?_) (fun h => ?_)
    · refine V_aload_n dX6_leastCost_48 rfl rfl rfl ?_
      refine F_getR dX6_leastCost_49 fl_X6_50 ly_0 rfl rfl ?_
      refine F_getI dX6_leastCost_52 fl_X6_135 ly_40 rfl rfl ?_
      exact A_ireturn dX6_leastCost_55 rfl h
    · refine V_aload_n dX6_leastCost_22 rfl rfl rfl ?_
      refine F_getR dX6_leastCost_23 fl_X6_50 ly_0 rfl rfl ?_
      refine V_iload_n dX6_leastCost_26 rfl rfl rfl ?_
      refine V_aload_n dX6_leastCost_27 rfl rfl rfl ?_
      refine F_getR dX6_leastCost_28 fl_X6_10 ly_0 rfl rfl ?_
      refine F_getR dX6_leastCost_31 fl_X6_122 ly_1 rfl rfl ?_
      refine V_iload_n dX6_leastCost_34 rfl rfl rfl ?_
      refine A_ldR (t := 5) dX6_leastCost_35 rfl h fun v1 h => ?_
      refine A_gI dX6_leastCost_36 fl_X6_126 rfl h fun v2 h => ?_
      refine A_callC (ci := 1) eU dX6_leastCost_39 cl_X6_131 (by decide) rfl rfl (As := [.int l1, .int v2]) (st := []) rfl rfl (Nat.le_of_ble_eq_true rfl) rfl h (fun _ _ h => cp_X1_offer (d := d) h) fun _ F1 h => ?_
      refine V_iinc dX6_leastCost_42 (v := l1 + 1) rfl (by rw [ci_1]) rfl (ls' := [.ref 0, .int (l1 + 1)]) rfl rfl ?_
      refine V_goto dX6_leastCost_45 rfl ?_
      exact ih (l1 + 1) F1 h
theorem okX6_leastCost {N d : Nat} {F : FF} {res : Int32 × FF} (h : fX6_leastCost N F = some res) : FV cX6_leastCost 2 RX6 (d + 1) (some .int) none 0 [.ref 0, .null] [] F (RI res) := by
  unfold fX6_leastCost at h
  refine V_aload_n dX6_leastCost_0 rfl rfl rfl ?_
  refine F_getR dX6_leastCost_1 fl_X6_50 ly_0 rfl rfl ?_
  refine V_ldc dX6_leastCost_4 kc_X6_117 rfl ?_
  refine A_callC (ci := 1) eU dX6_leastCost_6 cl_X6_118 (by decide) rfl rfl (As := [.int 1000000000]) (st := []) rfl rfl (Nat.le_of_ble_eq_true rfl) rfl h (fun _ _ h => cp_X1_reset (d := d) h) fun _ F1 h => ?_
  refine V_iconst dX6_leastCost_9 ci_0 rfl ?_
  refine V_istore_n dX6_leastCost_10 rfl (by decide) rfl (ls' := [.ref 0, .int 0]) rfl rfl ?_
  exact okX6_leastCost_L11 _ _ _ h
theorem cp_X6_leastCost {N d : Nat} {F F' : FF} {r : Int32} (h : fX6_leastCost N F = some (r, F')) : CP (d + 1) mX6_leastCost [.ref 0] F (fun r' F'' => r' = eI r ∧ F'' = F') := CP_I rfl (Nat.le_of_ble_eq_true rfl) (okX6_leastCost h)
theorem okX6_rule {N d : Nat} {l1 : Int32} {F : FF} {res : Int32 × FF} (h : fX6_rule N l1 F = some res) : FV cX6_rule 2 RX6 (d + 2) (some .int) none 0 [.ref 0, .int l1] [] F (RI res) := by
  unfold fX6_rule at h
  refine V_iload_n dX6_rule_0 rfl rfl rfl ?_
  refine A_if h (fun c h => ?_) (fun c0 h => ?_)
  · rw [c]
    refine V_tableIn dX6_rule_1 (by decide) (by decide) rfl rfl ?_
    refine V_aload_n dX6_rule_40 rfl rfl rfl ?_
    refine F_getR dX6_rule_41 fl_X6_10 ly_0 rfl rfl ?_
    refine F_getI dX6_rule_44 fl_X6_97 ly_1 rfl rfl ?_
    exact A_ireturn dX6_rule_47 rfl h
  refine A_if h (fun c h => ?_) (fun c1 h => ?_)
  · rw [c]
    refine V_tableIn dX6_rule_1 (by decide) (by decide) rfl rfl ?_
    refine V_aload_n dX6_rule_48 rfl rfl rfl ?_
    refine F_getR dX6_rule_49 fl_X6_10 ly_0 rfl rfl ?_
    refine F_getI dX6_rule_52 fl_X6_100 ly_1 rfl rfl ?_
    exact A_ireturn dX6_rule_55 rfl h
  refine A_if h (fun c h => ?_) (fun c2 h => ?_)
  · rw [c]
    refine V_tableIn dX6_rule_1 (by decide) (by decide) rfl rfl ?_
    refine V_aload_n dX6_rule_56 rfl rfl rfl ?_
    refine F_getR dX6_rule_57 fl_X6_10 ly_0 rfl rfl ?_
    refine F_getI dX6_rule_60 fl_X6_103 ly_1 rfl rfl ?_
    exact A_ireturn dX6_rule_63 rfl h
  refine A_if h (fun c h => ?_) (fun c3 h => ?_)
  · rw [c]
    refine V_tableIn dX6_rule_1 (by decide) (by decide) rfl rfl ?_
    refine V_aload_n dX6_rule_64 rfl rfl rfl ?_
    refine F_getR dX6_rule_65 fl_X6_10 ly_0 rfl rfl ?_
    refine F_getI dX6_rule_68 fl_X6_106 ly_1 rfl rfl ?_
    exact A_ireturn dX6_rule_71 rfl h
  refine A_if h (fun c h => ?_) (fun c4 h => ?_)
  · rw [c]
    refine V_tableIn dX6_rule_1 (by decide) (by decide) rfl rfl ?_
    refine V_aload_n dX6_rule_72 rfl rfl rfl ?_
    refine F_getR dX6_rule_73 fl_X6_10 ly_0 rfl rfl ?_
    refine V_iconst dX6_rule_76 ci_0 rfl ?_
    refine A_callC (ci := 0) eI dX6_rule_77 cl_X6_109 (by decide) rfl rfl (As := [.int 0]) (st := []) rfl rfl (Nat.le_of_ble_eq_true rfl) rfl h (fun _ _ h => cp_X0_turn (d := d + 1) h) fun v1 F1 h => ?_
    exact A_ireturn dX6_rule_80 rfl h
  refine A_if h (fun c h => ?_) (fun c5 h => ?_)
  · rw [c]
    refine V_tableIn dX6_rule_1 (by decide) (by decide) rfl rfl ?_
    refine V_aload_n dX6_rule_81 rfl rfl rfl ?_
    refine A_callC (ci := 6) eI dX6_rule_82 cl_X6_113 (by decide) rfl rfl (As := []) (st := []) rfl rfl (Nat.le_of_ble_eq_true rfl) rfl h (fun _ _ h => cp_X6_leastCost (d := d) h) fun v2 F2 h => ?_
    exact A_ireturn dX6_rule_85 rfl h
  refine V_tableOut dX6_rule_1 (tb_out6 c0 c1 c2 c3 c4 c5) rfl ?_
  refine V_iconst dX6_rule_86 ci_m1 rfl ?_
  exact A_ireturn dX6_rule_87 rfl h
theorem cp_X6_rule {N d : Nat} {l1 : Int32} {F F' : FF} {r : Int32} (h : fX6_rule N l1 F = some (r, F')) : CP (d + 2) mX6_rule [.ref 0, .int l1] F (fun r' F'' => r' = eI r ∧ F'' = F') := CP_I rfl (Nat.le_of_ble_eq_true rfl) (okX6_rule h)
theorem okX0_hasShelf {N d : Nat} {l0 : Nat} {l1 : Int32} {F : FF} {res : Int32 × FF} (h : fX0_hasShelf N l0 l1 F = some res) : FV cX0_hasShelf 2 RX0 (d) (some .boolean) none 0 [.ref l0, .int l1] [] F (RI res) := by
  unfold fX0_hasShelf at h
  refine V_iload_n dX0_hasShelf_0 rfl rfl rfl ?_
  refine A_if_lt dX0_hasShelf_1 rfl rfl h (fun h => ?_) (fun h => ?_)
  · refine V_iconst dX0_hasShelf_16 ci_0 rfl ?_
    exact A_creturn dX0_hasShelf_17 rfl (by decide) h
  · refine V_iload_n dX0_hasShelf_4 rfl rfl rfl ?_
    refine V_aload_n dX0_hasShelf_5 rfl rfl rfl ?_
    refine A_gI dX0_hasShelf_6 fl_X0_29 rfl h fun v1 h => ?_
    refine V_midI (q := 17) ((if v1 ≤ l1 then 0 else 1 : Int32)) [] (fun yJ hy hJ => ?_) ?_
    · refine V_icmp_ge dX0_hasShelf_9 rfl rfl (fun c => ?_) (fun c => ?_)
      · rw [if_pos c] at hy
        refine V_iconst dX0_hasShelf_16 ci_0 rfl ?_
        rw [hy] at hJ
        exact hJ
      · rw [if_neg c] at hy
        refine V_iconst dX0_hasShelf_12 ci_1 rfl ?_
        refine V_goto dX0_hasShelf_13 rfl ?_
        rw [hy] at hJ
        exact hJ
    · exact A_creturn dX0_hasShelf_17 rfl (by repeat' (first | exact Or.inl rfl | exact Or.inr rfl | split)) h
theorem cp_X0_hasShelf {N d : Nat} {l0 : Nat} {l1 : Int32} {F F' : FF} {r : Int32} (h : fX0_hasShelf N l0 l1 F = some (r, F')) : CP (d) mX0_hasShelf [.ref l0, .int l1] F (fun r' F'' => r' = eI r ∧ F'' = F') := CP_I rfl (Nat.le_of_ble_eq_true rfl) (okX0_hasShelf h)
theorem pe_X0_hasShelf {N : Nat} {l0 : Nat} {l1 : Int32} {F : FF} (hok : okC 0 l0 = true) : fX0_hasShelf N l0 l1 F = some (pX0_hasShelf l0 l1 F, F) := by
  simp only [fX0_hasShelf, pX0_hasShelf, gI, okF_C hok (k := 0) rfl, okF_C hok (k := 1) rfl, okF_C hok (k := 2) rfl, okF_C hok (k := 3) rfl, if_true]
  repeat (first | rfl | split)
theorem cq_X0_hasShelf {d : Nat} {l0 : Nat} {l1 : Int32} {F : FF} (hok : okC 0 l0 = true) : CP (d) mX0_hasShelf [.ref l0, .int l1] F (fun r' F'' => r' = eI (pX0_hasShelf l0 l1 F) ∧ F'' = F) := cp_X0_hasShelf (N := 0) (pe_X0_hasShelf hok)
theorem okX6_shelf {N d : Nat} {l1 : Int32} {l2 : Int32} {F : FF} {res : Int32 × FF} (h : fX6_shelf N l1 l2 F = some res) : FV cX6_shelf 4 RX6 (d + 1) (some .int) none 0 [.ref 0, .int l1, .int l2, .null] [] F (RI res) := by
  unfold fX6_shelf at h
  refine V_aload_n dX6_shelf_0 rfl rfl rfl ?_
  refine F_getR dX6_shelf_1 fl_X6_10 ly_0 rfl rfl ?_
  refine V_iload_n dX6_shelf_4 rfl rfl rfl ?_
  refine P_callV (ci := 0) dX6_shelf_5 cl_X6_138 (by decide) rfl rfl (cq_X0_hasShelf (d := d) rfl) (As := [.int l1]) (st := []) rfl rfl (Nat.le_of_ble_eq_true rfl) rfl ?_
  refine A_if_ne dX6_shelf_8 rfl rfl h (fun h => ?_) (fun h => ?_)
  · refine V_aload_n dX6_shelf_13 rfl rfl rfl ?_
    refine F_getR dX6_shelf_14 fl_X6_10 ly_0 rfl rfl ?_
    refine F_getR dX6_shelf_17 fl_X6_122 ly_1 rfl rfl ?_
    refine V_iload_n dX6_shelf_20 rfl rfl rfl ?_
    refine A_ldR (t := 5) dX6_shelf_21 rfl h fun v1 h => ?_
    refine V_astore_n dX6_shelf_22 rfl (by decide) rfl (ls' := [.ref 0, .int l1, .int l2, .ref v1]) rfl rfl ?_
    refine V_iload_n dX6_shelf_23 rfl rfl rfl ?_
    refine A_if_ne dX6_shelf_24 rfl rfl h (fun h => ?_) (fun h => ?_)
    · refine V_iload_n dX6_shelf_32 rfl rfl rfl ?_
      refine V_iconst dX6_shelf_33 ci_1 rfl ?_
      refine A_icmp_ne dX6_shelf_34 rfl rfl h (fun h => ?_) (fun h => ?_)
      · refine V_iload_n dX6_shelf_42 rfl rfl rfl ?_
        refine V_bipush dX6_shelf_43 cb_10 rfl ?_
        refine V_bipush dX6_shelf_45 cb_10 rfl ?_
        refine V_aload_n dX6_shelf_47 rfl rfl rfl ?_
        refine F_getR dX6_shelf_48 fl_X6_10 ly_0 rfl rfl ?_
        refine F_getI dX6_shelf_51 fl_X6_97 ly_1 rfl rfl ?_
        refine V_iadd dX6_shelf_54 rfl ?_
        refine V_iconst dX6_shelf_55 ci_1 rfl ?_
        refine V_isub dX6_shelf_56 rfl ?_
        refine P_callS dX6_shelf_57 cl_X6_69 (cq_X6_within (d := d)) (As := [.int l2, .int 10, .int ((10 + (F 1 0)) - 1)]) (st := []) rfl rfl (Nat.le_of_ble_eq_true rfl) rfl ?_
        refine A_if_eq dX6_shelf_60 rfl rfl h (fun h => ?_) (fun h => ?_)
        · refine V_iload_n dX6_shelf_73 rfl rfl rfl ?_
          refine V_bipush dX6_shelf_74 cb_20 rfl ?_
          refine V_bipush dX6_shelf_76 cb_20 rfl ?_
          refine V_aload_n dX6_shelf_78 rfl rfl rfl ?_
          refine F_getR dX6_shelf_79 fl_X6_10 ly_0 rfl rfl ?_
          refine F_getI dX6_shelf_82 fl_X6_97 ly_1 rfl rfl ?_
          refine V_iadd dX6_shelf_85 rfl ?_
          refine V_iconst dX6_shelf_86 ci_1 rfl ?_
          refine V_isub dX6_shelf_87 rfl ?_
          refine P_callS dX6_shelf_88 cl_X6_69 (cq_X6_within (d := d)) (As := [.int l2, .int 20, .int ((20 + (F 1 0)) - 1)]) (st := []) rfl rfl (Nat.le_of_ble_eq_true rfl) rfl ?_
          refine A_if_eq dX6_shelf_91 rfl rfl h (fun h => ?_) (fun h => ?_)
          · refine V_iconst dX6_shelf_104 ci_m1 rfl ?_
            exact A_ireturn dX6_shelf_105 rfl h
          · refine V_aload_n dX6_shelf_94 rfl rfl rfl ?_
            refine A_gR dX6_shelf_95 fl_X6_148 rfl h fun v2 h => ?_
            refine V_iload_n dX6_shelf_98 rfl rfl rfl ?_
            refine V_bipush dX6_shelf_99 cb_20 rfl ?_
            refine V_isub dX6_shelf_101 rfl ?_
            refine A_ld0 dX6_shelf_102 rfl h fun v3 h => ?_
            exact A_ireturn dX6_shelf_103 rfl h
        · refine V_aload_n dX6_shelf_63 rfl rfl rfl ?_
          refine A_gR dX6_shelf_64 fl_X6_145 rfl h fun v4 h => ?_
          refine V_iload_n dX6_shelf_67 rfl rfl rfl ?_
          refine V_bipush dX6_shelf_68 cb_10 rfl ?_
          refine V_isub dX6_shelf_70 rfl ?_
          refine A_ld0 dX6_shelf_71 rfl h fun v5 h => ?_
          exact A_ireturn dX6_shelf_72 rfl h
      · refine V_aload_n dX6_shelf_37 rfl rfl rfl ?_
        refine A_gI dX6_shelf_38 fl_X6_126 rfl h fun v6 h => ?_
        exact A_ireturn dX6_shelf_41 rfl h
    · refine V_aload_n dX6_shelf_27 rfl rfl rfl ?_
      refine A_gI dX6_shelf_28 fl_X6_142 rfl h fun v7 h => ?_
      exact A_ireturn dX6_shelf_31 rfl h
  · refine V_iconst dX6_shelf_11 ci_m1 rfl ?_
    exact A_ireturn dX6_shelf_12 rfl h
theorem cp_X6_shelf {N d : Nat} {l1 : Int32} {l2 : Int32} {F F' : FF} {r : Int32} (h : fX6_shelf N l1 l2 F = some (r, F')) : CP (d + 1) mX6_shelf [.ref 0, .int l1, .int l2] F (fun r' F'' => r' = eI r ∧ F'' = F') := CP_I rfl (Nat.le_of_ble_eq_true rfl) (okX6_shelf h)
theorem okX4_find_L2 {N d : Nat} {l0 : Nat} {l1 : Int32} {res : Int32 × FF} : ∀ (n : Nat) (l2 : Int32) (F : FF), fX4_find_L2 N l0 l1 n l2 F = some res → FV cX4_find 3 RX4 (d) (some .int) none 2 [.ref l0, .int l1, .int l2] [] F (RI res) := by
  intro n
  induction n with
  | zero =>
    intro l2 F h
    rw [fX4_find_L2.eq_1] at h
    cases h
  | succ n ih =>
    intro l2 F h
    rw [fX4_find_L2.eq_2] at h
    refine V_iload_n dX4_find_2 rfl rfl rfl ?_
    refine V_iconst dX4_find_3 ci_5 rfl ?_
    refine A_icmp_ge dX4_find_4 rfl rfl h (fun h => ?_) (fun h => ?_)
    · refine V_iload_n dX4_find_23 rfl rfl rfl ?_
      exact A_ireturn dX4_find_24 rfl h
    · refine V_aload_n dX4_find_7 rfl rfl rfl ?_
      refine A_gR dX4_find_8 fl_X4_9 rfl h fun v1 h => ?_
      refine V_iload_n dX4_find_11 rfl rfl rfl ?_
      refine A_ld0 dX4_find_12 rfl h fun v2 h => ?_
      refine V_iload_n dX4_find_13 rfl rfl rfl ?_
      refine A_icmp_eq dX4_find_14 rfl rfl h (fun h => ?_) (fun h => ?_)
      · refine V_iload_n dX4_find_23 rfl rfl rfl ?_
        exact A_ireturn dX4_find_24 rfl h
      · refine V_iinc dX4_find_17 (v := l2 + 1) rfl (by rw [ci_1]) rfl (ls' := [.ref l0, .int l1, .int (l2 + 1)]) rfl rfl ?_
        refine V_goto dX4_find_20 rfl ?_
        exact ih (l2 + 1) F h
theorem okX4_find {N d : Nat} {l0 : Nat} {l1 : Int32} {F : FF} {res : Int32 × FF} (h : fX4_find N l0 l1 F = some res) : FV cX4_find 3 RX4 (d) (some .int) none 0 [.ref l0, .int l1, .null] [] F (RI res) := by
  unfold fX4_find at h
  refine V_iconst dX4_find_0 ci_0 rfl ?_
  refine V_istore_n dX4_find_1 rfl (by decide) rfl (ls' := [.ref l0, .int l1, .int 0]) rfl rfl ?_
  exact okX4_find_L2 _ _ _ h
theorem cp_X4_find {N d : Nat} {l0 : Nat} {l1 : Int32} {F F' : FF} {r : Int32} (h : fX4_find N l0 l1 F = some (r, F')) : CP (d) mX4_find [.ref l0, .int l1] F (fun r' F'' => r' = eI r ∧ F'' = F') := CP_I rfl (Nat.le_of_ble_eq_true rfl) (okX4_find h)
theorem okX6_place {N d : Nat} {l1 : Int32} {l2 : Int32} {F : FF} {res : Int32 × FF} (h : fX6_place N l1 l2 F = some res) : FV cX6_place 3 RX6 (d + 1) (some .int) none 0 [.ref 0, .int l1, .int l2] [] F (RI res) := by
  unfold fX6_place at h
  refine V_aload_n dX6_place_0 rfl rfl rfl ?_
  refine F_getR dX6_place_1 fl_X6_10 ly_0 rfl rfl ?_
  refine V_iload_n dX6_place_4 rfl rfl rfl ?_
  refine P_callV (ci := 0) dX6_place_5 cl_X6_138 (by decide) rfl rfl (cq_X0_hasShelf (d := d) rfl) (As := [.int l1]) (st := []) rfl rfl (Nat.le_of_ble_eq_true rfl) rfl ?_
  refine A_if_eq dX6_place_8 rfl rfl h (fun h => ?_) (fun h => ?_)
  · refine V_iconst dX6_place_38 ci_m1 rfl ?_
    exact A_ireturn dX6_place_39 rfl h
  · refine V_aload_n dX6_place_11 rfl rfl rfl ?_
    refine F_getR dX6_place_12 fl_X6_10 ly_0 rfl rfl ?_
    refine V_iload_n dX6_place_15 rfl rfl rfl ?_
    refine P_callV (ci := 0) dX6_place_16 cl_X6_151 (by decide) rfl rfl (cq_X0_hasBook (d := d) rfl) (As := [.int l2]) (st := []) rfl rfl (Nat.le_of_ble_eq_true rfl) rfl ?_
    refine A_if_eq dX6_place_19 rfl rfl h (fun h => ?_) (fun h => ?_)
    · refine V_iconst dX6_place_38 ci_m1 rfl ?_
      exact A_ireturn dX6_place_39 rfl h
    · refine V_aload_n dX6_place_22 rfl rfl rfl ?_
      refine F_getR dX6_place_23 fl_X6_10 ly_0 rfl rfl ?_
      refine F_getR dX6_place_26 fl_X6_122 ly_1 rfl rfl ?_
      refine V_iload_n dX6_place_29 rfl rfl rfl ?_
      refine A_ldR (t := 5) dX6_place_30 rfl h fun v1 h => ?_
      refine V_iload_n dX6_place_31 rfl rfl rfl ?_
      refine A_callV (ci := 4) eI dX6_place_32 cl_X6_154 (by decide) rfl (As := [.int l2]) (st := []) rfl rfl (Nat.le_of_ble_eq_true rfl) rfl h (fun _ _ h => cp_X4_find (d := d) h) fun v2 F1 h => ?_
      refine V_goto dX6_place_35 rfl ?_
      exact A_ireturn dX6_place_39 rfl h
theorem cp_X6_place {N d : Nat} {l1 : Int32} {l2 : Int32} {F F' : FF} {r : Int32} (h : fX6_place N l1 l2 F = some (r, F')) : CP (d + 1) mX6_place [.ref 0, .int l1, .int l2] F (fun r' F'' => r' = eI r ∧ F'' = F') := CP_I rfl (Nat.le_of_ble_eq_true rfl) (okX6_place h)
theorem okX0_hasWant {N d : Nat} {l0 : Nat} {l1 : Int32} {F : FF} {res : Int32 × FF} (h : fX0_hasWant N l0 l1 F = some res) : FV cX0_hasWant 2 RX0 (d) (some .boolean) none 0 [.ref l0, .int l1] [] F (RI res) := by
  unfold fX0_hasWant at h
  refine V_iload_n dX0_hasWant_0 rfl rfl rfl ?_
  refine A_if_lt dX0_hasWant_1 rfl rfl h (fun h => ?_) (fun h => ?_)
  · refine V_iconst dX0_hasWant_16 ci_0 rfl ?_
    exact A_creturn dX0_hasWant_17 rfl (by decide) h
  · refine V_iload_n dX0_hasWant_4 rfl rfl rfl ?_
    refine V_aload_n dX0_hasWant_5 rfl rfl rfl ?_
    refine A_gI dX0_hasWant_6 fl_X0_32 rfl h fun v1 h => ?_
    refine V_midI (q := 17) ((if v1 ≤ l1 then 0 else 1 : Int32)) [] (fun yJ hy hJ => ?_) ?_
    · refine V_icmp_ge dX0_hasWant_9 rfl rfl (fun c => ?_) (fun c => ?_)
      · rw [if_pos c] at hy
        refine V_iconst dX0_hasWant_16 ci_0 rfl ?_
        rw [hy] at hJ
        exact hJ
      · rw [if_neg c] at hy
        refine V_iconst dX0_hasWant_12 ci_1 rfl ?_
        refine V_goto dX0_hasWant_13 rfl ?_
        rw [hy] at hJ
        exact hJ
    · exact A_creturn dX0_hasWant_17 rfl (by repeat' (first | exact Or.inl rfl | exact Or.inr rfl | split)) h
theorem cp_X0_hasWant {N d : Nat} {l0 : Nat} {l1 : Int32} {F F' : FF} {r : Int32} (h : fX0_hasWant N l0 l1 F = some (r, F')) : CP (d) mX0_hasWant [.ref l0, .int l1] F (fun r' F'' => r' = eI r ∧ F'' = F') := CP_I rfl (Nat.le_of_ble_eq_true rfl) (okX0_hasWant h)
theorem pe_X0_hasWant {N : Nat} {l0 : Nat} {l1 : Int32} {F : FF} (hok : okC 0 l0 = true) : fX0_hasWant N l0 l1 F = some (pX0_hasWant l0 l1 F, F) := by
  simp only [fX0_hasWant, pX0_hasWant, gI, okF_C hok (k := 0) rfl, okF_C hok (k := 1) rfl, okF_C hok (k := 2) rfl, okF_C hok (k := 3) rfl, if_true]
  repeat (first | rfl | split)
theorem cq_X0_hasWant {d : Nat} {l0 : Nat} {l1 : Int32} {F : FF} (hok : okC 0 l0 = true) : CP (d) mX0_hasWant [.ref l0, .int l1] F (fun r' F'' => r' = eI (pX0_hasWant l0 l1 F) ∧ F'' = F) := cp_X0_hasWant (N := 0) (pe_X0_hasWant hok)
theorem okX6_want {N d : Nat} {l1 : Int32} {F : FF} {res : Int32 × FF} (h : fX6_want N l1 F = some res) : FV cX6_want 2 RX6 (d + 1) (some .int) none 0 [.ref 0, .int l1] [] F (RI res) := by
  unfold fX6_want at h
  refine V_aload_n dX6_want_0 rfl rfl rfl ?_
  refine F_getR dX6_want_1 fl_X6_10 ly_0 rfl rfl ?_
  refine V_iload_n dX6_want_4 rfl rfl rfl ?_
  refine P_callV (ci := 0) dX6_want_5 cl_X6_157 (by decide) rfl rfl (cq_X0_hasWant (d := d) rfl) (As := [.int l1]) (st := []) rfl rfl (Nat.le_of_ble_eq_true rfl) rfl ?_
  refine A_if_eq dX6_want_8 rfl rfl h (fun h => ?_) (fun h => ?_)
  · refine V_iconst dX6_want_23 ci_m1 rfl ?_
    exact A_ireturn dX6_want_24 rfl h
  · refine V_aload_n dX6_want_11 rfl rfl rfl ?_
    refine F_getR dX6_want_12 fl_X6_10 ly_0 rfl rfl ?_
    refine F_getR dX6_want_15 fl_X6_160 ly_1 rfl rfl ?_
    refine V_iload_n dX6_want_18 rfl rfl rfl ?_
    refine A_ld0 dX6_want_19 rfl h fun v1 h => ?_
    refine V_goto dX6_want_20 rfl ?_
    exact A_ireturn dX6_want_24 rfl h
theorem cp_X6_want {N d : Nat} {l1 : Int32} {F F' : FF} {r : Int32} (h : fX6_want N l1 F = some (r, F')) : CP (d + 1) mX6_want [.ref 0, .int l1] F (fun r' F'' => r' = eI r ∧ F'' = F') := CP_I rfl (Nat.le_of_ble_eq_true rfl) (okX6_want h)
theorem okX6_alter {N d : Nat} {l1 : Int32} {l2 : Int32} {F : FF} {res : Int32 × FF} (h : fX6_alter N l1 l2 F = some res) : FV cX6_alter 4 RX6 (d + 1) (some .int) none 0 [.ref 0, .int l1, .int l2, .null] [] F (RI res) := by
  unfold fX6_alter at h
  refine V_aload_n dX6_alter_0 rfl rfl rfl ?_
  refine F_getR dX6_alter_1 fl_X6_10 ly_0 rfl rfl ?_
  refine V_iload_n dX6_alter_4 rfl rfl rfl ?_
  refine P_callV (ci := 0) dX6_alter_5 cl_X6_138 (by decide) rfl rfl (cq_X0_hasShelf (d := d) rfl) (As := [.int l1]) (st := []) rfl rfl (Nat.le_of_ble_eq_true rfl) rfl ?_
  refine A_if_eq dX6_alter_8 rfl rfl h (fun h => ?_) (fun h => ?_)
  · refine V_iconst dX6_alter_20 ci_m1 rfl ?_
    exact A_ireturn dX6_alter_21 rfl h
  · refine V_iload_n dX6_alter_11 rfl rfl rfl ?_
    refine V_iconst dX6_alter_12 ci_0 rfl ?_
    refine V_iconst dX6_alter_13 ci_3 rfl ?_
    refine P_callS dX6_alter_14 cl_X6_69 (cq_X6_within (d := d)) (As := [.int l2, .int 0, .int 3]) (st := []) rfl rfl (Nat.le_of_ble_eq_true rfl) rfl ?_
    refine A_if_ne dX6_alter_17 rfl rfl h (fun h => ?_) (fun h => ?_)
    · refine V_aload_n dX6_alter_22 rfl rfl rfl ?_
      refine F_getR dX6_alter_23 fl_X6_10 ly_0 rfl rfl ?_
      refine F_getR dX6_alter_26 fl_X6_122 ly_1 rfl rfl ?_
      refine V_iload_n dX6_alter_29 rfl rfl rfl ?_
      refine A_ldR (t := 5) dX6_alter_30 rfl h fun v1 h => ?_
      refine A_gI dX6_alter_31 fl_X6_142 rfl h fun v2 h => ?_
      refine V_istore_n dX6_alter_34 rfl (by decide) rfl (ls' := [.ref 0, .int l1, .int l2, .int v2]) rfl rfl ?_
      refine V_aload_n dX6_alter_35 rfl rfl rfl ?_
      refine F_getR dX6_alter_36 fl_X6_10 ly_0 rfl rfl ?_
      refine F_getR dX6_alter_39 fl_X6_122 ly_1 rfl rfl ?_
      refine V_iload_n dX6_alter_42 rfl rfl rfl ?_
      refine A_ldR (t := 5) dX6_alter_43 rfl h fun v3 h => ?_
      refine V_iload_n dX6_alter_44 rfl rfl rfl ?_
      refine A_pI dX6_alter_45 fl_X6_142 rfl rfl rfl h fun F1 h => ?_
      refine V_iload_n dX6_alter_48 rfl rfl rfl ?_
      exact A_ireturn dX6_alter_49 rfl h
    · refine V_iconst dX6_alter_20 ci_m1 rfl ?_
      exact A_ireturn dX6_alter_21 rfl h
theorem cp_X6_alter {N d : Nat} {l1 : Int32} {l2 : Int32} {F F' : FF} {r : Int32} (h : fX6_alter N l1 l2 F = some (r, F')) : CP (d + 1) mX6_alter [.ref 0, .int l1, .int l2] F (fun r' F'' => r' = eI r ∧ F'' = F') := CP_I rfl (Nat.le_of_ble_eq_true rfl) (okX6_alter h)
theorem okX6_put {N d : Nat} {l1 : Int32} {F : FF} {res : Int32 × FF} (h : fX6_put N l1 F = some res) : FV cX6_put 2 RX6 (d + 2) (some .int) none 0 [.ref 0, .int l1] [] F (RI res) := by
  unfold fX6_put at h
  refine V_iload_n dX6_put_0 rfl rfl rfl ?_
  refine V_iconst dX6_put_1 ci_0 rfl ?_
  refine V_iconst dX6_put_2 ci_3 rfl ?_
  refine P_callS dX6_put_3 cl_X6_69 (cq_X6_within (d := d + 1)) (As := [.int l1, .int 0, .int 3]) (st := []) rfl rfl (Nat.le_of_ble_eq_true rfl) rfl ?_
  refine A_if_ne dX6_put_6 rfl rfl h (fun h => ?_) (fun h => ?_)
  · refine V_aload_n dX6_put_11 rfl rfl rfl ?_
    refine F_getR dX6_put_12 fl_X6_10 ly_0 rfl rfl ?_
    refine V_iload_n dX6_put_15 rfl rfl rfl ?_
    refine A_callC (ci := 0) eI dX6_put_16 cl_X6_163 (by decide) rfl rfl (As := [.int l1]) (st := []) rfl rfl (Nat.le_of_ble_eq_true rfl) rfl h (fun _ _ h => cp_X0_addShelf (d := d) h) fun v1 F1 h => ?_
    refine V_midI (q := 34) ((if v1 = 0 then ((-3)) else (F1 1 1) : Int32)) [] (fun yJ hy hJ => ?_) ?_
    · refine V_if_eq dX6_put_19 rfl rfl (fun c => ?_) (fun c => ?_)
      · rw [if_pos c] at hy
        refine V_bipush dX6_put_32 cb_m3 rfl ?_
        rw [hy] at hJ
        exact hJ
      · rw [if_neg c] at hy
        refine V_aload_n dX6_put_22 rfl rfl rfl ?_
        refine F_getR dX6_put_23 fl_X6_10 ly_0 rfl rfl ?_
        refine F_getI dX6_put_26 fl_X6_100 ly_1 rfl rfl ?_
        refine V_goto dX6_put_29 rfl ?_
        rw [hy] at hJ
        exact hJ
    · exact A_ireturn dX6_put_34 rfl h
  · refine V_iconst dX6_put_9 ci_m1 rfl ?_
    exact A_ireturn dX6_put_10 rfl h
theorem cp_X6_put {N d : Nat} {l1 : Int32} {F F' : FF} {r : Int32} (h : fX6_put N l1 F = some (r, F')) : CP (d + 2) mX6_put [.ref 0, .int l1] F (fun r' F'' => r' = eI r ∧ F'' = F') := CP_I rfl (Nat.le_of_ble_eq_true rfl) (okX6_put h)
theorem okX6_cut {N d : Nat} {l1 : Int32} {F : FF} {res : Int32 × FF} (h : fX6_cut N l1 F = some res) : FV cX6_cut 3 RX6 (d + 1) (some .int) none 0 [.ref 0, .int l1, .null] [] F (RI res) := by
  unfold fX6_cut at h
  refine V_iload_n dX6_cut_0 rfl rfl rfl ?_
  refine V_iconst dX6_cut_1 ci_0 rfl ?_
  refine V_aload_n dX6_cut_2 rfl rfl rfl ?_
  refine F_getR dX6_cut_3 fl_X6_10 ly_0 rfl rfl ?_
  refine F_getI dX6_cut_6 fl_X6_100 ly_1 rfl rfl ?_
  refine P_callS dX6_cut_9 cl_X6_69 (cq_X6_within (d := d)) (As := [.int l1, .int 0, .int (F 1 1)]) (st := []) rfl rfl (Nat.le_of_ble_eq_true rfl) rfl ?_
  refine A_if_ne dX6_cut_12 rfl rfl h (fun h => ?_) (fun h => ?_)
  · refine V_aload_n dX6_cut_17 rfl rfl rfl ?_
    refine F_getR dX6_cut_18 fl_X6_10 ly_0 rfl rfl ?_
    refine F_getI dX6_cut_21 fl_X6_100 ly_1 rfl rfl ?_
    refine V_istore_n dX6_cut_24 rfl (by decide) rfl (ls' := [.ref 0, .int l1, .int (F 1 1)]) rfl rfl ?_
    refine V_aload_n dX6_cut_25 rfl rfl rfl ?_
    refine F_getR dX6_cut_26 fl_X6_10 ly_0 rfl rfl ?_
    refine V_iload_n dX6_cut_29 rfl rfl rfl ?_
    refine A_pn dX6_cut_30 fl_X6_100 rfl (Or.inl rfl) ly_1 rfl rfl h fun F1 h => ?_
    refine V_iload_n dX6_cut_33 rfl rfl rfl ?_
    exact A_ireturn dX6_cut_34 rfl h
  · refine V_iconst dX6_cut_15 ci_m1 rfl ?_
    exact A_ireturn dX6_cut_16 rfl h
theorem cp_X6_cut {N d : Nat} {l1 : Int32} {F F' : FF} {r : Int32} (h : fX6_cut N l1 F = some (r, F')) : CP (d + 1) mX6_cut [.ref 0, .int l1] F (fun r' F'' => r' = eI r ∧ F'' = F') := CP_I rfl (Nat.le_of_ble_eq_true rfl) (okX6_cut h)
theorem okX4_shift_L41 {N d : Nat} {l0 : Nat} {l2 : Int32} {l3 : Int32} {res : Unit × FF} : ∀ (n : Nat) (l4 : Int32) (F : FF), fX4_shift_L41 N l0 l2 l3 n l4 F = some res → FV cX4_shift 5 RX4 (d) none none 41 [.ref l0, .null, .int l2, .int l3, .int l4] [] F (RU res) := by
  intro n
  induction n with
  | zero =>
    intro l4 F h
    rw [fX4_shift_L41.eq_1] at h
    cases h
  | succ n ih =>
    intro l4 F h
    rw [fX4_shift_L41.eq_2] at h
    refine V_iload dX4_shift_41 rfl rfl ?_
    refine V_iload_n dX4_shift_43 rfl rfl rfl ?_
    refine A_icmp_ge dX4_shift_44 rfl rfl h (fun h => ?_) (fun h => ?_)
    · refine V_aload_n dX4_shift_69 rfl rfl rfl ?_
      refine A_gR dX4_shift_70 fl_X4_9 rfl h fun v1 h => ?_
      refine V_iload_n dX4_shift_73 rfl rfl rfl ?_
      refine V_iload_n dX4_shift_74 rfl rfl rfl ?_
      refine A_st0 dX4_shift_75 rfl h fun F1 h => ?_
      exact A_return dX4_shift_76 rfl h
    · refine V_aload_n dX4_shift_47 rfl rfl rfl ?_
      refine A_gR dX4_shift_48 fl_X4_9 rfl h fun v2 h => ?_
      refine V_iload dX4_shift_51 rfl rfl ?_
      refine V_aload_n dX4_shift_53 rfl rfl rfl ?_
      refine A_gR dX4_shift_54 fl_X4_9 rfl h fun v3 h => ?_
      refine V_iload dX4_shift_57 rfl rfl ?_
      refine V_iconst dX4_shift_59 ci_1 rfl ?_
      refine V_iadd dX4_shift_60 rfl ?_
      refine A_ld0 dX4_shift_61 rfl h fun v4 h => ?_
      refine A_st0 dX4_shift_62 rfl h fun F2 h => ?_
      refine V_iinc dX4_shift_63 (v := l4 + 1) rfl (by rw [ci_1]) rfl (ls' := [.ref l0, .null, .int l2, .int l3, .int (l4 + 1)]) rfl rfl ?_
      refine V_goto dX4_shift_66 rfl ?_
      exact ih (l4 + 1) F2 h
theorem okX4_shift_L10 {N d : Nat} {l0 : Nat} {l1 : Int32} {l2 : Int32} {l3 : Int32} {res : Unit × FF} : ∀ (n : Nat) (l4 : Int32) (F : FF), fX4_shift_L10 N l0 l1 l2 l3 n l4 F = some res → FV cX4_shift 5 RX4 (d) none none 10 [.ref l0, .int l1, .int l2, .int l3, .int l4] [] F (RU res) := by
  intro n
  induction n with
  | zero =>
    intro l4 F h
    rw [fX4_shift_L10.eq_1] at h
    cases h
  | succ n ih =>
    intro l4 F h
    rw [fX4_shift_L10.eq_2] at h
    refine V_iload dX4_shift_10 rfl rfl ?_
    refine V_iload_n dX4_shift_12 rfl rfl rfl ?_
    refine A_icmp_le dX4_shift_13 rfl rfl h (fun h => ?_) (fun h => ?_)
    · refine V_iload_n dX4_shift_38 rfl rfl rfl ?_
      refine V_istore dX4_shift_39 (by decide) rfl (ls' := [.ref l0, .int l1, .int l2, .int l3, .int l1]) rfl rfl ?_
      refine V_weak [true, false, true, true, true] rfl ?_
      exact okX4_shift_L41 _ _ _ h
    · refine V_aload_n dX4_shift_16 rfl rfl rfl ?_
      refine A_gR dX4_shift_17 fl_X4_9 rfl h fun v1 h => ?_
      refine V_iload dX4_shift_20 rfl rfl ?_
      refine V_aload_n dX4_shift_22 rfl rfl rfl ?_
      refine A_gR dX4_shift_23 fl_X4_9 rfl h fun v2 h => ?_
      refine V_iload dX4_shift_26 rfl rfl ?_
      refine V_iconst dX4_shift_28 ci_1 rfl ?_
      refine V_isub dX4_shift_29 rfl ?_
      refine A_ld0 dX4_shift_30 rfl h fun v3 h => ?_
      refine A_st0 dX4_shift_31 rfl h fun F1 h => ?_
      refine V_iinc dX4_shift_32 (v := l4 + ((-1))) rfl (by rw [ci_m1]) rfl (ls' := [.ref l0, .int l1, .int l2, .int l3, .int (l4 + ((-1)))]) rfl rfl ?_
      refine V_goto dX4_shift_35 rfl ?_
      exact ih (l4 + ((-1))) F1 h
theorem okX4_shift {N d : Nat} {l0 : Nat} {l1 : Int32} {l2 : Int32} {F : FF} {res : Unit × FF} (h : fX4_shift N l0 l1 l2 F = some res) : FV cX4_shift 5 RX4 (d) none none 0 [.ref l0, .int l1, .int l2, .null, .null] [] F (RU res) := by
  unfold fX4_shift at h
  refine V_aload_n dX4_shift_0 rfl rfl rfl ?_
  refine A_gR dX4_shift_1 fl_X4_9 rfl h fun v1 h => ?_
  refine V_iload_n dX4_shift_4 rfl rfl rfl ?_
  refine A_ld0 dX4_shift_5 rfl h fun v2 h => ?_
  refine V_istore_n dX4_shift_6 rfl (by decide) rfl (ls' := [.ref l0, .int l1, .int l2, .int v2, .null]) rfl rfl ?_
  refine V_iload_n dX4_shift_7 rfl rfl rfl ?_
  refine V_istore dX4_shift_8 (by decide) rfl (ls' := [.ref l0, .int l1, .int l2, .int v2, .int l1]) rfl rfl ?_
  exact okX4_shift_L10 _ _ _ h
theorem cp_X4_shift {N d : Nat} {l0 : Nat} {l1 : Int32} {l2 : Int32} {F F' : FF} {r : Unit} (h : fX4_shift N l0 l1 l2 F = some (r, F')) : CP (d) mX4_shift [.ref l0, .int l1, .int l2] F (fun r' F'' => r' = eU r ∧ F'' = F') := CP_U rfl (Nat.le_of_ble_eq_true rfl) (okX4_shift h)
theorem okX6_stand {N d : Nat} {l1 : Int32} {l2 : Int32} {l3 : Int32} {F : FF} {res : Int32 × FF} (h : fX6_stand N l1 l2 l3 F = some res) : FV cX6_stand 5 RX6 (d + 1) (some .int) none 0 [.ref 0, .int l1, .int l2, .int l3, .null] [] F (RI res) := by
  unfold fX6_stand at h
  refine V_aload_n dX6_stand_0 rfl rfl rfl ?_
  refine F_getR dX6_stand_1 fl_X6_10 ly_0 rfl rfl ?_
  refine V_iload_n dX6_stand_4 rfl rfl rfl ?_
  refine P_callV (ci := 0) dX6_stand_5 cl_X6_138 (by decide) rfl rfl (cq_X0_hasShelf (d := d) rfl) (As := [.int l1]) (st := []) rfl rfl (Nat.le_of_ble_eq_true rfl) rfl ?_
  refine A_if_eq dX6_stand_8 rfl rfl h (fun h => ?_) (fun h => ?_)
  · refine V_iconst dX6_stand_33 ci_m1 rfl ?_
    exact A_ireturn dX6_stand_34 rfl h
  · refine V_aload_n dX6_stand_11 rfl rfl rfl ?_
    refine F_getR dX6_stand_12 fl_X6_10 ly_0 rfl rfl ?_
    refine V_iload_n dX6_stand_15 rfl rfl rfl ?_
    refine P_callV (ci := 0) dX6_stand_16 cl_X6_151 (by decide) rfl rfl (cq_X0_hasBook (d := d) rfl) (As := [.int l2]) (st := []) rfl rfl (Nat.le_of_ble_eq_true rfl) rfl ?_
    refine A_if_eq dX6_stand_19 rfl rfl h (fun h => ?_) (fun h => ?_)
    · refine V_iconst dX6_stand_33 ci_m1 rfl ?_
      exact A_ireturn dX6_stand_34 rfl h
    · refine V_aload_n dX6_stand_22 rfl rfl rfl ?_
      refine F_getR dX6_stand_23 fl_X6_10 ly_0 rfl rfl ?_
      refine V_iload_n dX6_stand_26 rfl rfl rfl ?_
      refine P_callV (ci := 0) dX6_stand_27 cl_X6_151 (by decide) rfl rfl (cq_X0_hasBook (d := d) rfl) (As := [.int l3]) (st := []) rfl rfl (Nat.le_of_ble_eq_true rfl) rfl ?_
      refine A_if_ne dX6_stand_30 rfl rfl h (fun h => ?_) (fun h => ?_)
      · refine V_aload_n dX6_stand_35 rfl rfl rfl ?_
        refine F_getR dX6_stand_36 fl_X6_10 ly_0 rfl rfl ?_
        refine F_getR dX6_stand_39 fl_X6_122 ly_1 rfl rfl ?_
        refine V_iload_n dX6_stand_42 rfl rfl rfl ?_
        refine A_ldR (t := 5) dX6_stand_43 rfl h fun v1 h => ?_
        refine V_iload_n dX6_stand_44 rfl rfl rfl ?_
        refine A_callV (ci := 4) eI dX6_stand_45 cl_X6_154 (by decide) rfl (As := [.int l2]) (st := []) rfl rfl (Nat.le_of_ble_eq_true rfl) rfl h (fun _ _ h => cp_X4_find (d := d) h) fun v2 F1 h => ?_
        refine V_istore dX6_stand_48 (by decide) rfl (ls' := [.ref 0, .int l1, .int l2, .int l3, .int v2]) rfl rfl ?_
        refine V_aload_n dX6_stand_50 rfl rfl rfl ?_
        refine F_getR dX6_stand_51 fl_X6_10 ly_0 rfl rfl ?_
        refine F_getR dX6_stand_54 fl_X6_122 ly_1 rfl rfl ?_
        refine V_iload_n dX6_stand_57 rfl rfl rfl ?_
        refine A_ldR (t := 5) dX6_stand_58 rfl h fun v3 h => ?_
        refine V_iload dX6_stand_59 rfl rfl ?_
        refine V_iload_n dX6_stand_61 rfl rfl rfl ?_
        refine A_callV (ci := 4) eU dX6_stand_62 cl_X6_166 (by decide) rfl (As := [.int v2, .int l3]) (st := []) rfl rfl (Nat.le_of_ble_eq_true rfl) rfl h (fun _ _ h => cp_X4_shift (d := d) h) fun _ F2 h => ?_
        refine V_iload dX6_stand_65 rfl rfl ?_
        exact A_ireturn dX6_stand_67 rfl h
      · refine V_iconst dX6_stand_33 ci_m1 rfl ?_
        exact A_ireturn dX6_stand_34 rfl h
theorem cp_X6_stand {N d : Nat} {l1 : Int32} {l2 : Int32} {l3 : Int32} {F F' : FF} {r : Int32} (h : fX6_stand N l1 l2 l3 F = some (r, F')) : CP (d + 1) mX6_stand [.ref 0, .int l1, .int l2, .int l3] F (fun r' F'' => r' = eI r ∧ F'' = F') := CP_I rfl (Nat.le_of_ble_eq_true rfl) (okX6_stand h)
theorem okX6_set {N d : Nat} {l1 : Int32} {l2 : Int32} {F : FF} {res : Int32 × FF} (h : fX6_set N l1 l2 F = some res) : FV cX6_set 4 RX6 (d + 1) (some .int) none 0 [.ref 0, .int l1, .int l2, .null] [] F (RI res) := by
  unfold fX6_set at h
  refine V_aload_n dX6_set_0 rfl rfl rfl ?_
  refine F_getR dX6_set_1 fl_X6_10 ly_0 rfl rfl ?_
  refine V_iload_n dX6_set_4 rfl rfl rfl ?_
  refine P_callV (ci := 0) dX6_set_5 cl_X6_157 (by decide) rfl rfl (cq_X0_hasWant (d := d) rfl) (As := [.int l1]) (st := []) rfl rfl (Nat.le_of_ble_eq_true rfl) rfl ?_
  refine A_if_eq dX6_set_8 rfl rfl h (fun h => ?_) (fun h => ?_)
  · refine V_iconst dX6_set_22 ci_m1 rfl ?_
    exact A_ireturn dX6_set_23 rfl h
  · refine V_aload_n dX6_set_11 rfl rfl rfl ?_
    refine F_getR dX6_set_12 fl_X6_10 ly_0 rfl rfl ?_
    refine V_iload_n dX6_set_15 rfl rfl rfl ?_
    refine P_callV (ci := 0) dX6_set_16 cl_X6_151 (by decide) rfl rfl (cq_X0_hasBook (d := d) rfl) (As := [.int l2]) (st := []) rfl rfl (Nat.le_of_ble_eq_true rfl) rfl ?_
    refine A_if_ne dX6_set_19 rfl rfl h (fun h => ?_) (fun h => ?_)
    · refine V_aload_n dX6_set_24 rfl rfl rfl ?_
      refine F_getR dX6_set_25 fl_X6_10 ly_0 rfl rfl ?_
      refine F_getR dX6_set_28 fl_X6_160 ly_1 rfl rfl ?_
      refine V_iload_n dX6_set_31 rfl rfl rfl ?_
      refine A_ld0 dX6_set_32 rfl h fun v1 h => ?_
      refine V_istore_n dX6_set_33 rfl (by decide) rfl (ls' := [.ref 0, .int l1, .int l2, .int v1]) rfl rfl ?_
      refine V_aload_n dX6_set_34 rfl rfl rfl ?_
      refine F_getR dX6_set_35 fl_X6_10 ly_0 rfl rfl ?_
      refine F_getR dX6_set_38 fl_X6_160 ly_1 rfl rfl ?_
      refine V_iload_n dX6_set_41 rfl rfl rfl ?_
      refine V_iload_n dX6_set_42 rfl rfl rfl ?_
      refine A_st0 dX6_set_43 rfl h fun F1 h => ?_
      refine V_iload_n dX6_set_44 rfl rfl rfl ?_
      exact A_ireturn dX6_set_45 rfl h
    · refine V_iconst dX6_set_22 ci_m1 rfl ?_
      exact A_ireturn dX6_set_23 rfl h
theorem cp_X6_set {N d : Nat} {l1 : Int32} {l2 : Int32} {F F' : FF} {r : Int32} (h : fX6_set N l1 l2 F = some (r, F')) : CP (d + 1) mX6_set [.ref 0, .int l1, .int l2] F (fun r' F'' => r' = eI r ∧ F'' = F') := CP_I rfl (Nat.le_of_ble_eq_true rfl) (okX6_set h)
theorem okX6_add {N d : Nat} {l1 : Int32} {F : FF} {res : Int32 × FF} (h : fX6_add N l1 F = some res) : FV cX6_add 2 RX6 (d + 1) (some .int) none 0 [.ref 0, .int l1] [] F (RI res) := by
  unfold fX6_add at h
  refine V_aload_n dX6_add_0 rfl rfl rfl ?_
  refine F_getR dX6_add_1 fl_X6_10 ly_0 rfl rfl ?_
  refine V_iload_n dX6_add_4 rfl rfl rfl ?_
  refine P_callV (ci := 0) dX6_add_5 cl_X6_151 (by decide) rfl rfl (cq_X0_hasBook (d := d) rfl) (As := [.int l1]) (st := []) rfl rfl (Nat.le_of_ble_eq_true rfl) rfl ?_
  refine A_if_ne dX6_add_8 rfl rfl h (fun h => ?_) (fun h => ?_)
  · refine V_aload_n dX6_add_13 rfl rfl rfl ?_
    refine F_getR dX6_add_14 fl_X6_10 ly_0 rfl rfl ?_
    refine V_iload_n dX6_add_17 rfl rfl rfl ?_
    refine A_callC (ci := 0) eI dX6_add_18 cl_X6_169 (by decide) rfl rfl (As := [.int l1]) (st := []) rfl rfl (Nat.le_of_ble_eq_true rfl) rfl h (fun _ _ h => cp_X0_addWant (d := d) h) fun v1 F1 h => ?_
    refine V_midI (q := 36) ((if v1 = 0 then ((-3)) else (F1 1 2) : Int32)) [] (fun yJ hy hJ => ?_) ?_
    · refine V_if_eq dX6_add_21 rfl rfl (fun c => ?_) (fun c => ?_)
      · rw [if_pos c] at hy
        refine V_bipush dX6_add_34 cb_m3 rfl ?_
        rw [hy] at hJ
        exact hJ
      · rw [if_neg c] at hy
        refine V_aload_n dX6_add_24 rfl rfl rfl ?_
        refine F_getR dX6_add_25 fl_X6_10 ly_0 rfl rfl ?_
        refine F_getI dX6_add_28 fl_X6_103 ly_1 rfl rfl ?_
        refine V_goto dX6_add_31 rfl ?_
        rw [hy] at hJ
        exact hJ
    · exact A_ireturn dX6_add_36 rfl h
  · refine V_iconst dX6_add_11 ci_m1 rfl ?_
    exact A_ireturn dX6_add_12 rfl h
theorem cp_X6_add {N d : Nat} {l1 : Int32} {F F' : FF} {r : Int32} (h : fX6_add N l1 F = some (r, F')) : CP (d + 1) mX6_add [.ref 0, .int l1] F (fun r' F'' => r' = eI r ∧ F'' = F') := CP_I rfl (Nat.le_of_ble_eq_true rfl) (okX6_add h)
theorem okX6_drop {N d : Nat} {l1 : Int32} {F : FF} {res : Int32 × FF} (h : fX6_drop N l1 F = some res) : FV cX6_drop 3 RX6 (d + 1) (some .int) none 0 [.ref 0, .int l1, .null] [] F (RI res) := by
  unfold fX6_drop at h
  refine V_iload_n dX6_drop_0 rfl rfl rfl ?_
  refine V_iconst dX6_drop_1 ci_0 rfl ?_
  refine V_aload_n dX6_drop_2 rfl rfl rfl ?_
  refine F_getR dX6_drop_3 fl_X6_10 ly_0 rfl rfl ?_
  refine F_getI dX6_drop_6 fl_X6_103 ly_1 rfl rfl ?_
  refine P_callS dX6_drop_9 cl_X6_69 (cq_X6_within (d := d)) (As := [.int l1, .int 0, .int (F 1 2)]) (st := []) rfl rfl (Nat.le_of_ble_eq_true rfl) rfl ?_
  refine A_if_ne dX6_drop_12 rfl rfl h (fun h => ?_) (fun h => ?_)
  · refine V_aload_n dX6_drop_17 rfl rfl rfl ?_
    refine F_getR dX6_drop_18 fl_X6_10 ly_0 rfl rfl ?_
    refine F_getI dX6_drop_21 fl_X6_103 ly_1 rfl rfl ?_
    refine V_istore_n dX6_drop_24 rfl (by decide) rfl (ls' := [.ref 0, .int l1, .int (F 1 2)]) rfl rfl ?_
    refine V_aload_n dX6_drop_25 rfl rfl rfl ?_
    refine F_getR dX6_drop_26 fl_X6_10 ly_0 rfl rfl ?_
    refine V_iload_n dX6_drop_29 rfl rfl rfl ?_
    refine A_pn dX6_drop_30 fl_X6_103 rfl (Or.inl rfl) ly_1 rfl rfl h fun F1 h => ?_
    refine V_iload_n dX6_drop_33 rfl rfl rfl ?_
    exact A_ireturn dX6_drop_34 rfl h
  · refine V_iconst dX6_drop_15 ci_m1 rfl ?_
    exact A_ireturn dX6_drop_16 rfl h
theorem cp_X6_drop {N d : Nat} {l1 : Int32} {F F' : FF} {r : Int32} (h : fX6_drop N l1 F = some (r, F')) : CP (d + 1) mX6_drop [.ref 0, .int l1] F (fun r' F'' => r' = eI r ∧ F'' = F') := CP_I rfl (Nat.le_of_ble_eq_true rfl) (okX6_drop h)
theorem okX4_payFor {N d : Nat} {l0 : Nat} {l1 : Int32} {F : FF} {res : Int32 × FF} (h : fX4_payFor N l0 l1 F = some res) : FV cX4_payFor 2 RX4 (d) (some .int) none 0 [.ref l0, .int l1] [] F (RI res) := by
  unfold fX4_payFor at h
  refine V_aload_n dX4_payFor_0 rfl rfl rfl ?_
  refine A_gI dX4_payFor_1 fl_X4_22 rfl h fun v1 h => ?_
  refine V_iconst dX4_payFor_4 ci_2 rfl ?_
  refine V_midI (q := 21) ((if ¬ v1 = 2 then (l1 + 1) else (if l1 = 0 then (l1 + 1) else (l1 + 2)) : Int32)) [] (fun yJ hy hJ => ?_) ?_
  · refine V_icmp_ne dX4_payFor_5 rfl rfl (fun c => ?_) (fun c => ?_)
    · rw [if_pos c] at hy
      refine V_iload_n dX4_payFor_18 rfl rfl rfl ?_
      refine V_iconst dX4_payFor_19 ci_1 rfl ?_
      refine V_iadd dX4_payFor_20 rfl ?_
      rw [hy] at hJ
      exact hJ
    · rw [if_neg (fun z => z c)] at hy
      refine V_iload_n dX4_payFor_8 rfl rfl rfl ?_
      refine V_if_eq dX4_payFor_9 rfl rfl (fun c => ?_) (fun c => ?_)
      · rw [if_pos c] at hy
        refine V_iload_n dX4_payFor_18 rfl rfl rfl ?_
        refine V_iconst dX4_payFor_19 ci_1 rfl ?_
        refine V_iadd dX4_payFor_20 rfl ?_
        rw [hy] at hJ
        exact hJ
      · rw [if_neg c] at hy
        refine V_iload_n dX4_payFor_12 rfl rfl rfl ?_
        refine V_iconst dX4_payFor_13 ci_2 rfl ?_
        refine V_iadd dX4_payFor_14 rfl ?_
        refine V_goto dX4_payFor_15 rfl ?_
        rw [hy] at hJ
        exact hJ
  · exact A_ireturn dX4_payFor_21 rfl h
theorem cp_X4_payFor {N d : Nat} {l0 : Nat} {l1 : Int32} {F F' : FF} {r : Int32} (h : fX4_payFor N l0 l1 F = some (r, F')) : CP (d) mX4_payFor [.ref l0, .int l1] F (fun r' F'' => r' = eI r ∧ F'' = F') := CP_I rfl (Nat.le_of_ble_eq_true rfl) (okX4_payFor h)
theorem pe_X4_payFor {N : Nat} {l0 : Nat} {l1 : Int32} {F : FF} (hok : okC 4 l0 = true) : fX4_payFor N l0 l1 F = some (pX4_payFor l0 l1 F, F) := by
  simp only [fX4_payFor, pX4_payFor, gI, okF_C hok (k := 0) rfl, okF_C hok (k := 1) rfl, if_true]
  repeat (first | rfl | split)
theorem cq_X4_payFor {d : Nat} {l0 : Nat} {l1 : Int32} {F : FF} (hok : okC 4 l0 = true) : CP (d) mX4_payFor [.ref l0, .int l1] F (fun r' F'' => r' = eI (pX4_payFor l0 l1 F) ∧ F'' = F) := cp_X4_payFor (N := 0) (pe_X4_payFor hok)
theorem okX4_goalOf_L33 {N d : Nat} {l0 : Nat} {l1 : Int32} {l2 : Int32} {res : Int32 × FF} : ∀ (n : Nat) (l3 : Int32) (F : FF), fX4_goalOf_L33 N l0 l1 l2 n l3 F = some res → FV cX4_goalOf 4 RX4 (d) (some .int) none 33 [.ref l0, .int l1, .int l2, .int l3] [] F (RI res) := by
  intro n
  induction n with
  | zero =>
    intro l3 F h
    rw [fX4_goalOf_L33.eq_1] at h
    cases h
  | succ n ih =>
    intro l3 F h
    rw [fX4_goalOf_L33.eq_2] at h
    refine V_aload_n dX4_goalOf_33 rfl rfl rfl ?_
    refine A_gI dX4_goalOf_34 fl_X4_22 rfl h fun v1 h => ?_
    refine V_iconst dX4_goalOf_37 ci_3 rfl ?_
    refine A_icmp_ne dX4_goalOf_38 rfl rfl h (fun h => ?_) (fun h => ?_)
    · refine V_iload_n dX4_goalOf_72 rfl rfl rfl ?_
      exact A_ireturn dX4_goalOf_73 rfl h
    · refine V_iload_n dX4_goalOf_41 rfl rfl rfl ?_
      refine V_iload_n dX4_goalOf_42 rfl rfl rfl ?_
      refine A_icmp_ge dX4_goalOf_43 rfl rfl h (fun h => ?_) (fun h => ?_)
      · refine V_iload_n dX4_goalOf_72 rfl rfl rfl ?_
        exact A_ireturn dX4_goalOf_73 rfl h
      · refine V_aload_n dX4_goalOf_46 rfl rfl rfl ?_
        refine A_gR dX4_goalOf_47 fl_X4_15 rfl h fun v2 h => ?_
        refine V_aload_n dX4_goalOf_50 rfl rfl rfl ?_
        refine A_gR dX4_goalOf_51 fl_X4_9 rfl h fun v3 h => ?_
        refine V_iload_n dX4_goalOf_54 rfl rfl rfl ?_
        refine A_ld0 dX4_goalOf_55 rfl h fun v4 h => ?_
        refine A_ld0 dX4_goalOf_56 rfl h fun v5 h => ?_
        refine V_aload_n dX4_goalOf_57 rfl rfl rfl ?_
        refine A_gR dX4_goalOf_58 fl_X4_15 rfl h fun v6 h => ?_
        refine V_iload_n dX4_goalOf_61 rfl rfl rfl ?_
        refine A_ld0 dX4_goalOf_62 rfl h fun v7 h => ?_
        refine A_icmp_lt dX4_goalOf_63 rfl rfl h (fun h => ?_) (fun h => ?_)
        · refine V_iload_n dX4_goalOf_72 rfl rfl rfl ?_
          exact A_ireturn dX4_goalOf_73 rfl h
        · refine V_iinc dX4_goalOf_66 (v := l3 + 1) rfl (by rw [ci_1]) rfl (ls' := [.ref l0, .int l1, .int l2, .int (l3 + 1)]) rfl rfl ?_
          refine V_goto dX4_goalOf_69 rfl ?_
          exact ih (l3 + 1) F h
theorem okX4_goalOf {N d : Nat} {l0 : Nat} {l1 : Int32} {l2 : Int32} {F : FF} {res : Int32 × FF} (h : fX4_goalOf N l0 l1 l2 F = some res) : FV cX4_goalOf 4 RX4 (d) (some .int) none 0 [.ref l0, .int l1, .int l2, .null] [] F (RI res) := by
  unfold fX4_goalOf at h
  refine V_aload_n dX4_goalOf_0 rfl rfl rfl ?_
  refine A_gI dX4_goalOf_1 fl_X4_22 rfl h fun v1 h => ?_
  refine V_iconst dX4_goalOf_4 ci_1 rfl ?_
  refine A_icmp_ne dX4_goalOf_5 rfl rfl h (fun h => ?_) (fun h => ?_)
  · refine V_aload_n dX4_goalOf_20 rfl rfl rfl ?_
    refine A_gI dX4_goalOf_21 fl_X4_22 rfl h fun v2 h => ?_
    refine V_midI (q := 32) ((if ¬ v2 = 0 then 0 else l2 : Int32)) [] (fun yJ hy hJ => ?_) ?_
    · refine V_if_ne dX4_goalOf_24 rfl rfl (fun c => ?_) (fun c => ?_)
      · rw [if_pos c] at hy
        refine V_iconst dX4_goalOf_31 ci_0 rfl ?_
        rw [hy] at hJ
        exact hJ
      · rw [if_neg (fun z => z c)] at hy
        refine V_iload_n dX4_goalOf_27 rfl rfl rfl ?_
        refine V_goto dX4_goalOf_28 rfl ?_
        rw [hy] at hJ
        exact hJ
    · refine V_istore_n dX4_goalOf_32 rfl (by decide) rfl (ls' := [.ref l0, .int l1, .int l2, .int ((if ¬ v2 = 0 then 0 else l2 : Int32))]) rfl rfl ?_
      exact okX4_goalOf_L33 _ _ _ h
  · refine V_iload_n dX4_goalOf_8 rfl rfl rfl ?_
    refine V_midI (q := 19) ((if l2 ≤ 0 then 0 else (l2 - 1) : Int32)) [] (fun yJ hy hJ => ?_) ?_
    · refine V_if_le dX4_goalOf_9 rfl rfl (fun c => ?_) (fun c => ?_)
      · rw [if_pos c] at hy
        refine V_iconst dX4_goalOf_18 ci_0 rfl ?_
        rw [hy] at hJ
        exact hJ
      · rw [if_neg c] at hy
        refine V_iload_n dX4_goalOf_12 rfl rfl rfl ?_
        refine V_iconst dX4_goalOf_13 ci_1 rfl ?_
        refine V_isub dX4_goalOf_14 rfl ?_
        refine V_goto dX4_goalOf_15 rfl ?_
        rw [hy] at hJ
        exact hJ
    · exact A_ireturn dX4_goalOf_19 rfl h
theorem cp_X4_goalOf {N d : Nat} {l0 : Nat} {l1 : Int32} {l2 : Int32} {F F' : FF} {r : Int32} (h : fX4_goalOf N l0 l1 l2 F = some (r, F')) : CP (d) mX4_goalOf [.ref l0, .int l1, .int l2] F (fun r' F'' => r' = eI r ∧ F'' = F') := CP_I rfl (Nat.le_of_ble_eq_true rfl) (okX4_goalOf h)
