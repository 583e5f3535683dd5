theorem okX6_count {N d : Nat} {l1 : Int32} {F : FF} {res : Int32 × FF} (h : fX6_count N l1 F = some res) : FV cX6_count 2 RX6 (d + 1) (some .int) none 0 [.ref 0, .int l1] [] F (RI res) := by
  unfold fX6_count at h
  refine V_iload_n dX6_count_0 rfl rfl rfl ?_
  refine A_if h (fun c h => ?_) (fun c0 h => ?_)
  · rw [c]
    refine V_tableIn dX6_count_1 (by decide) (by decide) rfl rfl ?_
    refine V_aload_n dX6_count_40 rfl rfl rfl ?_
    refine F_getR dX6_count_41 fl_X6_37 ly_0 rfl rfl ?_
    refine F_getI dX6_count_44 fl_X6_94 ly_35 rfl rfl ?_
    exact A_ireturn dX6_count_47 rfl h
  refine A_if h (fun c h => ?_) (fun c1 h => ?_)
  · rw [c]
    refine V_tableIn dX6_count_1 (by decide) (by decide) rfl rfl ?_
    refine V_aload_n dX6_count_48 rfl rfl rfl ?_
    refine A_callC (ci := 6) eI dX6_count_49 cl_X6_305 (by decide) rfl rfl (As := []) (st := []) rfl rfl (Nat.le_of_ble_eq_true rfl) rfl h (fun _ _ h => cp_X6_imagesKept (d := d) h) fun v1 F1 h => ?_
    exact A_ireturn dX6_count_52 rfl h
  refine A_if h (fun c h => ?_) (fun c2 h => ?_)
  · rw [c]
    refine V_tableIn dX6_count_1 (by decide) (by decide) rfl rfl ?_
    refine V_aload_n dX6_count_53 rfl rfl rfl ?_
    refine F_getR dX6_count_54 fl_X6_30 ly_0 rfl rfl ?_
    refine F_getI dX6_count_57 fl_X6_73 ly_33 rfl rfl ?_
    exact A_ireturn dX6_count_60 rfl h
  refine A_if h (fun c h => ?_) (fun c3 h => ?_)
  · rw [c]
    refine V_tableIn dX6_count_1 (by decide) (by decide) rfl rfl ?_
    refine V_aload_n dX6_count_61 rfl rfl rfl ?_
    refine F_getR dX6_count_62 fl_X6_43 ly_0 rfl rfl ?_
    refine V_iconst dX6_count_65 ci_0 rfl ?_
    refine F_aald dX6_count_66 ly_39 (by decide) (j := 0) (by decide) rfl (by decide) rfl ?_
    refine F_getI dX6_count_67 fl_X6_290 ly_74 rfl rfl ?_
    refine V_iconst dX6_count_70 ci_m1 rfl ?_
    refine V_midI (q := 88) ((if ¬ (F 74 0) = ((-1)) then (F 74 1) else ((-4)) : Int32)) [] (fun yJ hy hJ => ?_) ?_
    · refine V_icmp_ne dX6_count_71 rfl rfl (fun c => ?_) (fun c => ?_)
      · rw [if_pos c] at hy
        refine V_aload_n dX6_count_79 rfl rfl rfl ?_
        refine F_getR dX6_count_80 fl_X6_43 ly_0 rfl rfl ?_
        refine V_iconst dX6_count_83 ci_0 rfl ?_
        refine F_aald dX6_count_84 ly_39 (by decide) (j := 0) (by decide) rfl (by decide) rfl ?_
        refine F_getI dX6_count_85 fl_X6_308 ly_74 rfl rfl ?_
        rw [hy] at hJ
        exact hJ
      · rw [if_neg (fun z => z c)] at hy
        refine V_bipush dX6_count_74 cb_m4 rfl ?_
        refine V_goto dX6_count_76 rfl ?_
        rw [hy] at hJ
        exact hJ
    · exact A_ireturn dX6_count_88 rfl h
  refine A_if h (fun c h => ?_) (fun c4 h => ?_)
  · rw [c]
    refine V_tableIn dX6_count_1 (by decide) (by decide) rfl rfl ?_
    refine V_aload_n dX6_count_89 rfl rfl rfl ?_
    refine F_getR dX6_count_90 fl_X6_10 ly_0 rfl rfl ?_
    refine A_callC (ci := 0) eI dX6_count_93 cl_X6_309 (by decide) rfl rfl (As := []) (st := []) rfl rfl (Nat.le_of_ble_eq_true rfl) rfl h (fun _ _ h => cp_X0_costOfAll (d := d) h) fun v2 F2 h => ?_
    exact A_ireturn dX6_count_96 rfl h
  refine A_if h (fun c h => ?_) (fun c5 h => ?_)
  · rw [c]
    refine V_tableIn dX6_count_1 (by decide) (by decide) rfl rfl ?_
    refine V_aload_n dX6_count_97 rfl rfl rfl ?_
    refine F_getR dX6_count_98 fl_X6_10 ly_0 rfl rfl ?_
    refine A_callC (ci := 0) eI dX6_count_101 cl_X6_312 (by decide) rfl rfl (As := []) (st := []) rfl rfl (Nat.le_of_ble_eq_true rfl) rfl h (fun _ _ h => cp_X0_wantsSummed (d := d) h) fun v3 F3 h => ?_
    exact A_ireturn dX6_count_104 rfl h
  refine V_tableOut dX6_count_1 (tb_out6 c0 c1 c2 c3 c4 c5) rfl ?_
  refine V_iconst dX6_count_105 ci_m1 rfl ?_
  exact A_ireturn dX6_count_106 rfl h
theorem cp_X6_count {N d : Nat} {l1 : Int32} {F F' : FF} {r : Int32} (h : fX6_count N l1 F = some (r, F')) : CP (d + 1) mX6_count [.ref 0, .int l1] F (fun r' F'' => r' = eI r ∧ F'' = F') := CP_I rfl (Nat.le_of_ble_eq_true rfl) (okX6_count h)
theorem okX7_in {N d : Nat} {l0 : Int64} {l2 : Int64} {l4 : Int64} {F : FF} {res : Int32 × FF} (h : fX7_in N l0 l2 l4 F = some res) : FV cX7_in 6 RX7 (d) (some .boolean) none 0 [.long l0, .null, .long l2, .null, .long l4, .null] [] F (RI res) := by
  unfold fX7_in at h
  refine V_lload_n dX7_in_0 rfl rfl rfl ?_
  refine V_lload_n dX7_in_1 rfl rfl rfl ?_
  refine V_lcmp dX7_in_2 rfl ?_
  refine V_midI (q := 18) ((if (lg_cmp l0 l2) < 0 then 0 else (if 0 < (lg_cmp l0 l4) then 0 else 1) : Int32)) [] (fun yJ hy hJ => ?_) ?_
  · refine V_if_lt dX7_in_3 rfl rfl (fun c => ?_) (fun c => ?_)
    · rw [if_pos c] at hy
      refine V_iconst dX7_in_17 ci_0 rfl ?_
      rw [hy] at hJ
      exact hJ
    · rw [if_neg c] at hy
      refine V_lload_n dX7_in_6 rfl rfl rfl ?_
      refine V_lload dX7_in_7 rfl rfl ?_
      refine V_lcmp dX7_in_9 rfl ?_
      refine V_if_gt dX7_in_10 rfl rfl (fun c => ?_) (fun c => ?_)
      · rw [if_pos c] at hy
        refine V_iconst dX7_in_17 ci_0 rfl ?_
        rw [hy] at hJ
        exact hJ
      · rw [if_neg c] at hy
        refine V_iconst dX7_in_13 ci_1 rfl ?_
        refine V_goto dX7_in_14 rfl ?_
        rw [hy] at hJ
        exact hJ
  · exact A_creturn dX7_in_18 rfl (by repeat' (first | exact Or.inl rfl | exact Or.inr rfl | split)) h
theorem cp_X7_in {N d : Nat} {l0 : Int64} {l2 : Int64} {l4 : Int64} {F F' : FF} {r : Int32} (h : fX7_in N l0 l2 l4 F = some (r, F')) : CP (d) mX7_in [.long l0, .long l2, .long l4] F (fun r' F'' => r' = eI r ∧ F'' = F') := CP_I rfl (Nat.le_of_ble_eq_true rfl) (okX7_in h)
theorem pe_X7_in {N : Nat} {l0 : Int64} {l2 : Int64} {l4 : Int64} {F : FF} : fX7_in N l0 l2 l4 F = some (pX7_in l0 l2 l4 F, F) := by
  simp only [fX7_in, pX7_in]
  repeat (first | rfl | split)
theorem cq_X7_in {d : Nat} {l0 : Int64} {l2 : Int64} {l4 : Int64} {F : FF} : CP (d) mX7_in [.long l0, .long l2, .long l4] F (fun r' F'' => r' = eI (pX7_in l0 l2 l4 F) ∧ F'' = F) := cp_X7_in (N := 0) (pe_X7_in)
theorem okX7_feed {N d : Nat} {l1 : Int32} {F : FF} {res : Int32 × FF} (h : fX7_feed N l1 F = some res) : FV cX7_feed 2 RX7 (d + 1) (some .int) none 0 [.ref 82, .int l1] [] F (RI res) := by
  unfold fX7_feed at h
  refine V_iload_n dX7_feed_0 rfl rfl rfl ?_
  refine V_i2l dX7_feed_1 rfl ?_
  refine V_lconst dX7_feed_2 cl_0 rfl ?_
  refine V_ldc2 dX7_feed_3 kc_X7_54 rfl ?_
  refine P_callS dX7_feed_6 cl_X7_56 (cq_X7_in (d := d)) (As := [.long l1.toInt64, .long 0, .long 127]) (st := []) rfl rfl (Nat.le_of_ble_eq_true rfl) rfl ?_
  refine A_if_ne dX7_feed_9 rfl rfl h (fun h => ?_) (fun h => ?_)
  · refine V_aload_n dX7_feed_14 rfl rfl rfl ?_
    refine F_getI dX7_feed_15 fl_X7_60 ly_82 rfl rfl ?_
    refine V_sipush dX7_feed_18 cs_160 rfl ?_
    refine A_icmp_ne dX7_feed_21 rfl rfl h (fun h => ?_) (fun h => ?_)
    · refine V_aload_n dX7_feed_27 rfl rfl rfl ?_
      refine F_getR dX7_feed_28 fl_X7_20 ly_82 rfl rfl ?_
      refine V_aload_n dX7_feed_31 rfl rfl rfl ?_
      refine F_getI dX7_feed_32 fl_X7_60 ly_82 rfl rfl ?_
      refine V_iload_n dX7_feed_35 rfl rfl rfl ?_
      refine A_st0 dX7_feed_36 rfl h fun F1 h => ?_
      refine V_aload_n dX7_feed_37 rfl rfl rfl ?_
      refine V_dup dX7_feed_38 rfl rfl ?_
      refine F_getI dX7_feed_39 fl_X7_60 ly_82 rfl rfl ?_
      refine V_iconst dX7_feed_42 ci_1 rfl ?_
      refine V_iadd dX7_feed_43 rfl ?_
      refine A_pn dX7_feed_44 fl_X7_60 rfl (Or.inl rfl) ly_82 rfl rfl h fun F2 h => ?_
      refine V_aload_n dX7_feed_47 rfl rfl rfl ?_
      refine F_getI dX7_feed_48 fl_X7_60 ly_82 rfl rfl ?_
      exact A_ireturn dX7_feed_51 rfl h
    · refine V_bipush dX7_feed_24 cb_m3 rfl ?_
      exact A_ireturn dX7_feed_26 rfl h
  · refine V_iconst dX7_feed_12 ci_m1 rfl ?_
    exact A_ireturn dX7_feed_13 rfl h
theorem cp_X7_feed {N d : Nat} {l1 : Int32} {F F' : FF} {r : Int32} (h : fX7_feed N l1 F = some (r, F')) : CP (d + 1) mX7_feed [.ref 82, .int l1] F (fun r' F'' => r' = eI r ∧ F'' = F') := CP_I rfl (Nat.le_of_ble_eq_true rfl) (okX7_feed h)
theorem okX7_end {N d : Nat} {l1 : Int32} {F : FF} {res : Int32 × FF} (h : fX7_end N l1 F = some res) : FV cX7_end 3 RX7 (d + 1) (some .int) none 0 [.ref 82, .int l1, .null] [] F (RI res) := by
  unfold fX7_end at h
  refine V_iload_n dX7_end_0 rfl rfl rfl ?_
  refine V_i2l dX7_end_1 rfl ?_
  refine V_lconst dX7_end_2 cl_0 rfl ?_
  refine V_aload_n dX7_end_3 rfl rfl rfl ?_
  refine F_getI dX7_end_4 fl_X7_60 ly_82 rfl rfl ?_
  refine V_i2l dX7_end_7 rfl ?_
  refine P_callS dX7_end_8 cl_X7_56 (cq_X7_in (d := d)) (As := [.long l1.toInt64, .long 0, .long ((F 82 7).toInt64)]) (st := []) rfl rfl (Nat.le_of_ble_eq_true rfl) rfl ?_
  refine A_if_ne dX7_end_11 rfl rfl h (fun h => ?_) (fun h => ?_)
  · refine V_aload_n dX7_end_16 rfl rfl rfl ?_
    refine F_getI dX7_end_17 fl_X7_60 ly_82 rfl rfl ?_
    refine V_istore_n dX7_end_20 rfl (by decide) rfl (ls' := [.ref 82, .int l1, .int (F 82 7)]) rfl rfl ?_
    refine V_aload_n dX7_end_21 rfl rfl rfl ?_
    refine V_iload_n dX7_end_22 rfl rfl rfl ?_
    refine A_pn dX7_end_23 fl_X7_60 rfl (Or.inl rfl) ly_82 rfl rfl h fun F1 h => ?_
    refine V_iload_n dX7_end_26 rfl rfl rfl ?_
    exact A_ireturn dX7_end_27 rfl h
  · refine V_iconst dX7_end_14 ci_m1 rfl ?_
    exact A_ireturn dX7_end_15 rfl h
theorem cp_X7_end {N d : Nat} {l1 : Int32} {F F' : FF} {r : Int32} (h : fX7_end N l1 F = some (r, F')) : CP (d + 1) mX7_end [.ref 82, .int l1] F (fun r' F'' => r' = eI r ∧ F'' = F') := CP_I rfl (Nat.le_of_ble_eq_true rfl) (okX7_end h)
theorem okX7_byteAt {N d : Nat} {l1 : Int32} {F : FF} {res : Int32 × FF} (h : fX7_byteAt N l1 F = some res) : FV cX7_byteAt 2 RX7 (d) (some .int) none 0 [.ref 82, .int l1] [] F (RI res) := by
  unfold fX7_byteAt at h
  refine V_iload_n dX7_byteAt_0 rfl rfl rfl ?_
  refine V_aload_n dX7_byteAt_1 rfl rfl rfl ?_
  refine F_getI dX7_byteAt_2 fl_X7_60 ly_82 rfl rfl ?_
  refine A_icmp_ge dX7_byteAt_5 rfl rfl h (fun h => ?_) (fun h => ?_)
  · refine V_bipush dX7_byteAt_17 cb_m4 rfl ?_
    exact A_ireturn dX7_byteAt_19 rfl h
  · refine V_aload_n dX7_byteAt_8 rfl rfl rfl ?_
    refine F_getR dX7_byteAt_9 fl_X7_20 ly_82 rfl rfl ?_
    refine V_iload_n dX7_byteAt_12 rfl rfl rfl ?_
    refine A_ld0 dX7_byteAt_13 rfl h fun v1 h => ?_
    refine V_goto dX7_byteAt_14 rfl ?_
    exact A_ireturn dX7_byteAt_19 rfl h
theorem cp_X7_byteAt {N d : Nat} {l1 : Int32} {F F' : FF} {r : Int32} (h : fX7_byteAt N l1 F = some (r, F')) : CP (d) mX7_byteAt [.ref 82, .int l1] F (fun r' F'' => r' = eI r ∧ F'' = F') := CP_I rfl (Nat.le_of_ble_eq_true rfl) (okX7_byteAt h)
theorem okX7_fails {N d : Nat} {l1 : Int32} {F : FF} {res : Unit × FF} (h : fX7_fails N l1 F = some res) : FV cX7_fails 2 RX7 (d) none none 0 [.ref 82, .int l1] [] F (RU res) := by
  unfold fX7_fails at h
  refine V_aload_n dX7_fails_0 rfl rfl rfl ?_
  refine F_getI dX7_fails_1 fl_X7_63 ly_82 rfl rfl ?_
  refine A_if_ne dX7_fails_4 rfl rfl h (fun h => ?_) (fun h => ?_)
  · exact A_return dX7_fails_20 rfl h
  · refine V_aload_n dX7_fails_7 rfl rfl rfl ?_
    refine V_iload_n dX7_fails_8 rfl rfl rfl ?_
    refine A_pn dX7_fails_9 fl_X7_63 rfl (Or.inl rfl) ly_82 rfl rfl h fun F1 h => ?_
    refine V_aload_n dX7_fails_12 rfl rfl rfl ?_
    refine V_aload_n dX7_fails_13 rfl rfl rfl ?_
    refine F_getI dX7_fails_14 fl_X7_66 ly_82 rfl rfl ?_
    refine A_pn dX7_fails_17 fl_X7_69 rfl (Or.inl rfl) ly_82 rfl rfl h fun F2 h => ?_
    exact A_return dX7_fails_20 rfl h
theorem cp_X7_fails {N d : Nat} {l1 : Int32} {F F' : FF} {r : Unit} (h : fX7_fails N l1 F = some (r, F')) : CP (d) mX7_fails [.ref 82, .int l1] F (fun r' F'' => r' = eU r ∧ F'' = F') := CP_U rfl (Nat.le_of_ble_eq_true rfl) (okX7_fails h)
theorem okX7_readsOn_b201 {N d : Nat} {k140 : FF → Option (Unit × FF)} {s1 : Int32} {F : FF} {res : Unit × FF} (hk140 : ∀ (F : FF), k140 F = some res → FV cX7_readsOn 2 RX7 (d + 1) none none 140 [.ref 82, .null] [] F (RU res)) (h : fX7_readsOn_b201 N k140 s1 F = some res) : FV cX7_readsOn 2 RX7 (d + 1) none none 201 [.ref 82, .null] [.int s1, .ref 82] F (RU res) := by
  unfold fX7_readsOn_b201 at h
  refine A_pn dX7_readsOn_201 fl_X7_82 rfl (Or.inl rfl) ly_82 rfl rfl h fun F1 h => ?_
  refine V_aload_n dX7_readsOn_204 rfl rfl rfl ?_
  refine V_dup dX7_readsOn_205 rfl rfl ?_
  refine F_getI dX7_readsOn_206 fl_X7_75 ly_82 rfl rfl ?_
  refine V_iconst dX7_readsOn_209 ci_1 rfl ?_
  refine V_iadd dX7_readsOn_210 rfl ?_
  refine A_pn dX7_readsOn_211 fl_X7_75 rfl (Or.inl rfl) ly_82 rfl rfl h fun F2 h => ?_
  refine V_goto dX7_readsOn_214 rfl ?_
  exact hk140 F2 h
theorem okX7_readsOn_L140 {N d : Nat} {res : Unit × FF} : ∀ (n : Nat) (F : FF), fX7_readsOn_L140 N n F = some res → FV cX7_readsOn 2 RX7 (d + 1) none none 140 [.ref 82, .null] [] F (RU res) := by
  intro n
  induction n with
  | zero =>
    intro F h
    rw [fX7_readsOn_L140.eq_1] at h
    cases h
  | succ n ih =>
    intro F h
    rw [fX7_readsOn_L140.eq_2] at h
    refine V_aload_n dX7_readsOn_140 rfl rfl rfl ?_
    refine V_aload_n dX7_readsOn_141 rfl rfl rfl ?_
    refine F_getI dX7_readsOn_142 fl_X7_75 ly_82 rfl rfl ?_
    refine A_callC (ci := 7) eI dX7_readsOn_145 cl_X7_78 (by decide) rfl rfl (As := [.int (F 82 11)]) (st := []) rfl rfl (Nat.le_of_ble_eq_true rfl) rfl h (fun _ _ h => cp_X7_byteAt (d := d) h) fun v1 F1 h => ?_
    refine V_i2l dX7_readsOn_148 rfl ?_
    refine V_ldc2 dX7_readsOn_149 kc_X7_89 rfl ?_
    refine V_ldc2 dX7_readsOn_152 kc_X7_91 rfl ?_
    refine P_callS dX7_readsOn_155 cl_X7_56 (cq_X7_in (d := d)) (As := [.long v1.toInt64, .long 48, .long 57]) (st := []) rfl rfl (Nat.le_of_ble_eq_true rfl) rfl ?_
    refine A_if_eq dX7_readsOn_158 rfl rfl h (fun h => ?_) (fun h => ?_)
    · refine V_aload_n dX7_readsOn_217 rfl rfl rfl ?_
      refine V_iconst dX7_readsOn_218 ci_2 rfl ?_
      refine A_pn dX7_readsOn_219 fl_X7_72 rfl (Or.inl rfl) ly_82 rfl rfl h fun F2 h => ?_
      refine V_aload_n dX7_readsOn_222 rfl rfl rfl ?_
      refine F_getI dX7_readsOn_223 fl_X7_75 ly_82 rfl rfl ?_
      refine V_aload_n dX7_readsOn_226 rfl rfl rfl ?_
      refine F_getI dX7_readsOn_227 fl_X7_66 ly_82 rfl rfl ?_
      refine V_isub dX7_readsOn_230 rfl ?_
      refine V_iconst dX7_readsOn_231 ci_2 rfl ?_
      refine A_icmp_le dX7_readsOn_232 rfl rfl h (fun h => ?_) (fun h => ?_)
      · exact A_return dX7_readsOn_269 rfl h
      · refine V_aload_n dX7_readsOn_235 rfl rfl rfl ?_
        refine V_iconst dX7_readsOn_236 ci_1 rfl ?_
        refine A_callC (ci := 7) eU dX7_readsOn_237 cl_X7_93 (by decide) rfl rfl (As := [.int 1]) (st := []) rfl rfl (Nat.le_of_ble_eq_true rfl) rfl h (fun _ _ h => cp_X7_fails (d := d) h) fun _ F3 h => ?_
        refine V_goto dX7_readsOn_240 rfl ?_
        exact A_return dX7_readsOn_269 rfl h
    · refine V_aload_n dX7_readsOn_161 rfl rfl rfl ?_
      refine V_aload_n dX7_readsOn_162 rfl rfl rfl ?_
      refine F_getI dX7_readsOn_163 fl_X7_75 ly_82 rfl rfl ?_
      refine V_aload_n dX7_readsOn_166 rfl rfl rfl ?_
      refine F_getI dX7_readsOn_167 fl_X7_66 ly_82 rfl rfl ?_
      refine V_isub dX7_readsOn_170 rfl ?_
      refine V_iconst dX7_readsOn_171 ci_2 rfl ?_
      refine A_icmp_ge dX7_readsOn_172 rfl rfl h (fun h => ?_) (fun h => ?_)
      · refine V_aload_n dX7_readsOn_197 rfl rfl rfl ?_
        refine F_getI dX7_readsOn_198 fl_X7_82 ly_82 rfl rfl ?_
        exact okX7_readsOn_b201 (fun  F h => ih  F h) h
      · refine V_bipush dX7_readsOn_175 cb_10 rfl ?_
        refine V_aload_n dX7_readsOn_177 rfl rfl rfl ?_
        refine F_getI dX7_readsOn_178 fl_X7_82 ly_82 rfl rfl ?_
        refine V_imul dX7_readsOn_181 rfl ?_
        refine V_aload_n dX7_readsOn_182 rfl rfl rfl ?_
        refine V_aload_n dX7_readsOn_183 rfl rfl rfl ?_
        refine F_getI dX7_readsOn_184 fl_X7_75 ly_82 rfl rfl ?_
        refine A_callC (ci := 7) eI dX7_readsOn_187 cl_X7_78 (by decide) rfl rfl (As := [.int (F1 82 11)]) (st := [.int (10 * (F1 82 14)), .ref 82]) rfl rfl (Nat.le_of_ble_eq_true rfl) rfl h (fun _ _ h => cp_X7_byteAt (d := d) h) fun v2 F4 h => ?_
        refine V_iadd dX7_readsOn_190 rfl ?_
        refine V_bipush dX7_readsOn_191 cb_48 rfl ?_
        refine V_isub dX7_readsOn_193 rfl ?_
        refine V_goto dX7_readsOn_194 rfl ?_
        exact okX7_readsOn_b201 (fun  F h => ih  F h) h
theorem okX7_readsOn_L84 {N d : Nat} {res : Unit × FF} : ∀ (n : Nat) (F : FF), fX7_readsOn_L84 N n F = some res → FV cX7_readsOn 2 RX7 (d + 1) none none 84 [.ref 82, .null] [] F (RU res) := by
  intro n
  induction n with
  | zero =>
    intro F h
    rw [fX7_readsOn_L84.eq_1] at h
    cases h
  | succ n ih =>
    intro F h
    rw [fX7_readsOn_L84.eq_2] at h
    refine V_aload_n dX7_readsOn_84 rfl rfl rfl ?_
    refine V_aload_n dX7_readsOn_85 rfl rfl rfl ?_
    refine F_getI dX7_readsOn_86 fl_X7_75 ly_82 rfl rfl ?_
    refine A_callC (ci := 7) eI dX7_readsOn_89 cl_X7_78 (by decide) rfl rfl (As := [.int (F 82 11)]) (st := []) rfl rfl (Nat.le_of_ble_eq_true rfl) rfl h (fun _ _ h => cp_X7_byteAt (d := d) h) fun v1 F1 h => ?_
    refine V_i2l dX7_readsOn_92 rfl ?_
    refine V_ldc2 dX7_readsOn_93 kc_X7_85 rfl ?_
    refine V_ldc2 dX7_readsOn_96 kc_X7_87 rfl ?_
    refine P_callS dX7_readsOn_99 cl_X7_56 (cq_X7_in (d := d)) (As := [.long v1.toInt64, .long 97, .long 122]) (st := []) rfl rfl (Nat.le_of_ble_eq_true rfl) rfl ?_
    refine A_if_eq dX7_readsOn_102 rfl rfl h (fun h => ?_) (fun h => ?_)
    · refine V_aload_n dX7_readsOn_118 rfl rfl rfl ?_
      refine V_iconst dX7_readsOn_119 ci_1 rfl ?_
      refine A_pn dX7_readsOn_120 fl_X7_72 rfl (Or.inl rfl) ly_82 rfl rfl h fun F2 h => ?_
      refine V_goto dX7_readsOn_123 rfl ?_
      exact A_return dX7_readsOn_269 rfl h
    · refine V_aload_n dX7_readsOn_105 rfl rfl rfl ?_
      refine V_dup dX7_readsOn_106 rfl rfl ?_
      refine F_getI dX7_readsOn_107 fl_X7_75 ly_82 rfl rfl ?_
      refine V_iconst dX7_readsOn_110 ci_1 rfl ?_
      refine V_iadd dX7_readsOn_111 rfl ?_
      refine A_pn dX7_readsOn_112 fl_X7_75 rfl (Or.inl rfl) ly_82 rfl rfl h fun F3 h => ?_
      refine V_goto dX7_readsOn_115 rfl ?_
      exact ih F3 h
theorem okX7_readsOn_L8 {N d : Nat} {res : Unit × FF} : ∀ (n : Nat) (F : FF), fX7_readsOn_L8 N n F = some res → FV cX7_readsOn 2 RX7 (d + 1) none none 8 [.ref 82, .null] [] F (RU res) := by
  intro n
  induction n with
  | zero =>
    intro F h
    rw [fX7_readsOn_L8.eq_1] at h
    cases h
  | succ n ih =>
    intro F h
    rw [fX7_readsOn_L8.eq_2] at h
    refine V_aload_n dX7_readsOn_8 rfl rfl rfl ?_
    refine V_aload_n dX7_readsOn_9 rfl rfl rfl ?_
    refine F_getI dX7_readsOn_10 fl_X7_75 ly_82 rfl rfl ?_
    refine A_callC (ci := 7) eI dX7_readsOn_13 cl_X7_78 (by decide) rfl rfl (As := [.int (F 82 11)]) (st := []) rfl rfl (Nat.le_of_ble_eq_true rfl) rfl h (fun _ _ h => cp_X7_byteAt (d := d) h) fun v1 F1 h => ?_
    refine V_bipush dX7_readsOn_16 cb_32 rfl ?_
    refine A_icmp_ne dX7_readsOn_18 rfl rfl h (fun h => ?_) (fun h => ?_)
    · refine V_aload_n dX7_readsOn_34 rfl rfl rfl ?_
      refine V_aload_n dX7_readsOn_35 rfl rfl rfl ?_
      refine F_getI dX7_readsOn_36 fl_X7_75 ly_82 rfl rfl ?_
      refine A_pn dX7_readsOn_39 fl_X7_66 rfl (Or.inl rfl) ly_82 rfl rfl h fun F2 h => ?_
      refine V_aload_n dX7_readsOn_42 rfl rfl rfl ?_
      refine V_aload_n dX7_readsOn_43 rfl rfl rfl ?_
      refine F_getI dX7_readsOn_44 fl_X7_75 ly_82 rfl rfl ?_
      refine A_callC (ci := 7) eI dX7_readsOn_47 cl_X7_78 (by decide) rfl rfl (As := [.int (F2 82 11)]) (st := []) rfl rfl (Nat.le_of_ble_eq_true rfl) rfl h (fun _ _ h => cp_X7_byteAt (d := d) h) fun v2 F3 h => ?_
      refine V_istore_n dX7_readsOn_50 rfl (by decide) rfl (ls' := [.ref 82, .int v2]) rfl rfl ?_
      refine V_aload_n dX7_readsOn_51 rfl rfl rfl ?_
      refine V_iconst dX7_readsOn_52 ci_0 rfl ?_
      refine A_pn dX7_readsOn_53 fl_X7_82 rfl (Or.inl rfl) ly_82 rfl rfl h fun F4 h => ?_
      refine V_iload_n dX7_readsOn_56 rfl rfl rfl ?_
      refine V_bipush dX7_readsOn_57 cb_m4 rfl ?_
      refine A_icmp_ne dX7_readsOn_59 rfl rfl h (fun h => ?_) (fun h => ?_)
      · refine V_iload_n dX7_readsOn_70 rfl rfl rfl ?_
        refine V_i2l dX7_readsOn_71 rfl ?_
        refine V_ldc2 dX7_readsOn_72 kc_X7_85 rfl ?_
        refine V_ldc2 dX7_readsOn_75 kc_X7_87 rfl ?_
        refine P_callS dX7_readsOn_78 cl_X7_56 (cq_X7_in (d := d)) (As := [.long v2.toInt64, .long 97, .long 122]) (st := []) rfl rfl (Nat.le_of_ble_eq_true rfl) rfl ?_
        refine A_if_eq dX7_readsOn_81 rfl rfl h (fun h => ?_) (fun h => ?_)
        · refine V_iload_n dX7_readsOn_126 rfl rfl rfl ?_
          refine V_i2l dX7_readsOn_127 rfl ?_
          refine V_ldc2 dX7_readsOn_128 kc_X7_89 rfl ?_
          refine V_ldc2 dX7_readsOn_131 kc_X7_91 rfl ?_
          refine P_callS dX7_readsOn_134 cl_X7_56 (cq_X7_in (d := d)) (As := [.long v2.toInt64, .long 48, .long 57]) (st := []) rfl rfl (Nat.le_of_ble_eq_true rfl) rfl ?_
          refine A_if_eq dX7_readsOn_137 rfl rfl h (fun h => ?_) (fun h => ?_)
          · refine V_aload_n dX7_readsOn_243 rfl rfl rfl ?_
            refine V_iconst dX7_readsOn_244 ci_3 rfl ?_
            refine A_pn dX7_readsOn_245 fl_X7_72 rfl (Or.inl rfl) ly_82 rfl rfl h fun F5 h => ?_
            refine V_aload_n dX7_readsOn_248 rfl rfl rfl ?_
            refine V_dup dX7_readsOn_249 rfl rfl ?_
            refine F_getI dX7_readsOn_250 fl_X7_75 ly_82 rfl rfl ?_
            refine V_iconst dX7_readsOn_253 ci_1 rfl ?_
            refine V_iadd dX7_readsOn_254 rfl ?_
            refine A_pn dX7_readsOn_255 fl_X7_75 rfl (Or.inl rfl) ly_82 rfl rfl h fun F6 h => ?_
            refine V_iload_n dX7_readsOn_258 rfl rfl rfl ?_
            refine V_bipush dX7_readsOn_259 cb_59 rfl ?_
            refine A_icmp_eq dX7_readsOn_261 rfl rfl h (fun h => ?_) (fun h => ?_)
            · exact A_return dX7_readsOn_269 rfl h
            · refine V_aload_n dX7_readsOn_264 rfl rfl rfl ?_
              refine V_iconst dX7_readsOn_265 ci_1 rfl ?_
              refine A_callC (ci := 7) eU dX7_readsOn_266 cl_X7_93 (by decide) rfl rfl (As := [.int 1]) (st := []) rfl rfl (Nat.le_of_ble_eq_true rfl) rfl h (fun _ _ h => cp_X7_fails (d := d) h) fun _ F7 h => ?_
              exact A_return dX7_readsOn_269 rfl h
          · refine V_weak [true, false] rfl ?_
            exact okX7_readsOn_L140 _ _ h
        · refine V_weak [true, false] rfl ?_
          exact okX7_readsOn_L84 _ _ h
      · refine V_aload_n dX7_readsOn_62 rfl rfl rfl ?_
        refine V_iconst dX7_readsOn_63 ci_0 rfl ?_
        refine A_pn dX7_readsOn_64 fl_X7_72 rfl (Or.inl rfl) ly_82 rfl rfl h fun F8 h => ?_
        refine V_goto dX7_readsOn_67 rfl ?_
        exact A_return dX7_readsOn_269 rfl h
    · refine V_aload_n dX7_readsOn_21 rfl rfl rfl ?_
      refine V_dup dX7_readsOn_22 rfl rfl ?_
      refine F_getI dX7_readsOn_23 fl_X7_75 ly_82 rfl rfl ?_
      refine V_iconst dX7_readsOn_26 ci_1 rfl ?_
      refine V_iadd dX7_readsOn_27 rfl ?_
      refine A_pn dX7_readsOn_28 fl_X7_75 rfl (Or.inl rfl) ly_82 rfl rfl h fun F9 h => ?_
      refine V_goto dX7_readsOn_31 rfl ?_
      exact ih F9 h
theorem okX7_readsOn {N d : Nat} {F : FF} {res : Unit × FF} (h : fX7_readsOn N F = some res) : FV cX7_readsOn 2 RX7 (d + 1) none none 0 [.ref 82, .null] [] F (RU res) := by
  unfold fX7_readsOn at h
  refine V_aload_n dX7_readsOn_0 rfl rfl rfl ?_
  refine F_getI dX7_readsOn_1 fl_X7_63 ly_82 rfl rfl ?_
  refine A_if_le dX7_readsOn_4 rfl rfl h (fun h => ?_) (fun h => ?_)
  · exact okX7_readsOn_L8 _ _ h
  · exact A_return dX7_readsOn_7 rfl h
theorem cp_X7_readsOn {N d : Nat} {F F' : FF} {r : Unit} (h : fX7_readsOn N F = some (r, F')) : CP (d + 1) mX7_readsOn [.ref 82] F (fun r' F'' => r' = eU r ∧ F'' = F') := CP_U rfl (Nat.le_of_ble_eq_true rfl) (okX7_readsOn h)
theorem okX7_nameHere_b106 {N d : Nat} {k2 : Int32 → FF → Option (Int32 × FF)} {l1 : Int32} {l2 : Int32} {F : FF} {res : Int32 × FF} (hk2 : ∀ (x1 : Int32) (F : FF), k2 x1 F = some res → FV cX7_nameHere 4 RX7 (d + 1) (some .int) none 2 [.ref 82, .int x1, .null, .null] [] F (RI res)) (h : fX7_nameHere_b106 N k2 l1 l2 F = some res) : FV cX7_nameHere 4 RX7 (d + 1) (some .int) none 106 [.ref 82, .int l1, .int l2, .null] [] F (RI res) := by
  unfold fX7_nameHere_b106 at h
  refine V_iload_n dX7_nameHere_106 rfl rfl rfl ?_
  refine A_if_eq dX7_nameHere_107 rfl rfl h (fun h => ?_) (fun h => ?_)
  · refine V_iinc dX7_nameHere_112 (v := l1 + 1) rfl (by rw [ci_1]) rfl (ls' := [.ref 82, .int (l1 + 1), .int l2, .null]) rfl rfl ?_
    refine V_goto dX7_nameHere_115 rfl ?_
    refine V_weak [true, true, false, false] rfl ?_
    exact hk2 (l1 + 1) F h
  · refine V_iload_n dX7_nameHere_110 rfl rfl rfl ?_
    exact A_ireturn dX7_nameHere_111 rfl h
theorem okX7_nameHere_L51 {N d : Nat} {k2 : Int32 → FF → Option (Int32 × FF)} {l1 : Int32} {res : Int32 × FF} (hk2 : ∀ (x1 : Int32) (F : FF), k2 x1 F = some res → FV cX7_nameHere 4 RX7 (d + 1) (some .int) none 2 [.ref 82, .int x1, .null, .null] [] F (RI res)) : ∀ (n : Nat) (l2 : Int32) (l3 : Int32) (F : FF), fX7_nameHere_L51 N k2 l1 n l2 l3 F = some res → FV cX7_nameHere 4 RX7 (d + 1) (some .int) none 51 [.ref 82, .int l1, .int l2, .int l3] [] F (RI res) := by
  intro n
  induction n with
  | zero =>
    intro l2 l3 F h
    rw [fX7_nameHere_L51.eq_1] at h
    cases h
  | succ n ih =>
    intro l2 l3 F h
    rw [fX7_nameHere_L51.eq_2] at h
    refine V_iload_n dX7_nameHere_51 rfl rfl rfl ?_
    refine A_if_eq dX7_nameHere_52 rfl rfl h (fun h => ?_) (fun h => ?_)
    · refine V_weak [true, true, true, false] rfl ?_
      exact okX7_nameHere_b106 hk2 h
    · refine V_iload_n dX7_nameHere_55 rfl rfl rfl ?_
      refine V_aload_n dX7_nameHere_56 rfl rfl rfl ?_
      refine F_getI dX7_nameHere_57 fl_X7_75 ly_82 rfl rfl ?_
      refine V_aload_n dX7_nameHere_60 rfl rfl rfl ?_
      refine F_getI dX7_nameHere_61 fl_X7_66 ly_82 rfl rfl ?_
      refine V_isub dX7_nameHere_64 rfl ?_
      refine A_icmp_ge dX7_nameHere_65 rfl rfl h (fun h => ?_) (fun h => ?_)
      · refine V_weak [true, true, true, false] rfl ?_
        exact okX7_nameHere_b106 hk2 h
      · refine V_aload_n dX7_nameHere_68 rfl rfl rfl ?_
        refine V_aload_n dX7_nameHere_69 rfl rfl rfl ?_
        refine F_getI dX7_nameHere_70 fl_X7_66 ly_82 rfl rfl ?_
        refine V_iload_n dX7_nameHere_73 rfl rfl rfl ?_
        refine V_iadd dX7_nameHere_74 rfl ?_
        refine A_callC (ci := 7) eI dX7_nameHere_75 cl_X7_78 (by decide) rfl rfl (As := [.int ((F 82 12) + l3)]) (st := []) rfl rfl (Nat.le_of_ble_eq_true rfl) rfl h (fun _ _ h => cp_X7_byteAt (d := d) h) fun v1 F1 h => ?_
        refine V_aload_n dX7_nameHere_78 rfl rfl rfl ?_
        refine F_getR dX7_nameHere_79 fl_X7_26 ly_82 rfl rfl ?_
        refine V_aload_n dX7_nameHere_82 rfl rfl rfl ?_
        refine F_getR dX7_nameHere_83 fl_X7_23 ly_82 rfl rfl ?_
        refine V_iload_n dX7_nameHere_86 rfl rfl rfl ?_
        refine A_ld0 dX7_nameHere_87 rfl h fun v2 h => ?_
        refine V_iload_n dX7_nameHere_88 rfl rfl rfl ?_
        refine V_iadd dX7_nameHere_89 rfl ?_
        refine A_ld0 dX7_nameHere_90 rfl h fun v3 h => ?_
        refine V_midI (q := 99) ((if ¬ v1 = v3 then 0 else 1 : Int32)) [] (fun yJ hy hJ => ?_) ?_
        · refine V_icmp_ne dX7_nameHere_91 rfl rfl (fun c => ?_) (fun c => ?_)
          · rw [if_pos c] at hy
            refine V_iconst dX7_nameHere_98 ci_0 rfl ?_
            rw [hy] at hJ
            exact hJ
          · rw [if_neg (fun z => z c)] at hy
            refine V_iconst dX7_nameHere_94 ci_1 rfl ?_
            refine V_goto dX7_nameHere_95 rfl ?_
            rw [hy] at hJ
            exact hJ
        · refine V_istore_n dX7_nameHere_99 rfl (by decide) rfl (ls' := [.ref 82, .int l1, .int ((if ¬ v1 = v3 then 0 else 1 : Int32)), .int l3]) rfl rfl ?_
          refine V_iinc dX7_nameHere_100 (v := l3 + 1) rfl (by rw [ci_1]) rfl (ls' := [.ref 82, .int l1, .int ((if ¬ v1 = v3 then 0 else 1 : Int32)), .int (l3 + 1)]) rfl rfl ?_
          refine V_goto dX7_nameHere_103 rfl ?_
          exact ih ((if ¬ v1 = v3 then 0 else 1 : Int32)) (l3 + 1) F1 h
theorem okX7_nameHere_L2 {N d : Nat} {res : Int32 × FF} : ∀ (n : Nat) (l1 : Int32) (F : FF), fX7_nameHere_L2 N n l1 F = some res → FV cX7_nameHere 4 RX7 (d + 1) (some .int) none 2 [.ref 82, .int l1, .null, .null] [] F (RI res) := by
  intro n
  induction n with
  | zero =>
    intro l1 F h
    rw [fX7_nameHere_L2.eq_1] at h
    cases h
  | succ n ih =>
    intro l1 F h
    rw [fX7_nameHere_L2.eq_2] at h
    refine V_iload_n dX7_nameHere_2 rfl rfl rfl ?_
    refine V_bipush dX7_nameHere_3 cb_6 rfl ?_
    refine A_icmp_ge dX7_nameHere_5 rfl rfl h (fun h => ?_) (fun h => ?_)
    · refine V_bipush dX7_nameHere_118 cb_m4 rfl ?_
      exact A_ireturn dX7_nameHere_120 rfl h
    · refine V_aload_n dX7_nameHere_8 rfl rfl rfl ?_
      refine F_getI dX7_nameHere_9 fl_X7_72 ly_82 rfl rfl ?_
      refine V_iconst dX7_nameHere_12 ci_1 rfl ?_
      refine A_icmp_ne dX7_nameHere_13 rfl rfl h (fun h => ?_) (fun h => ?_)
      · refine V_bipush dX7_nameHere_118 cb_m4 rfl ?_
        exact A_ireturn dX7_nameHere_120 rfl h
      · refine V_aload_n dX7_nameHere_16 rfl rfl rfl ?_
        refine F_getI dX7_nameHere_17 fl_X7_75 ly_82 rfl rfl ?_
        refine V_aload_n dX7_nameHere_20 rfl rfl rfl ?_
        refine F_getI dX7_nameHere_21 fl_X7_66 ly_82 rfl rfl ?_
        refine V_isub dX7_nameHere_24 rfl ?_
        refine V_aload_n dX7_nameHere_25 rfl rfl rfl ?_
        refine F_getR dX7_nameHere_26 fl_X7_23 ly_82 rfl rfl ?_
        refine V_iload_n dX7_nameHere_29 rfl rfl rfl ?_
        refine V_iconst dX7_nameHere_30 ci_1 rfl ?_
        refine V_iadd dX7_nameHere_31 rfl ?_
        refine A_ld0 dX7_nameHere_32 rfl h fun v1 h => ?_
        refine V_aload_n dX7_nameHere_33 rfl rfl rfl ?_
        refine F_getR dX7_nameHere_34 fl_X7_23 ly_82 rfl rfl ?_
        refine V_iload_n dX7_nameHere_37 rfl rfl rfl ?_
        refine A_ld0 dX7_nameHere_38 rfl h fun v2 h => ?_
        refine V_isub dX7_nameHere_39 rfl ?_
        refine V_midI (q := 48) ((if ¬ ((F 82 11) - (F 82 12)) = (v1 - v2) then 0 else 1 : Int32)) [] (fun yJ hy hJ => ?_) ?_
        · refine V_icmp_ne dX7_nameHere_40 rfl rfl (fun c => ?_) (fun c => ?_)
          · rw [if_pos c] at hy
            refine V_iconst dX7_nameHere_47 ci_0 rfl ?_
            rw [hy] at hJ
            exact hJ
          · rw [if_neg (fun z => z c)] at hy
            refine V_iconst dX7_nameHere_43 ci_1 rfl ?_
            refine V_goto dX7_nameHere_44 rfl ?_
            rw [hy] at hJ
            exact hJ
        · refine V_istore_n dX7_nameHere_48 rfl (by decide) rfl (ls' := [.ref 82, .int l1, .int ((if ¬ ((F 82 11) - (F 82 12)) = (v1 - v2) then 0 else 1 : Int32)), .null]) rfl rfl ?_
          refine V_iconst dX7_nameHere_49 ci_0 rfl ?_
          refine V_istore_n dX7_nameHere_50 rfl (by decide) rfl (ls' := [.ref 82, .int l1, .int ((if ¬ ((F 82 11) - (F 82 12)) = (v1 - v2) then 0 else 1 : Int32)), .int 0]) rfl rfl ?_
          exact okX7_nameHere_L51 (fun x1 F h => ih x1 F h) _ _ _ _ h
theorem okX7_nameHere {N d : Nat} {F : FF} {res : Int32 × FF} (h : fX7_nameHere N F = some res) : FV cX7_nameHere 4 RX7 (d + 1) (some .int) none 0 [.ref 82, .null, .null, .null] [] F (RI res) := by
  unfold fX7_nameHere at h
  refine V_iconst dX7_nameHere_0 ci_0 rfl ?_
  refine V_istore_n dX7_nameHere_1 rfl (by decide) rfl (ls' := [.ref 82, .int 0, .null, .null]) rfl rfl ?_
  exact okX7_nameHere_L2 _ _ _ h
theorem cp_X7_nameHere {N d : Nat} {F F' : FF} {r : Int32} (h : fX7_nameHere N F = some (r, F')) : CP (d + 1) mX7_nameHere [.ref 82] F (fun r' F'' => r' = eI r ∧ F'' = F') := CP_I rfl (Nat.le_of_ble_eq_true rfl) (okX7_nameHere h)
theorem okX7_number_b47 {N d : Nat} {l1 : Int32} {F : FF} {res : Int32 × FF} (h : fX7_number_b47 N l1 F = some res) : FV cX7_number 4 RX7 (d + 2) (some .int) none 47 [.ref 82, .int l1, .null, .null] [] F (RI res) := by
  unfold fX7_number_b47 at h
  refine V_aload_n dX7_number_47 rfl rfl rfl ?_
  refine F_getI dX7_number_48 fl_X7_63 ly_82 rfl rfl ?_
  refine V_midI (q := 62) ((if ¬ (F 82 9) = 0 then l1 else (F 82 14) : Int32)) [] (fun yJ hy hJ => ?_) ?_
  · refine V_if_ne dX7_number_51 rfl rfl (fun c => ?_) (fun c => ?_)
    · rw [if_pos c] at hy
      refine V_iload_n dX7_number_61 rfl rfl rfl ?_
      rw [hy] at hJ
      exact hJ
    · rw [if_neg (fun z => z c)] at hy
      refine V_aload_n dX7_number_54 rfl rfl rfl ?_
      refine F_getI dX7_number_55 fl_X7_82 ly_82 rfl rfl ?_
      refine V_goto dX7_number_58 rfl ?_
      rw [hy] at hJ
      exact hJ
  · refine V_istore_n dX7_number_62 rfl (by decide) rfl (ls' := [.ref 82, .int l1, .null, .int ((if ¬ (F 82 9) = 0 then l1 else (F 82 14) : Int32))]) rfl rfl ?_
    refine V_aload_n dX7_number_63 rfl rfl rfl ?_
    refine A_callC (ci := 7) eU dX7_number_64 cl_X7_97 (by decide) rfl rfl (As := []) (st := []) rfl rfl (Nat.le_of_ble_eq_true rfl) rfl h (fun _ _ h => cp_X7_readsOn (d := d) h) fun _ F1 h => ?_
    refine V_iload_n dX7_number_67 rfl rfl rfl ?_
    exact A_ireturn dX7_number_68 rfl h
theorem okX7_number_b20 {N d : Nat} {l1 : Int32} {l2 : Int32} {F : FF} {res : Int32 × FF} (h : fX7_number_b20 N l1 l2 F = some res) : FV cX7_number 4 RX7 (d + 2) (some .int) none 20 [.ref 82, .int l1, .int l2, .null] [] F (RI res) := by
  unfold fX7_number_b20 at h
  refine V_aload_n dX7_number_20 rfl rfl rfl ?_
  refine F_getI dX7_number_21 fl_X7_63 ly_82 rfl rfl ?_
  refine A_if_ne dX7_number_24 rfl rfl h (fun h => ?_) (fun h => ?_)
  · refine V_weak [true, true, false, false] rfl ?_
    exact okX7_number_b47 h
  · refine V_aload_n dX7_number_27 rfl rfl rfl ?_
    refine F_getI dX7_number_28 fl_X7_82 ly_82 rfl rfl ?_
    refine V_i2l dX7_number_31 rfl ?_
    refine V_iload_n dX7_number_32 rfl rfl rfl ?_
    refine V_i2l dX7_number_33 rfl ?_
    refine V_iload_n dX7_number_34 rfl rfl rfl ?_
    refine V_i2l dX7_number_35 rfl ?_
    refine P_callS dX7_number_36 cl_X7_56 (cq_X7_in (d := d + 1)) (As := [.long ((F 82 14).toInt64), .long l1.toInt64, .long l2.toInt64]) (st := []) rfl rfl (Nat.le_of_ble_eq_true rfl) rfl ?_
    refine A_if_ne dX7_number_39 rfl rfl h (fun h => ?_) (fun h => ?_)
    · refine V_weak [true, true, false, false] rfl ?_
      exact okX7_number_b47 h
    · refine V_aload_n dX7_number_42 rfl rfl rfl ?_
      refine V_iconst dX7_number_43 ci_3 rfl ?_
      refine A_callC (ci := 7) eU dX7_number_44 cl_X7_93 (by decide) rfl rfl (As := [.int 3]) (st := []) rfl rfl (Nat.le_of_ble_eq_true rfl) rfl h (fun _ _ h => cp_X7_fails (d := d + 1) h) fun _ F1 h => ?_
      refine V_weak [true, true, false, false] rfl ?_
      exact okX7_number_b47 h
theorem okX7_number {N d : Nat} {l1 : Int32} {l2 : Int32} {F : FF} {res : Int32 × FF} (h : fX7_number N l1 l2 F = some res) : FV cX7_number 4 RX7 (d + 2) (some .int) none 0 [.ref 82, .int l1, .int l2, .null] [] F (RI res) := by
  unfold fX7_number at h
  refine V_aload_n dX7_number_0 rfl rfl rfl ?_
  refine F_getI dX7_number_1 fl_X7_63 ly_82 rfl rfl ?_
  refine A_if_ne dX7_number_4 rfl rfl h (fun h => ?_) (fun h => ?_)
  · exact okX7_number_b20 h
  · refine V_aload_n dX7_number_7 rfl rfl rfl ?_
    refine F_getI dX7_number_8 fl_X7_72 ly_82 rfl rfl ?_
    refine V_iconst dX7_number_11 ci_2 rfl ?_
    refine A_icmp_eq dX7_number_12 rfl rfl h (fun h => ?_) (fun h => ?_)
    · exact okX7_number_b20 h
    · refine V_aload_n dX7_number_15 rfl rfl rfl ?_
      refine V_iconst dX7_number_16 ci_2 rfl ?_
      refine A_callC (ci := 7) eU dX7_number_17 cl_X7_93 (by decide) rfl rfl (As := [.int 2]) (st := []) rfl rfl (Nat.le_of_ble_eq_true rfl) rfl h (fun _ _ h => cp_X7_fails (d := d + 1) h) fun _ F1 h => ?_
      exact okX7_number_b20 h
theorem cp_X7_number {N d : Nat} {l1 : Int32} {l2 : Int32} {F F' : FF} {r : Int32} (h : fX7_number N l1 l2 F = some (r, F')) : CP (d + 2) mX7_number [.ref 82, .int l1, .int l2] F (fun r' F'' => r' = eI r ∧ F'' = F') := CP_I rfl (Nat.le_of_ble_eq_true rfl) (okX7_number h)
theorem okX7_readWants_L0 {N d : Nat} {res : Unit × FF} : ∀ (n : Nat) (F : FF), fX7_readWants_L0 N n F = some res → FV cX7_readWants 3 RX7 (d + 3) none none 0 [.ref 82, .null, .null] [] F (RU res) := by
  intro n
  induction n with
  | zero =>
    intro F h
    rw [fX7_readWants_L0.eq_1] at h
    cases h
  | succ n ih =>
    intro F h
    rw [fX7_readWants_L0.eq_2] at h
    refine V_aload_n dX7_readWants_0 rfl rfl rfl ?_
    refine F_getI dX7_readWants_1 fl_X7_63 ly_82 rfl rfl ?_
    refine A_if_ne dX7_readWants_4 rfl rfl h (fun h => ?_) (fun h => ?_)
    · exact A_return dX7_readWants_86 rfl h
    · refine V_aload_n dX7_readWants_7 rfl rfl rfl ?_
      refine F_getI dX7_readWants_8 fl_X7_72 ly_82 rfl rfl ?_
      refine V_iconst dX7_readWants_11 ci_2 rfl ?_
      refine A_icmp_ne dX7_readWants_12 rfl rfl h (fun h => ?_) (fun h => ?_)
      · exact A_return dX7_readWants_86 rfl h
      · refine V_aload_n dX7_readWants_15 rfl rfl rfl ?_
        refine F_getR dX7_readWants_16 fl_X7_17 ly_82 rfl rfl ?_
        refine V_bipush dX7_readWants_19 cb_25 rfl ?_
        refine F_iald dX7_readWants_21 ly_84 (j := 25) (by decide) (by decide) (by decide) rfl ?_
        refine V_istore_n dX7_readWants_22 rfl (by decide) rfl (ls' := [.ref 82, .int (F 84 25), .null]) rfl rfl ?_
        refine V_iload_n dX7_readWants_23 rfl rfl rfl ?_
        refine V_bipush dX7_readWants_24 cb_16 rfl ?_
        refine A_icmp_ne dX7_readWants_26 rfl rfl h (fun h => ?_) (fun h => ?_)
        · refine V_aload_n dX7_readWants_35 rfl rfl rfl ?_
          refine V_iconst dX7_readWants_36 ci_0 rfl ?_
          refine V_iconst dX7_readWants_37 ci_5 rfl ?_
          refine A_callC (ci := 7) eI dX7_readWants_38 cl_X7_100 (by decide) rfl rfl (As := [.int 0, .int 5]) (st := []) rfl rfl (Nat.le_of_ble_eq_true rfl) rfl h (fun _ _ h => cp_X7_number (d := d) h) fun v1 F1 h => ?_
          refine V_istore_n dX7_readWants_41 rfl (by decide) rfl (ls' := [.ref 82, .int (F 84 25), .int v1]) rfl rfl ?_
          refine V_aload_n dX7_readWants_42 rfl rfl rfl ?_
          refine V_iload_n dX7_readWants_43 rfl rfl rfl ?_
          refine V_aload_n dX7_readWants_44 rfl rfl rfl ?_
          refine F_getI dX7_readWants_45 fl_X7_104 ly_82 rfl rfl ?_
          refine V_midI (q := 59) ((if v1 ≤ (F1 82 5) then (F1 82 5) else v1 : Int32)) [.ref 82] (fun yJ hy hJ => ?_) ?_
          · refine V_icmp_le dX7_readWants_48 rfl rfl (fun c => ?_) (fun c => ?_)
            · rw [if_pos c] at hy
              refine V_aload_n dX7_readWants_55 rfl rfl rfl ?_
              refine F_getI dX7_readWants_56 fl_X7_104 ly_82 rfl rfl ?_
              rw [hy] at hJ
              exact hJ
            · rw [if_neg c] at hy
              refine V_iload_n dX7_readWants_51 rfl rfl rfl ?_
              refine V_goto dX7_readWants_52 rfl ?_
              rw [hy] at hJ
              exact hJ
          · refine A_pn dX7_readWants_59 fl_X7_104 rfl (Or.inl rfl) ly_82 rfl rfl h fun F2 h => ?_
            refine V_aload_n dX7_readWants_62 rfl rfl rfl ?_
            refine F_getR dX7_readWants_63 fl_X7_17 ly_82 rfl rfl ?_
            refine V_bipush dX7_readWants_66 cb_9 rfl ?_
            refine V_iload_n dX7_readWants_68 rfl rfl rfl ?_
            refine V_iadd dX7_readWants_69 rfl ?_
            refine V_iload_n dX7_readWants_70 rfl rfl rfl ?_
            refine A_st0 dX7_readWants_71 rfl h fun F3 h => ?_
            refine V_aload_n dX7_readWants_72 rfl rfl rfl ?_
            refine F_getR dX7_readWants_73 fl_X7_17 ly_82 rfl rfl ?_
            refine V_bipush dX7_readWants_76 cb_25 rfl ?_
            refine V_dup2 dX7_readWants_78 rfl rfl rfl ?_
            refine F_iald dX7_readWants_79 ly_84 (j := 25) (by decide) (by decide) (by decide) rfl ?_
            refine V_iconst dX7_readWants_80 ci_1 rfl ?_
            refine V_iadd dX7_readWants_81 rfl ?_
            refine A_sn0 (j := 25) dX7_readWants_82 ly_84 (by decide) (by decide) (by decide) rfl h fun F4 h => ?_
            refine V_goto dX7_readWants_83 rfl ?_
            refine V_weak [true, false, false] rfl ?_
            exact ih F4 h
        · refine V_aload_n dX7_readWants_29 rfl rfl rfl ?_
          refine V_iconst dX7_readWants_30 ci_5 rfl ?_
          refine A_callC (ci := 7) eU dX7_readWants_31 cl_X7_93 (by decide) rfl rfl (As := [.int 5]) (st := []) rfl rfl (Nat.le_of_ble_eq_true rfl) rfl h (fun _ _ h => cp_X7_fails (d := d + 2) h) fun _ F5 h => ?_
          exact A_return dX7_readWants_34 rfl h
theorem cp_X7_readWants {N d : Nat} {F F' : FF} {r : Unit} (h : fX7_readWants N F = some (r, F')) : CP (d + 3) mX7_readWants [.ref 82] F (fun r' F'' => r' = eU r ∧ F'' = F') := CP_U rfl (Nat.le_of_ble_eq_true rfl) (okX7_readWants_L0 _ _ h)
theorem okX7_readMore {N d : Nat} {l1 : Int32} {F : FF} {res : Unit × FF} (h : fX7_readMore N l1 F = some res) : FV cX7_readMore 2 RX7 (d + 4) none none 0 [.ref 82, .int l1] [] F (RU res) := by
  unfold fX7_readMore at h
  refine V_iload_n dX7_readMore_0 rfl rfl rfl ?_
  refine V_iconst dX7_readMore_1 ci_3 rfl ?_
  refine A_icmp_gt dX7_readMore_2 rfl rfl h (fun h => ?_) (fun h => ?_)
  · refine V_iload_n dX7_readMore_32 rfl rfl rfl ?_
    refine V_iconst dX7_readMore_33 ci_4 rfl ?_
    refine A_icmp_ne dX7_readMore_34 rfl rfl h (fun h => ?_) (fun h => ?_)
    · refine V_aload_n dX7_readMore_51 rfl rfl rfl ?_
      refine A_callC (ci := 7) eU dX7_readMore_52 cl_X7_110 (by decide) rfl rfl (As := []) (st := []) rfl rfl (Nat.le_of_ble_eq_true rfl) rfl h (fun _ _ h => cp_X7_readWants (d := d) h) fun _ F1 h => ?_
      exact A_return dX7_readMore_55 rfl h
    · refine V_aload_n dX7_readMore_37 rfl rfl rfl ?_
      refine V_aload_n dX7_readMore_38 rfl rfl rfl ?_
      refine V_iconst dX7_readMore_39 ci_1 rfl ?_
      refine V_bipush dX7_readMore_40 cb_6 rfl ?_
      refine A_callC (ci := 7) eI dX7_readMore_42 cl_X7_100 (by decide) rfl rfl (As := [.int 1, .int 6]) (st := [.ref 82]) rfl rfl (Nat.le_of_ble_eq_true rfl) rfl h (fun _ _ h => cp_X7_number (d := d + 1) h) fun v1 F2 h => ?_
      refine A_pn dX7_readMore_45 fl_X7_107 rfl (Or.inl rfl) ly_82 rfl rfl h fun F3 h => ?_
      refine V_goto dX7_readMore_48 rfl ?_
      exact A_return dX7_readMore_55 rfl h
  · refine V_aload_n dX7_readMore_5 rfl rfl rfl ?_
    refine F_getR dX7_readMore_6 fl_X7_17 ly_82 rfl rfl ?_
    refine V_aload_n dX7_readMore_9 rfl rfl rfl ?_
    refine F_getR dX7_readMore_10 fl_X7_17 ly_82 rfl rfl ?_
    refine V_bipush dX7_readMore_13 cb_8 rfl ?_
    refine F_iald dX7_readMore_15 ly_84 (j := 8) (by decide) (by decide) (by decide) rfl ?_
    refine V_iload_n dX7_readMore_16 rfl rfl rfl ?_
    refine A_st0 dX7_readMore_17 rfl h fun F4 h => ?_
    refine V_aload_n dX7_readMore_18 rfl rfl rfl ?_
    refine F_getR dX7_readMore_19 fl_X7_17 ly_82 rfl rfl ?_
    refine V_bipush dX7_readMore_22 cb_8 rfl ?_
    refine V_dup2 dX7_readMore_24 rfl rfl rfl ?_
    refine F_iald dX7_readMore_25 ly_84 (j := 8) (by decide) (by decide) (by decide) rfl ?_
    refine V_iconst dX7_readMore_26 ci_1 rfl ?_
    refine V_iadd dX7_readMore_27 rfl ?_
    refine A_sn0 (j := 8) dX7_readMore_28 ly_84 (by decide) (by decide) (by decide) rfl h fun F5 h => ?_
    refine V_goto dX7_readMore_29 rfl ?_
    exact A_return dX7_readMore_55 rfl h
theorem cp_X7_readMore {N d : Nat} {l1 : Int32} {F F' : FF} {r : Unit} (h : fX7_readMore N l1 F = some (r, F')) : CP (d + 4) mX7_readMore [.ref 82, .int l1] F (fun r' F'' => r' = eU r ∧ F'' = F') := CP_U rfl (Nat.le_of_ble_eq_true rfl) (okX7_readMore h)
theorem okX7_readLine_b119 {N d : Nat} {F : FF} {res : Unit × FF} (h : fX7_readLine_b119 N F = some res) : FV cX7_readLine 2 RX7 (d + 5) none none 119 [.ref 82, .null] [] F (RU res) := by
  unfold fX7_readLine_b119 at h
  refine V_aload_n dX7_readLine_119 rfl rfl rfl ?_
  refine A_callC (ci := 7) eU dX7_readLine_120 cl_X7_97 (by decide) rfl rfl (As := []) (st := []) rfl rfl (Nat.le_of_ble_eq_true rfl) rfl h (fun _ _ h => cp_X7_readsOn (d := d + 3) h) fun _ F1 h => ?_
  exact A_return dX7_readLine_123 rfl h
theorem okX7_readLine_b61 {N d : Nat} {l1 : Int32} {F : FF} {res : Unit × FF} (h : fX7_readLine_b61 N l1 F = some res) : FV cX7_readLine 2 RX7 (d + 5) none none 61 [.ref 82, .int l1] [] F (RU res) := by
  unfold fX7_readLine_b61 at h
  refine V_aload_n dX7_readLine_61 rfl rfl rfl ?_
  refine V_aload_n dX7_readLine_62 rfl rfl rfl ?_
  refine F_getI dX7_readLine_63 fl_X7_119 ly_82 rfl rfl ?_
  refine V_midI (q := 79) ((if ¬ (F 82 4) = 0 then 1 else (if ¬ l1 = 4 then 0 else 1) : Int32)) [.ref 82] (fun yJ hy hJ => ?_) ?_
  · refine V_if_ne dX7_readLine_66 rfl rfl (fun c => ?_) (fun c => ?_)
    · rw [if_pos c] at hy
      refine V_iconst dX7_readLine_74 ci_1 rfl ?_
      refine V_goto dX7_readLine_75 rfl ?_
      rw [hy] at hJ
      exact hJ
    · rw [if_neg (fun z => z c)] at hy
      refine V_iload_n dX7_readLine_69 rfl rfl rfl ?_
      refine V_iconst dX7_readLine_70 ci_4 rfl ?_
      refine V_icmp_ne dX7_readLine_71 rfl rfl (fun c => ?_) (fun c => ?_)
      · rw [if_pos c] at hy
        refine V_iconst dX7_readLine_78 ci_0 rfl ?_
        rw [hy] at hJ
        exact hJ
      · rw [if_neg (fun z => z c)] at hy
        refine V_iconst dX7_readLine_74 ci_1 rfl ?_
        refine V_goto dX7_readLine_75 rfl ?_
        rw [hy] at hJ
        exact hJ
  · refine A_pZ dX7_readLine_79 fl_X7_119 rfl rfl rfl h fun F1 h => ?_
    refine V_aload_n dX7_readLine_82 rfl rfl rfl ?_
    refine A_callC (ci := 7) eU dX7_readLine_83 cl_X7_97 (by decide) rfl rfl (As := []) (st := []) rfl rfl (Nat.le_of_ble_eq_true rfl) rfl h (fun _ _ h => cp_X7_readsOn (d := d + 3) h) fun _ F2 h => ?_
    refine V_aload_n dX7_readLine_86 rfl rfl rfl ?_
    refine F_getI dX7_readLine_87 fl_X7_63 ly_82 rfl rfl ?_
    refine A_if_le dX7_readLine_90 rfl rfl h (fun h => ?_) (fun h => ?_)
    · refine V_aload_n dX7_readLine_94 rfl rfl rfl ?_
      refine V_iload_n dX7_readLine_95 rfl rfl rfl ?_
      refine A_callC (ci := 7) eU dX7_readLine_96 cl_X7_123 (by decide) rfl rfl (As := [.int l1]) (st := []) rfl rfl (Nat.le_of_ble_eq_true rfl) rfl h (fun _ _ h => cp_X7_readMore (d := d) h) fun _ F3 h => ?_
      refine V_aload_n dX7_readLine_99 rfl rfl rfl ?_
      refine F_getI dX7_readLine_100 fl_X7_63 ly_82 rfl rfl ?_
      refine A_if_ne dX7_readLine_103 rfl rfl h (fun h => ?_) (fun h => ?_)
      · refine V_weak [true, false] rfl ?_
        exact okX7_readLine_b119 h
      · refine V_aload_n dX7_readLine_106 rfl rfl rfl ?_
        refine F_getI dX7_readLine_107 fl_X7_72 ly_82 rfl rfl ?_
        refine V_iconst dX7_readLine_110 ci_3 rfl ?_
        refine A_icmp_eq dX7_readLine_111 rfl rfl h (fun h => ?_) (fun h => ?_)
        · refine V_weak [true, false] rfl ?_
          exact okX7_readLine_b119 h
        · refine V_aload_n dX7_readLine_114 rfl rfl rfl ?_
          refine V_iconst dX7_readLine_115 ci_2 rfl ?_
          refine A_callC (ci := 7) eU dX7_readLine_116 cl_X7_93 (by decide) rfl rfl (As := [.int 2]) (st := []) rfl rfl (Nat.le_of_ble_eq_true rfl) rfl h (fun _ _ h => cp_X7_fails (d := d + 4) h) fun _ F4 h => ?_
          refine V_weak [true, false] rfl ?_
          exact okX7_readLine_b119 h
    · exact A_return dX7_readLine_93 rfl h
theorem okX7_readLine_b44 {N d : Nat} {l1 : Int32} {F : FF} {res : Unit × FF} (h : fX7_readLine_b44 N l1 F = some res) : FV cX7_readLine 2 RX7 (d + 5) none none 44 [.ref 82, .int l1] [] F (RU res) := by
  unfold fX7_readLine_b44 at h
  refine V_iload_n dX7_readLine_44 rfl rfl rfl ?_
  refine V_iconst dX7_readLine_45 ci_4 rfl ?_
  refine A_icmp_ne dX7_readLine_46 rfl rfl h (fun h => ?_) (fun h => ?_)
  · exact okX7_readLine_b61 h
  · refine V_aload_n dX7_readLine_49 rfl rfl rfl ?_
    refine F_getI dX7_readLine_50 fl_X7_119 ly_82 rfl rfl ?_
    refine A_if_eq dX7_readLine_53 rfl rfl h (fun h => ?_) (fun h => ?_)
    · exact okX7_readLine_b61 h
    · refine V_aload_n dX7_readLine_56 rfl rfl rfl ?_
      refine V_iconst dX7_readLine_57 ci_4 rfl ?_
      refine A_callC (ci := 7) eU dX7_readLine_58 cl_X7_93 (by decide) rfl rfl (As := [.int 4]) (st := []) rfl rfl (Nat.le_of_ble_eq_true rfl) rfl h (fun _ _ h => cp_X7_fails (d := d + 4) h) fun _ F1 h => ?_
      exact okX7_readLine_b61 h
theorem okX7_readLine {N d : Nat} {F : FF} {res : Unit × FF} (h : fX7_readLine N F = some res) : FV cX7_readLine 2 RX7 (d + 5) none none 0 [.ref 82, .null] [] F (RU res) := by
  unfold fX7_readLine at h
  refine V_aload_n dX7_readLine_0 rfl rfl rfl ?_
  refine A_callC (ci := 7) eI dX7_readLine_1 cl_X7_113 (by decide) rfl rfl (As := []) (st := []) rfl rfl (Nat.le_of_ble_eq_true rfl) rfl h (fun _ _ h => cp_X7_nameHere (d := d + 3) h) fun v1 F1 h => ?_
  refine V_istore_n dX7_readLine_4 rfl (by decide) rfl (ls' := [.ref 82, .int v1]) rfl rfl ?_
  refine V_iload_n dX7_readLine_5 rfl rfl rfl ?_
  refine V_i2l dX7_readLine_6 rfl ?_
  refine V_lconst dX7_readLine_7 cl_0 rfl ?_
  refine V_ldc2 dX7_readLine_8 kc_X7_117 rfl ?_
  refine P_callS dX7_readLine_11 cl_X7_56 (cq_X7_in (d := d + 4)) (As := [.long v1.toInt64, .long 0, .long 5]) (st := []) rfl rfl (Nat.le_of_ble_eq_true rfl) rfl ?_
  refine A_if_ne dX7_readLine_14 rfl rfl h (fun h => ?_) (fun h => ?_)
  · refine V_iload_n dX7_readLine_23 rfl rfl rfl ?_
    refine V_iconst dX7_readLine_24 ci_3 rfl ?_
    refine A_icmp_gt dX7_readLine_25 rfl rfl h (fun h => ?_) (fun h => ?_)
    · exact okX7_readLine_b44 h
    · refine V_aload_n dX7_readLine_28 rfl rfl rfl ?_
      refine F_getR dX7_readLine_29 fl_X7_17 ly_82 rfl rfl ?_
      refine V_bipush dX7_readLine_32 cb_8 rfl ?_
      refine F_iald dX7_readLine_34 ly_84 (j := 8) (by decide) (by decide) (by decide) rfl ?_
      refine V_iconst dX7_readLine_35 ci_4 rfl ?_
      refine A_icmp_ne dX7_readLine_36 rfl rfl h (fun h => ?_) (fun h => ?_)
      · exact okX7_readLine_b44 h
      · refine V_aload_n dX7_readLine_39 rfl rfl rfl ?_
        refine V_iconst dX7_readLine_40 ci_5 rfl ?_
        refine A_callC (ci := 7) eU dX7_readLine_41 cl_X7_93 (by decide) rfl rfl (As := [.int 5]) (st := []) rfl rfl (Nat.le_of_ble_eq_true rfl) rfl h (fun _ _ h => cp_X7_fails (d := d + 4) h) fun _ F2 h => ?_
        exact okX7_readLine_b44 h
  · refine V_aload_n dX7_readLine_17 rfl rfl rfl ?_
    refine V_iconst dX7_readLine_18 ci_2 rfl ?_
    refine A_callC (ci := 7) eU dX7_readLine_19 cl_X7_93 (by decide) rfl rfl (As := [.int 2]) (st := []) rfl rfl (Nat.le_of_ble_eq_true rfl) rfl h (fun _ _ h => cp_X7_fails (d := d + 4) h) fun _ F3 h => ?_
    exact A_return dX7_readLine_22 rfl h
theorem cp_X7_readLine {N d : Nat} {F F' : FF} {r : Unit} (h : fX7_readLine N F = some (r, F')) : CP (d + 5) mX7_readLine [.ref 82] F (fun r' F'' => r' = eU r ∧ F'' = F') := CP_U rfl (Nat.le_of_ble_eq_true rfl) (okX7_readLine h)
theorem okX7_ordersFirst_L2 {N d : Nat} {l1 : Int32} {res : Unit × FF} : ∀ (n : Nat) (l2 : Int32) (F : FF), fX7_ordersFirst_L2 N l1 n l2 F = some res → FV cX7_ordersFirst 3 RX7 (d) none none 2 [.ref 82, .int l1, .int l2] [] F (RU res) := by
  intro n
  induction n with
  | zero =>
    intro l2 F h
    rw [fX7_ordersFirst_L2.eq_1] at h
    cases h
  | succ n ih =>
    intro l2 F h
    rw [fX7_ordersFirst_L2.eq_2] at h
    refine V_iload_n dX7_ordersFirst_2 rfl rfl rfl ?_
    refine V_bipush dX7_ordersFirst_3 cb_6 rfl ?_
    refine A_icmp_ge dX7_ordersFirst_5 rfl rfl h (fun h => ?_) (fun h => ?_)
    · refine V_aload_n dX7_ordersFirst_44 rfl rfl rfl ?_
      refine F_getR dX7_ordersFirst_45 fl_X7_7 ly_82 rfl rfl ?_
      refine V_iconst dX7_ordersFirst_48 ci_4 rfl ?_
      refine V_iload_n dX7_ordersFirst_49 rfl rfl rfl ?_
      refine V_iadd dX7_ordersFirst_50 rfl ?_
      refine V_iconst dX7_ordersFirst_51 ci_0 rfl ?_
      refine A_st0 dX7_ordersFirst_52 rfl h fun F1 h => ?_
      exact A_return dX7_ordersFirst_53 rfl h
    · refine V_aload_n dX7_ordersFirst_8 rfl rfl rfl ?_
      refine F_getR dX7_ordersFirst_9 fl_X7_7 ly_82 rfl rfl ?_
      refine V_bipush dX7_ordersFirst_12 cb_27 rfl ?_
      refine V_bipush dX7_ordersFirst_14 cb_6 rfl ?_
      refine V_iload_n dX7_ordersFirst_16 rfl rfl rfl ?_
      refine V_imul dX7_ordersFirst_17 rfl ?_
      refine V_iadd dX7_ordersFirst_18 rfl ?_
      refine V_iload_n dX7_ordersFirst_19 rfl rfl rfl ?_
      refine V_iadd dX7_ordersFirst_20 rfl ?_
      refine V_iload_n dX7_ordersFirst_21 rfl rfl rfl ?_
      refine A_st0 dX7_ordersFirst_22 rfl h fun F2 h => ?_
      refine V_aload_n dX7_ordersFirst_23 rfl rfl rfl ?_
      refine F_getR dX7_ordersFirst_24 fl_X7_7 ly_82 rfl rfl ?_
      refine V_bipush dX7_ordersFirst_27 cb_51 rfl ?_
      refine V_bipush dX7_ordersFirst_29 cb_6 rfl ?_
      refine V_iload_n dX7_ordersFirst_31 rfl rfl rfl ?_
      refine V_imul dX7_ordersFirst_32 rfl ?_
      refine V_iadd dX7_ordersFirst_33 rfl ?_
      refine V_iload_n dX7_ordersFirst_34 rfl rfl rfl ?_
      refine V_iadd dX7_ordersFirst_35 rfl ?_
      refine V_iconst dX7_ordersFirst_36 ci_0 rfl ?_
      refine A_st0 dX7_ordersFirst_37 rfl h fun F3 h => ?_
      refine V_iinc dX7_ordersFirst_38 (v := l2 + 1) rfl (by rw [ci_1]) rfl (ls' := [.ref 82, .int l1, .int (l2 + 1)]) rfl rfl ?_
      refine V_goto dX7_ordersFirst_41 rfl ?_
      exact ih (l2 + 1) F3 h
theorem okX7_ordersFirst {N d : Nat} {l1 : Int32} {F : FF} {res : Unit × FF} (h : fX7_ordersFirst N l1 F = some res) : FV cX7_ordersFirst 3 RX7 (d) none none 0 [.ref 82, .int l1, .null] [] F (RU res) := by
  unfold fX7_ordersFirst at h
  refine V_iconst dX7_ordersFirst_0 ci_0 rfl ?_
  refine V_istore_n dX7_ordersFirst_1 rfl (by decide) rfl (ls' := [.ref 82, .int l1, .int 0]) rfl rfl ?_
  exact okX7_ordersFirst_L2 _ _ _ h
theorem cp_X7_ordersFirst {N d : Nat} {l1 : Int32} {F F' : FF} {r : Unit} (h : fX7_ordersFirst N l1 F = some (r, F')) : CP (d) mX7_ordersFirst [.ref 82, .int l1] F (fun r' F'' => r' = eU r ∧ F'' = F') := CP_U rfl (Nat.le_of_ble_eq_true rfl) (okX7_ordersFirst h)
theorem okX7_text_L164 {N d : Nat} {l1 : Int32} {res : Int32 × FF} : ∀ (n : Nat) (l2 : Int32) (F : FF), fX7_text_L164 N l1 n l2 F = some res → FV cX7_text 3 RX7 (d + 6) (some .int) none 164 [.ref 82, .int l1, .int l2] [] F (RI res) := by
  intro n
  induction n with
  | zero =>
    intro l2 F h
    rw [fX7_text_L164.eq_1] at h
    cases h
  | succ n ih =>
    intro l2 F h
    rw [fX7_text_L164.eq_2] at h
    refine V_iload_n dX7_text_164 rfl rfl rfl ?_
    refine V_aload_n dX7_text_165 rfl rfl rfl ?_
    refine F_getR dX7_text_166 fl_X7_7 ly_82 rfl rfl ?_
    refine V_bipush dX7_text_169 cb_8 rfl ?_
    refine F_iald dX7_text_171 ly_83 (j := 8) (by decide) (by decide) (by decide) rfl ?_
    refine A_icmp_ge dX7_text_172 rfl rfl h (fun h => ?_) (fun h => ?_)
    · refine V_aload_n dX7_text_186 rfl rfl rfl ?_
      refine V_iconst dX7_text_187 ci_0 rfl ?_
      refine A_pn dX7_text_188 fl_X7_135 rfl (Or.inl rfl) ly_82 rfl rfl h fun F1 h => ?_
      refine V_aload_n dX7_text_191 rfl rfl rfl ?_
      refine F_getR dX7_text_192 fl_X7_41 ly_82 rfl rfl ?_
      refine V_iconst dX7_text_195 ci_0 rfl ?_
      refine V_iconst dX7_text_196 ci_0 rfl ?_
      refine A_sn2 (j := 0) dX7_text_197 ly_91 (by decide) (by decide) (by decide) (by decide) rfl h fun F2 h => ?_
      refine V_aload_n dX7_text_198 rfl rfl rfl ?_
      refine F_getR dX7_text_199 fl_X7_41 ly_82 rfl rfl ?_
      refine V_iconst dX7_text_202 ci_1 rfl ?_
      refine V_iconst dX7_text_203 ci_0 rfl ?_
      refine A_sn2 (j := 1) dX7_text_204 ly_91 (by decide) (by decide) (by decide) (by decide) rfl h fun F3 h => ?_
      refine V_iload_n dX7_text_205 rfl rfl rfl ?_
      exact A_ireturn dX7_text_206 rfl h
    · refine V_aload_n dX7_text_175 rfl rfl rfl ?_
      refine V_iload_n dX7_text_176 rfl rfl rfl ?_
      refine A_callC (ci := 7) eU dX7_text_177 cl_X7_132 (by decide) rfl rfl (As := [.int l2]) (st := []) rfl rfl (Nat.le_of_ble_eq_true rfl) rfl h (fun _ _ h => cp_X7_ordersFirst (d := d + 5) h) fun _ F4 h => ?_
      refine V_iinc dX7_text_180 (v := l2 + 1) rfl (by rw [ci_1]) rfl (ls' := [.ref 82, .int l1, .int (l2 + 1)]) rfl rfl ?_
      refine V_goto dX7_text_183 rfl ?_
      exact ih (l2 + 1) F4 h
theorem okX7_text_L130 {N d : Nat} {l1 : Int32} {res : Int32 × FF} : ∀ (n : Nat) (l2 : Int32) (F : FF), fX7_text_L130 N l1 n l2 F = some res → FV cX7_text 3 RX7 (d + 6) (some .int) none 130 [.ref 82, .int l1, .int l2] [] F (RI res) := by
  intro n
  induction n with
  | zero =>
    intro l2 F h
    rw [fX7_text_L130.eq_1] at h
    cases h
  | succ n ih =>
    intro l2 F h
    rw [fX7_text_L130.eq_2] at h
    refine V_iload_n dX7_text_130 rfl rfl rfl ?_
    refine V_bipush dX7_text_131 cb_75 rfl ?_
    refine A_icmp_ge dX7_text_133 rfl rfl h (fun h => ?_) (fun h => ?_)
    · refine V_aload_n dX7_text_154 rfl rfl rfl ?_
      refine V_aload_n dX7_text_155 rfl rfl rfl ?_
      refine F_getI dX7_text_156 fl_X7_107 ly_82 rfl rfl ?_
      refine A_pn dX7_text_159 fl_X7_13 rfl (Or.inl rfl) ly_82 rfl rfl h fun F1 h => ?_
      refine V_iconst dX7_text_162 ci_0 rfl ?_
      refine V_istore_n dX7_text_163 rfl (by decide) rfl (ls' := [.ref 82, .int l1, .int 0]) rfl rfl ?_
      exact okX7_text_L164 _ _ _ h
    · refine V_aload_n dX7_text_136 rfl rfl rfl ?_
      refine F_getR dX7_text_137 fl_X7_7 ly_82 rfl rfl ?_
      refine V_iload_n dX7_text_140 rfl rfl rfl ?_
      refine V_aload_n dX7_text_141 rfl rfl rfl ?_
      refine F_getR dX7_text_142 fl_X7_17 ly_82 rfl rfl ?_
      refine V_iload_n dX7_text_145 rfl rfl rfl ?_
      refine A_ld0 dX7_text_146 rfl h fun v1 h => ?_
      refine A_st0 dX7_text_147 rfl h fun F2 h => ?_
      refine V_iinc dX7_text_148 (v := l2 + 1) rfl (by rw [ci_1]) rfl (ls' := [.ref 82, .int l1, .int (l2 + 1)]) rfl rfl ?_
      refine V_goto dX7_text_151 rfl ?_
      exact ih (l2 + 1) F2 h
theorem okX7_text_b100 {N d : Nat} {l1 : Int32} {F : FF} {res : Int32 × FF} (h : fX7_text_b100 N l1 F = some res) : FV cX7_text 3 RX7 (d + 6) (some .int) none 100 [.ref 82, .int l1, .null] [] F (RI res) := by
  unfold fX7_text_b100 at h
  refine V_aload_n dX7_text_100 rfl rfl rfl ?_
  refine V_iconst dX7_text_101 ci_0 rfl ?_
  refine A_pn dX7_text_102 fl_X7_60 rfl (Or.inl rfl) ly_82 rfl rfl h fun F1 h => ?_
  refine V_aload_n dX7_text_105 rfl rfl rfl ?_
  refine V_aload_n dX7_text_106 rfl rfl rfl ?_
  refine F_getI dX7_text_107 fl_X7_63 ly_82 rfl rfl ?_
  refine A_pn dX7_text_110 fl_X7_129 rfl (Or.inl rfl) ly_82 rfl rfl h fun F2 h => ?_
  refine V_aload_n dX7_text_113 rfl rfl rfl ?_
  refine F_getI dX7_text_114 fl_X7_63 ly_82 rfl rfl ?_
  refine A_if_le dX7_text_117 rfl rfl h (fun h => ?_) (fun h => ?_)
  · refine V_iconst dX7_text_128 ci_0 rfl ?_
    refine V_istore_n dX7_text_129 rfl (by decide) rfl (ls' := [.ref 82, .int l1, .int 0]) rfl rfl ?_
    exact okX7_text_L130 _ _ _ h
  · refine V_bipush dX7_text_120 cb_m10 rfl ?_
    refine V_aload_n dX7_text_122 rfl rfl rfl ?_
    refine F_getI dX7_text_123 fl_X7_69 ly_82 rfl rfl ?_
    refine V_isub dX7_text_126 rfl ?_
    exact A_ireturn dX7_text_127 rfl h
theorem okX7_text_b76 {N d : Nat} {l1 : Int32} {F : FF} {res : Int32 × FF} (h : fX7_text_b76 N l1 F = some res) : FV cX7_text 3 RX7 (d + 6) (some .int) none 76 [.ref 82, .int l1, .null] [] F (RI res) := by
  unfold fX7_text_b76 at h
  refine V_aload_n dX7_text_76 rfl rfl rfl ?_
  refine F_getI dX7_text_77 fl_X7_63 ly_82 rfl rfl ?_
  refine A_if_ne dX7_text_80 rfl rfl h (fun h => ?_) (fun h => ?_)
  · exact okX7_text_b100 h
  · refine V_aload_n dX7_text_83 rfl rfl rfl ?_
    refine F_getI dX7_text_84 fl_X7_104 ly_82 rfl rfl ?_
    refine V_aload_n dX7_text_87 rfl rfl rfl ?_
    refine F_getI dX7_text_88 fl_X7_107 ly_82 rfl rfl ?_
    refine A_icmp_lt dX7_text_91 rfl rfl h (fun h => ?_) (fun h => ?_)
    · exact okX7_text_b100 h
    · refine V_aload_n dX7_text_94 rfl rfl rfl ?_
      refine V_bipush dX7_text_95 cb_6 rfl ?_
      refine A_callC (ci := 7) eU dX7_text_97 cl_X7_93 (by decide) rfl rfl (As := [.int 6]) (st := []) rfl rfl (Nat.le_of_ble_eq_true rfl) rfl h (fun _ _ h => cp_X7_fails (d := d + 5) h) fun _ F1 h => ?_
      exact okX7_text_b100 h
theorem okX7_text_L52 {N d : Nat} {res : Int32 × FF} : ∀ (n : Nat) (l1 : Int32) (F : FF), fX7_text_L52 N n l1 F = some res → FV cX7_text 3 RX7 (d + 6) (some .int) none 52 [.ref 82, .int l1, .null] [] F (RI res) := by
  intro n
  induction n with
  | zero =>
    intro l1 F h
    rw [fX7_text_L52.eq_1] at h
    cases h
  | succ n ih =>
    intro l1 F h
    rw [fX7_text_L52.eq_2] at h
    refine V_aload_n dX7_text_52 rfl rfl rfl ?_
    refine F_getI dX7_text_53 fl_X7_63 ly_82 rfl rfl ?_
    refine A_if_ne dX7_text_56 rfl rfl h (fun h => ?_) (fun h => ?_)
    · exact okX7_text_b76 h
    · refine V_aload_n dX7_text_59 rfl rfl rfl ?_
      refine F_getI dX7_text_60 fl_X7_72 ly_82 rfl rfl ?_
      refine A_if_eq dX7_text_63 rfl rfl h (fun h => ?_) (fun h => ?_)
      · exact okX7_text_b76 h
      · refine V_aload_n dX7_text_66 rfl rfl rfl ?_
        refine A_callC (ci := 7) eU dX7_text_67 cl_X7_126 (by decide) rfl rfl (As := []) (st := []) rfl rfl (Nat.le_of_ble_eq_true rfl) rfl h (fun _ _ h => cp_X7_readLine (d := d) h) fun _ F1 h => ?_
        refine V_iinc dX7_text_70 (v := l1 + 1) rfl (by rw [ci_1]) rfl (ls' := [.ref 82, .int (l1 + 1), .null]) rfl rfl ?_
        refine V_goto dX7_text_73 rfl ?_
        exact ih (l1 + 1) F1 h
theorem okX7_text_L29 {N d : Nat} {l1 : Int32} {res : Int32 × FF} : ∀ (n : Nat) (l2 : Int32) (F : FF), fX7_text_L29 N l1 n l2 F = some res → FV cX7_text 3 RX7 (d + 6) (some .int) none 29 [.ref 82, .int l1, .int l2] [] F (RI res) := by
  intro n
  induction n with
  | zero =>
    intro l2 F h
    rw [fX7_text_L29.eq_1] at h
    cases h
  | succ n ih =>
    intro l2 F h
    rw [fX7_text_L29.eq_2] at h
    refine V_iload_n dX7_text_29 rfl rfl rfl ?_
    refine V_bipush dX7_text_30 cb_75 rfl ?_
    refine A_icmp_ge dX7_text_32 rfl rfl h (fun h => ?_) (fun h => ?_)
    · refine V_aload_n dX7_text_48 rfl rfl rfl ?_
      refine A_callC (ci := 7) eU dX7_text_49 cl_X7_97 (by decide) rfl rfl (As := []) (st := []) rfl rfl (Nat.le_of_ble_eq_true rfl) rfl h (fun _ _ h => cp_X7_readsOn (d := d + 4) h) fun _ F1 h => ?_
      refine V_weak [true, true, false] rfl ?_
      exact okX7_text_L52 _ _ _ h
    · refine V_aload_n dX7_text_35 rfl rfl rfl ?_
      refine F_getR dX7_text_36 fl_X7_17 ly_82 rfl rfl ?_
      refine V_iload_n dX7_text_39 rfl rfl rfl ?_
      refine V_iconst dX7_text_40 ci_0 rfl ?_
      refine A_st0 dX7_text_41 rfl h fun F2 h => ?_
      refine V_iinc dX7_text_42 (v := l2 + 1) rfl (by rw [ci_1]) rfl (ls' := [.ref 82, .int l1, .int (l2 + 1)]) rfl rfl ?_
      refine V_goto dX7_text_45 rfl ?_
      exact ih (l2 + 1) F2 h
theorem okX7_text {N d : Nat} {F : FF} {res : Int32 × FF} (h : fX7_text N F = some res) : FV cX7_text 3 RX7 (d + 6) (some .int) none 0 [.ref 82, .null, .null] [] F (RI res) := by
  unfold fX7_text at h
  refine V_aload_n dX7_text_0 rfl rfl rfl ?_
  refine V_iconst dX7_text_1 ci_0 rfl ?_
  refine A_pn dX7_text_2 fl_X7_63 rfl (Or.inl rfl) ly_82 rfl rfl h fun F1 h => ?_
  refine V_aload_n dX7_text_5 rfl rfl rfl ?_
  refine V_iconst dX7_text_6 ci_0 rfl ?_
  refine A_pn dX7_text_7 fl_X7_75 rfl (Or.inl rfl) ly_82 rfl rfl h fun F2 h => ?_
  refine V_aload_n dX7_text_10 rfl rfl rfl ?_
  refine V_iconst dX7_text_11 ci_4 rfl ?_
  refine A_pn dX7_text_12 fl_X7_107 rfl (Or.inl rfl) ly_82 rfl rfl h fun F3 h => ?_
  refine V_aload_n dX7_text_15 rfl rfl rfl ?_
  refine V_iconst dX7_text_16 ci_0 rfl ?_
  refine A_pn dX7_text_17 fl_X7_119 rfl (Or.inr ⟨rfl, by decide⟩) ly_82 rfl rfl h fun F4 h => ?_
  refine V_aload_n dX7_text_20 rfl rfl rfl ?_
  refine V_iconst dX7_text_21 ci_m1 rfl ?_
  refine A_pn dX7_text_22 fl_X7_104 rfl (Or.inl rfl) ly_82 rfl rfl h fun F5 h => ?_
  refine V_iconst dX7_text_25 ci_0 rfl ?_
  refine V_istore_n dX7_text_26 rfl (by decide) rfl (ls' := [.ref 82, .int 0, .null]) rfl rfl ?_
  refine V_iconst dX7_text_27 ci_0 rfl ?_
  refine V_istore_n dX7_text_28 rfl (by decide) rfl (ls' := [.ref 82, .int 0, .int 0]) rfl rfl ?_
  exact okX7_text_L29 _ _ _ h
theorem cp_X7_text {N d : Nat} {F F' : FF} {r : Int32} (h : fX7_text N F = some (r, F')) : CP (d + 6) mX7_text [.ref 82] F (fun r' F'' => r' = eI r ∧ F'' = F') := CP_I rfl (Nat.le_of_ble_eq_true rfl) (okX7_text h)
theorem okX7_fault {N d : Nat} {F : FF} {res : Int32 × FF} (h : fX7_fault N F = some res) : FV cX7_fault 1 RX7 (d) (some .int) none 0 [.ref 82] [] F (RI res) := by
  unfold fX7_fault at h
  refine V_aload_n dX7_fault_0 rfl rfl rfl ?_
  refine F_getI dX7_fault_1 fl_X7_129 ly_82 rfl rfl ?_
  exact A_ireturn dX7_fault_4 rfl h
theorem cp_X7_fault {N d : Nat} {F F' : FF} {r : Int32} (h : fX7_fault N F = some (r, F')) : CP (d) mX7_fault [.ref 82] F (fun r' F'' => r' = eI r ∧ F'' = F') := CP_I rfl (Nat.le_of_ble_eq_true rfl) (okX7_fault h)
theorem pe_X7_fault {N : Nat} {F : FF} : fX7_fault N F = some (pX7_fault F, F) := by
  simp only [fX7_fault, pX7_fault]
  repeat (first | rfl | split)
theorem cq_X7_fault {d : Nat} {F : FF} : CP (d) mX7_fault [.ref 82] F (fun r' F'' => r' = eI (pX7_fault F) ∧ F'' = F) := cp_X7_fault (N := 0) (pe_X7_fault)
theorem okX7_turnOn {N d : Nat} {l1 : Int32} {F : FF} {res : Int32 × FF} (h : fX7_turnOn N l1 F = some res) : FV cX7_turnOn 2 RX7 (d) (some .int) none 0 [.ref 82, .int l1] [] F (RI res) := by
  unfold fX7_turnOn at h
  refine V_aload_n dX7_turnOn_0 rfl rfl rfl ?_
  refine F_getR dX7_turnOn_1 fl_X7_7 ly_82 rfl rfl ?_
  refine V_iload_n dX7_turnOn_4 rfl rfl rfl ?_
  refine V_bipush dX7_turnOn_5 cb_25 rfl ?_
  refine V_iadd dX7_turnOn_7 rfl ?_
  refine A_ld0 dX7_turnOn_8 rfl h fun v1 h => ?_
  refine A_if_ne dX7_turnOn_9 rfl rfl h (fun h => ?_) (fun h => ?_)
  · refine V_aload_n dX7_turnOn_17 rfl rfl rfl ?_
    refine F_getR dX7_turnOn_18 fl_X7_7 ly_82 rfl rfl ?_
    refine V_iload_n dX7_turnOn_21 rfl rfl rfl ?_
    refine V_bipush dX7_turnOn_22 cb_26 rfl ?_
    refine V_iadd dX7_turnOn_24 rfl ?_
    refine A_ld0 dX7_turnOn_25 rfl h fun v2 h => ?_
    refine V_aload_n dX7_turnOn_26 rfl rfl rfl ?_
    refine F_getR dX7_turnOn_27 fl_X7_7 ly_82 rfl rfl ?_
    refine V_iload_n dX7_turnOn_30 rfl rfl rfl ?_
    refine V_bipush dX7_turnOn_31 cb_25 rfl ?_
    refine V_iadd dX7_turnOn_33 rfl ?_
    refine A_ld0 dX7_turnOn_34 rfl h fun v3 h => ?_
    refine A_dv h fun hy h => ?_
    refine U_irem dX7_turnOn_35 hy rfl ?_
    exact A_ireturn dX7_turnOn_36 rfl h
  · refine V_bipush dX7_turnOn_12 cb_m4 rfl ?_
    refine V_goto dX7_turnOn_14 rfl ?_
    exact A_ireturn dX7_turnOn_36 rfl h
theorem cp_X7_turnOn {N d : Nat} {l1 : Int32} {F F' : FF} {r : Int32} (h : fX7_turnOn N l1 F = some (r, F')) : CP (d) mX7_turnOn [.ref 82, .int l1] F (fun r' F'' => r' = eI r ∧ F'' = F') := CP_I rfl (Nat.le_of_ble_eq_true rfl) (okX7_turnOn h)
theorem okX7_rule_b46 {N d : Nat} {k5 : Int32 → Int32 → FF → Option (Int32 × FF)} {l1 : Int32} {l3 : Int32} {s0 : Int32} {F : FF} {res : Int32 × FF} (hk5 : ∀ (x2 : Int32) (x3 : Int32) (F : FF), k5 x2 x3 F = some res → FV cX7_rule 4 RX7 (d + 1) (some .int) none 5 [.ref 82, .int l1, .int x2, .int x3] [] F (RI res)) (h : fX7_rule_b46 N k5 l1 l3 s0 F = some res) : FV cX7_rule 4 RX7 (d + 1) (some .int) none 46 [.ref 82, .int l1, .null, .int l3] [.int s0] F (RI res) := by
  unfold fX7_rule_b46 at h
  refine V_istore_n dX7_rule_46 rfl (by decide) rfl (ls' := [.ref 82, .int l1, .int s0, .int l3]) rfl rfl ?_
  refine V_iinc dX7_rule_47 (v := l3 + 1) rfl (by rw [ci_1]) rfl (ls' := [.ref 82, .int l1, .int s0, .int (l3 + 1)]) rfl rfl ?_
  refine V_goto dX7_rule_50 rfl ?_
  exact hk5 s0 (l3 + 1) F h
theorem okX7_rule_b41 {N d : Nat} {k5 : Int32 → Int32 → FF → Option (Int32 × FF)} {l1 : Int32} {l3 : Int32} {F : FF} {res : Int32 × FF} (hk5 : ∀ (x2 : Int32) (x3 : Int32) (F : FF), k5 x2 x3 F = some res → FV cX7_rule 4 RX7 (d + 1) (some .int) none 5 [.ref 82, .int l1, .int x2, .int x3] [] F (RI res)) (h : fX7_rule_b41 N k5 l1 l3 F = some res) : FV cX7_rule 4 RX7 (d + 1) (some .int) none 41 [.ref 82, .int l1, .null, .int l3] [] F (RI res) := by
  unfold fX7_rule_b41 at h
  refine V_iload_n dX7_rule_41 rfl rfl rfl ?_
  refine V_goto dX7_rule_42 rfl ?_
  exact okX7_rule_b46 hk5 h
theorem okX7_rule_L5 {N d : Nat} {l1 : Int32} {res : Int32 × FF} : ∀ (n : Nat) (l2 : Int32) (l3 : Int32) (F : FF), fX7_rule_L5 N l1 n l2 l3 F = some res → FV cX7_rule 4 RX7 (d + 1) (some .int) none 5 [.ref 82, .int l1, .int l2, .int l3] [] F (RI res) := by
  intro n
  induction n with
  | zero =>
    intro l2 l3 F h
    rw [fX7_rule_L5.eq_1] at h
    cases h
  | succ n ih =>
    intro l2 l3 F h
    rw [fX7_rule_L5.eq_2] at h
    refine V_iload_n dX7_rule_5 rfl rfl rfl ?_
    refine V_aload_n dX7_rule_6 rfl rfl rfl ?_
    refine F_getR dX7_rule_7 fl_X7_7 ly_82 rfl rfl ?_
    refine V_bipush dX7_rule_10 cb_8 rfl ?_
    refine F_iald dX7_rule_12 ly_83 (j := 8) (by decide) (by decide) (by decide) rfl ?_
    refine A_icmp_ge dX7_rule_13 rfl rfl h (fun h => ?_) (fun h => ?_)
    · refine V_iload_n dX7_rule_53 rfl rfl rfl ?_
      refine A_if h (fun c h => ?_) (fun c0 h => ?_)
      · rw [c]
        refine V_tableIn dX7_rule_54 (by decide) (by decide) rfl rfl ?_
        refine V_aload_n dX7_rule_92 rfl rfl rfl ?_
        refine F_getI dX7_rule_93 fl_X7_13 ly_82 rfl rfl ?_
        exact A_ireturn dX7_rule_96 rfl h
      refine A_if h (fun c h => ?_) (fun c1 h => ?_)
      · rw [c]
        refine V_tableIn dX7_rule_54 (by decide) (by decide) rfl rfl ?_
        refine V_aload_n dX7_rule_97 rfl rfl rfl ?_
        refine F_getR dX7_rule_98 fl_X7_7 ly_82 rfl rfl ?_
        refine V_bipush dX7_rule_101 cb_8 rfl ?_
        refine F_iald dX7_rule_103 ly_83 (j := 8) (by decide) (by decide) (by decide) rfl ?_
        exact A_ireturn dX7_rule_104 rfl h
      refine A_if h (fun c h => ?_) (fun c2 h => ?_)
      · rw [c]
        refine V_tableIn dX7_rule_54 (by decide) (by decide) rfl rfl ?_
        refine V_aload_n dX7_rule_105 rfl rfl rfl ?_
        refine F_getR dX7_rule_106 fl_X7_7 ly_82 rfl rfl ?_
        refine V_bipush dX7_rule_109 cb_25 rfl ?_
        refine F_iald dX7_rule_111 ly_83 (j := 25) (by decide) (by decide) (by decide) rfl ?_
        exact A_ireturn dX7_rule_112 rfl h
      refine A_if h (fun c h => ?_) (fun c3 h => ?_)
      · rw [c]
        refine V_tableIn dX7_rule_54 (by decide) (by decide) rfl rfl ?_
        refine V_aload_n dX7_rule_113 rfl rfl rfl ?_
        refine F_getR dX7_rule_114 fl_X7_7 ly_82 rfl rfl ?_
        refine V_bipush dX7_rule_117 cb_26 rfl ?_
        refine F_iald dX7_rule_119 ly_83 (j := 26) (by decide) (by decide) (by decide) rfl ?_
        exact A_ireturn dX7_rule_120 rfl h
      refine A_if h (fun c h => ?_) (fun c4 h => ?_)
      · rw [c]
        refine V_tableIn dX7_rule_54 (by decide) (by decide) rfl rfl ?_
        refine V_aload_n dX7_rule_121 rfl rfl rfl ?_
        refine V_iconst dX7_rule_122 ci_0 rfl ?_
        refine A_callC (ci := 7) eI dX7_rule_123 cl_X7_156 (by decide) rfl rfl (As := [.int 0]) (st := []) rfl rfl (Nat.le_of_ble_eq_true rfl) rfl h (fun _ _ h => cp_X7_turnOn (d := d) h) fun v1 F1 h => ?_
        exact A_ireturn dX7_rule_126 rfl h
      refine A_if h (fun c h => ?_) (fun c5 h => ?_)
      · rw [c]
        refine V_tableIn dX7_rule_54 (by decide) (by decide) rfl rfl ?_
        refine V_iload_n dX7_rule_127 rfl rfl rfl ?_
        exact A_ireturn dX7_rule_128 rfl h
      refine V_tableOut dX7_rule_54 (tb_out6 c0 c1 c2 c3 c4 c5) rfl ?_
      refine V_iconst dX7_rule_129 ci_m1 rfl ?_
      exact A_ireturn dX7_rule_130 rfl h
    · refine V_iload_n dX7_rule_16 rfl rfl rfl ?_
      refine V_bipush dX7_rule_17 cb_m4 rfl ?_
      refine A_icmp_eq dX7_rule_19 rfl rfl h (fun h => ?_) (fun h => ?_)
      · refine V_weak [true, true, false, true] rfl ?_
        exact okX7_rule_b41 (fun x2 x3 F h => ih x2 x3 F h) h
      · refine V_aload_n dX7_rule_22 rfl rfl rfl ?_
        refine F_getR dX7_rule_23 fl_X7_7 ly_82 rfl rfl ?_
        refine V_iconst dX7_rule_26 ci_4 rfl ?_
        refine V_iload_n dX7_rule_27 rfl rfl rfl ?_
        refine V_iadd dX7_rule_28 rfl ?_
        refine A_ld0 dX7_rule_29 rfl h fun v2 h => ?_
        refine V_aload_n dX7_rule_30 rfl rfl rfl ?_
        refine F_getR dX7_rule_31 fl_X7_7 ly_82 rfl rfl ?_
        refine V_iconst dX7_rule_34 ci_4 rfl ?_
        refine V_iload_n dX7_rule_35 rfl rfl rfl ?_
        refine V_iadd dX7_rule_36 rfl ?_
        refine A_ld0 dX7_rule_37 rfl h fun v3 h => ?_
        refine V_midI (q := 46) ((if v3 ≤ v2 then l2 else l3 : Int32)) [] (fun yJ hy hJ => ?_) ?_
        · refine V_icmp_ge dX7_rule_38 rfl rfl (fun c => ?_) (fun c => ?_)
          · rw [if_pos c] at hy
            refine V_iload_n dX7_rule_45 rfl rfl rfl ?_
            rw [hy] at hJ
            exact hJ
          · rw [if_neg c] at hy
            refine V_iload_n dX7_rule_41 rfl rfl rfl ?_
            refine V_goto dX7_rule_42 rfl ?_
            rw [hy] at hJ
            exact hJ
        · refine V_istore_n dX7_rule_46 rfl (by decide) rfl (ls' := [.ref 82, .int l1, .int ((if v3 ≤ v2 then l2 else l3 : Int32)), .int l3]) rfl rfl ?_
          refine V_iinc dX7_rule_47 (v := l3 + 1) rfl (by rw [ci_1]) rfl (ls' := [.ref 82, .int l1, .int ((if v3 ≤ v2 then l2 else l3 : Int32)), .int (l3 + 1)]) rfl rfl ?_
          refine V_goto dX7_rule_50 rfl ?_
          exact ih ((if v3 ≤ v2 then l2 else l3 : Int32)) (l3 + 1) F h
theorem okX7_rule {N d : Nat} {l1 : Int32} {F : FF} {res : Int32 × FF} (h : fX7_rule N l1 F = some res) : FV cX7_rule 4 RX7 (d + 1) (some .int) none 0 [.ref 82, .int l1, .null, .null] [] F (RI res) := by
  unfold fX7_rule at h
  refine V_bipush dX7_rule_0 cb_m4 rfl ?_
  refine V_istore_n dX7_rule_2 rfl (by decide) rfl (ls' := [.ref 82, .int l1, .int ((-4)), .null]) rfl rfl ?_
  refine V_iconst dX7_rule_3 ci_0 rfl ?_
  refine V_istore_n dX7_rule_4 rfl (by decide) rfl (ls' := [.ref 82, .int l1, .int ((-4)), .int 0]) rfl rfl ?_
  exact okX7_rule_L5 _ _ _ _ h
theorem cp_X7_rule {N d : Nat} {l1 : Int32} {F F' : FF} {r : Int32} (h : fX7_rule N l1 F = some (r, F')) : CP (d + 1) mX7_rule [.ref 82, .int l1] F (fun r' F'' => r' = eI r ∧ F'' = F') := CP_I rfl (Nat.le_of_ble_eq_true rfl) (okX7_rule h)
theorem okX7_isShelf {N d : Nat} {l1 : Int32} {F : FF} {res : Int32 × FF} (h : fX7_isShelf N l1 F = some res) : FV cX7_isShelf 2 RX7 (d + 1) (some .boolean) none 0 [.ref 82, .int l1] [] F (RI res) := by
  unfold fX7_isShelf at h
  refine V_iload_n dX7_isShelf_0 rfl rfl rfl ?_
  refine V_i2l dX7_isShelf_1 rfl ?_
  refine V_lconst dX7_isShelf_2 cl_0 rfl ?_
  refine V_aload_n dX7_isShelf_3 rfl rfl rfl ?_
  refine F_getR dX7_isShelf_4 fl_X7_7 ly_82 rfl rfl ?_
  refine V_bipush dX7_isShelf_7 cb_8 rfl ?_
  refine F_iald dX7_isShelf_9 ly_83 (j := 8) (by decide) (by decide) (by decide) rfl ?_
  refine V_iconst dX7_isShelf_10 ci_1 rfl ?_
  refine V_isub dX7_isShelf_11 rfl ?_
  refine V_i2l dX7_isShelf_12 rfl ?_
  refine P_callS dX7_isShelf_13 cl_X7_56 (cq_X7_in (d := d)) (As := [.long l1.toInt64, .long 0, .long (((F 83 8) - 1).toInt64)]) (st := []) rfl rfl (Nat.le_of_ble_eq_true rfl) rfl ?_
  exact A_zreturn dX7_isShelf_16 rfl h
theorem cp_X7_isShelf {N d : Nat} {l1 : Int32} {F F' : FF} {r : Int32} (h : fX7_isShelf N l1 F = some (r, F')) : CP (d + 1) mX7_isShelf [.ref 82, .int l1] F (fun r' F'' => r' = eI r ∧ F'' = F') := CP_I rfl (Nat.le_of_ble_eq_true rfl) (okX7_isShelf h)
theorem okX7_isBook {N d : Nat} {l1 : Int32} {F : FF} {res : Int32 × FF} (h : fX7_isBook N l1 F = some res) : FV cX7_isBook 2 RX7 (d + 1) (some .boolean) none 0 [.ref 82, .int l1] [] F (RI res) := by
  unfold fX7_isBook at h
  refine V_iload_n dX7_isBook_0 rfl rfl rfl ?_
  refine V_i2l dX7_isBook_1 rfl ?_
  refine V_lconst dX7_isBook_2 cl_0 rfl ?_
  refine V_aload_n dX7_isBook_3 rfl rfl rfl ?_
  refine F_getI dX7_isBook_4 fl_X7_13 ly_82 rfl rfl ?_
  refine V_iconst dX7_isBook_7 ci_1 rfl ?_
  refine V_isub dX7_isBook_8 rfl ?_
  refine V_i2l dX7_isBook_9 rfl ?_
  refine P_callS dX7_isBook_10 cl_X7_56 (cq_X7_in (d := d)) (As := [.long l1.toInt64, .long 0, .long (((F 82 1) - 1).toInt64)]) (st := []) rfl rfl (Nat.le_of_ble_eq_true rfl) rfl ?_
  exact A_zreturn dX7_isBook_13 rfl h
theorem cp_X7_isBook {N d : Nat} {l1 : Int32} {F F' : FF} {r : Int32} (h : fX7_isBook N l1 F = some (r, F')) : CP (d + 1) mX7_isBook [.ref 82, .int l1] F (fun r' F'' => r' = eI r ∧ F'' = F') := CP_I rfl (Nat.le_of_ble_eq_true rfl) (okX7_isBook h)
theorem okX7_shelf_b19 {N d : Nat} {l1 : Int32} {l2 : Int32} {F : FF} {res : Int32 × FF} (h : fX7_shelf_b19 N l1 l2 F = some res) : FV cX7_shelf 3 RX7 (d + 2) (some .int) none 19 [.ref 82, .int l1, .int l2] [] F (RI res) := by
  unfold fX7_shelf_b19 at h
  refine V_aload_n dX7_shelf_19 rfl rfl rfl ?_
  refine F_getR dX7_shelf_20 fl_X7_7 ly_82 rfl rfl ?_
  refine V_iconst dX7_shelf_23 ci_4 rfl ?_
  refine V_iload_n dX7_shelf_24 rfl rfl rfl ?_
  refine V_imul dX7_shelf_25 rfl ?_
  refine V_iload_n dX7_shelf_26 rfl rfl rfl ?_
  refine V_iadd dX7_shelf_27 rfl ?_
  refine A_ld0 dX7_shelf_28 rfl h fun v1 h => ?_
  exact A_ireturn dX7_shelf_29 rfl h
theorem okX7_shelf {N d : Nat} {l1 : Int32} {l2 : Int32} {F : FF} {res : Int32 × FF} (h : fX7_shelf N l1 l2 F = some res) : FV cX7_shelf 3 RX7 (d + 2) (some .int) none 0 [.ref 82, .int l1, .int l2] [] F (RI res) := by
  unfold fX7_shelf at h
  refine V_aload_n dX7_shelf_0 rfl rfl rfl ?_
  refine V_iload_n dX7_shelf_1 rfl rfl rfl ?_
  refine A_callC (ci := 7) eI dX7_shelf_2 cl_X7_162 (by decide) rfl rfl (As := [.int l1]) (st := []) rfl rfl (Nat.le_of_ble_eq_true rfl) rfl h (fun _ _ h => cp_X7_isShelf (d := d) h) fun v1 F1 h => ?_
  refine A_if_ne dX7_shelf_5 rfl rfl h (fun h => ?_) (fun h => ?_)
  · refine V_iload_n dX7_shelf_10 rfl rfl rfl ?_
    refine A_if_eq dX7_shelf_11 rfl rfl h (fun h => ?_) (fun h => ?_)
    · exact okX7_shelf_b19 h
    · refine V_iload_n dX7_shelf_14 rfl rfl rfl ?_
      refine V_iconst dX7_shelf_15 ci_1 rfl ?_
      refine A_icmp_ne dX7_shelf_16 rfl rfl h (fun h => ?_) (fun h => ?_)
      · refine V_aload_n dX7_shelf_30 rfl rfl rfl ?_
        refine V_iload_n dX7_shelf_31 rfl rfl rfl ?_
        refine V_bipush dX7_shelf_32 cb_10 rfl ?_
        refine V_isub dX7_shelf_34 rfl ?_
        refine A_callC (ci := 7) eI dX7_shelf_35 cl_X7_166 (by decide) rfl rfl (As := [.int (l2 - 10)]) (st := []) rfl rfl (Nat.le_of_ble_eq_true rfl) rfl h (fun _ _ h => cp_X7_isBook (d := d) h) fun v2 F2 h => ?_
        refine A_if_eq dX7_shelf_38 rfl rfl h (fun h => ?_) (fun h => ?_)
        · refine V_aload_n dX7_shelf_59 rfl rfl rfl ?_
          refine V_iload_n dX7_shelf_60 rfl rfl rfl ?_
          refine V_bipush dX7_shelf_61 cb_20 rfl ?_
          refine V_isub dX7_shelf_63 rfl ?_
          refine A_callC (ci := 7) eI dX7_shelf_64 cl_X7_166 (by decide) rfl rfl (As := [.int (l2 - 20)]) (st := []) rfl rfl (Nat.le_of_ble_eq_true rfl) rfl h (fun _ _ h => cp_X7_isBook (d := d) h) fun v3 F3 h => ?_
          refine A_if_eq dX7_shelf_67 rfl rfl h (fun h => ?_) (fun h => ?_)
          · refine V_iconst dX7_shelf_90 ci_m1 rfl ?_
            exact A_ireturn dX7_shelf_91 rfl h
          · refine V_aload_n dX7_shelf_70 rfl rfl rfl ?_
            refine F_getR dX7_shelf_71 fl_X7_7 ly_82 rfl rfl ?_
            refine V_bipush dX7_shelf_74 cb_51 rfl ?_
            refine V_bipush dX7_shelf_76 cb_6 rfl ?_
            refine V_iload_n dX7_shelf_78 rfl rfl rfl ?_
            refine V_imul dX7_shelf_79 rfl ?_
            refine V_iadd dX7_shelf_80 rfl ?_
            refine V_iload_n dX7_shelf_81 rfl rfl rfl ?_
            refine V_iadd dX7_shelf_82 rfl ?_
            refine V_bipush dX7_shelf_83 cb_20 rfl ?_
            refine V_isub dX7_shelf_85 rfl ?_
            refine A_ld0 dX7_shelf_86 rfl h fun v4 h => ?_
            refine V_goto dX7_shelf_87 rfl ?_
            exact A_ireturn dX7_shelf_91 rfl h
        · refine V_aload_n dX7_shelf_41 rfl rfl rfl ?_
          refine F_getR dX7_shelf_42 fl_X7_7 ly_82 rfl rfl ?_
          refine V_bipush dX7_shelf_45 cb_27 rfl ?_
          refine V_bipush dX7_shelf_47 cb_6 rfl ?_
          refine V_iload_n dX7_shelf_49 rfl rfl rfl ?_
          refine V_imul dX7_shelf_50 rfl ?_
          refine V_iadd dX7_shelf_51 rfl ?_
          refine V_iload_n dX7_shelf_52 rfl rfl rfl ?_
          refine V_iadd dX7_shelf_53 rfl ?_
          refine V_bipush dX7_shelf_54 cb_10 rfl ?_
          refine V_isub dX7_shelf_56 rfl ?_
          refine A_ld0 dX7_shelf_57 rfl h fun v5 h => ?_
          exact A_ireturn dX7_shelf_58 rfl h
      · exact okX7_shelf_b19 h
  · refine V_iconst dX7_shelf_8 ci_m1 rfl ?_
    exact A_ireturn dX7_shelf_9 rfl h
theorem cp_X7_shelf {N d : Nat} {l1 : Int32} {l2 : Int32} {F F' : FF} {r : Int32} (h : fX7_shelf N l1 l2 F = some (r, F')) : CP (d + 2) mX7_shelf [.ref 82, .int l1, .int l2] F (fun r' F'' => r' = eI r ∧ F'' = F') := CP_I rfl (Nat.le_of_ble_eq_true rfl) (okX7_shelf h)
theorem okX7_placeOn_L6 {N d : Nat} {l1 : Int32} {l2 : Int32} {l3 : Int32} {res : Int32 × FF} : ∀ (n : Nat) (l4 : Int32) (l5 : Int32) (F : FF), fX7_placeOn_L6 N l1 l2 l3 n l4 l5 F = some res → FV cX7_placeOn 6 RX7 (d) (some .int) none 6 [.ref 82, .int l1, .int l2, .int l3, .int l4, .int l5] [] F (RI res) := by
  intro n
  induction n with
  | zero =>
    intro l4 l5 F h
    rw [fX7_placeOn_L6.eq_1] at h
    cases h
  | succ n ih =>
    intro l4 l5 F h
    rw [fX7_placeOn_L6.eq_2] at h
    refine V_iload dX7_placeOn_6 rfl rfl ?_
    refine V_aload_n dX7_placeOn_8 rfl rfl rfl ?_
    refine F_getI dX7_placeOn_9 fl_X7_13 ly_82 rfl rfl ?_
    refine A_icmp_ge dX7_placeOn_12 rfl rfl h (fun h => ?_) (fun h => ?_)
    · refine V_iload dX7_placeOn_51 rfl rfl ?_
      exact A_ireturn dX7_placeOn_53 rfl h
    · refine V_aload_n dX7_placeOn_15 rfl rfl rfl ?_
      refine F_getR dX7_placeOn_16 fl_X7_7 ly_82 rfl rfl ?_
      refine V_iload_n dX7_placeOn_19 rfl rfl rfl ?_
      refine V_bipush dX7_placeOn_20 cb_27 rfl ?_
      refine V_iadd dX7_placeOn_22 rfl ?_
      refine V_bipush dX7_placeOn_23 cb_6 rfl ?_
      refine V_iload_n dX7_placeOn_25 rfl rfl rfl ?_
      refine V_imul dX7_placeOn_26 rfl ?_
      refine V_iadd dX7_placeOn_27 rfl ?_
      refine V_iload dX7_placeOn_28 rfl rfl ?_
      refine V_iadd dX7_placeOn_30 rfl ?_
      refine A_ld0 dX7_placeOn_31 rfl h fun v1 h => ?_
      refine V_iload_n dX7_placeOn_32 rfl rfl rfl ?_
      refine V_midI (q := 43) ((if ¬ v1 = l3 then l4 else l5 : Int32)) [] (fun yJ hy hJ => ?_) ?_
      · refine V_icmp_ne dX7_placeOn_33 rfl rfl (fun c => ?_) (fun c => ?_)
        · rw [if_pos c] at hy
          refine V_iload dX7_placeOn_41 rfl rfl ?_
          rw [hy] at hJ
          exact hJ
        · rw [if_neg (fun z => z c)] at hy
          refine V_iload dX7_placeOn_36 rfl rfl ?_
          refine V_goto dX7_placeOn_38 rfl ?_
          rw [hy] at hJ
          exact hJ
      · refine V_istore dX7_placeOn_43 (by decide) rfl (ls' := [.ref 82, .int l1, .int l2, .int l3, .int ((if ¬ v1 = l3 then l4 else l5 : Int32)), .int l5]) rfl rfl ?_
        refine V_iinc dX7_placeOn_45 (v := l5 + 1) rfl (by rw [ci_1]) rfl (ls' := [.ref 82, .int l1, .int l2, .int l3, .int ((if ¬ v1 = l3 then l4 else l5 : Int32)), .int (l5 + 1)]) rfl rfl ?_
        refine V_goto dX7_placeOn_48 rfl ?_
        exact ih ((if ¬ v1 = l3 then l4 else l5 : Int32)) (l5 + 1) F h
theorem okX7_placeOn {N d : Nat} {l1 : Int32} {l2 : Int32} {l3 : Int32} {F : FF} {res : Int32 × FF} (h : fX7_placeOn N l1 l2 l3 F = some res) : FV cX7_placeOn 6 RX7 (d) (some .int) none 0 [.ref 82, .int l1, .int l2, .int l3, .null, .null] [] F (RI res) := by
  unfold fX7_placeOn at h
  refine V_iconst dX7_placeOn_0 ci_0 rfl ?_
  refine V_istore dX7_placeOn_1 (by decide) rfl (ls' := [.ref 82, .int l1, .int l2, .int l3, .int 0, .null]) rfl rfl ?_
  refine V_iconst dX7_placeOn_3 ci_0 rfl ?_
  refine V_istore dX7_placeOn_4 (by decide) rfl (ls' := [.ref 82, .int l1, .int l2, .int l3, .int 0, .int 0]) rfl rfl ?_
  exact okX7_placeOn_L6 _ _ _ _ h
theorem cp_X7_placeOn {N d : Nat} {l1 : Int32} {l2 : Int32} {l3 : Int32} {F F' : FF} {r : Int32} (h : fX7_placeOn N l1 l2 l3 F = some (r, F')) : CP (d) mX7_placeOn [.ref 82, .int l1, .int l2, .int l3] F (fun r' F'' => r' = eI r ∧ F'' = F') := CP_I rfl (Nat.le_of_ble_eq_true rfl) (okX7_placeOn h)
theorem okX7_place {N d : Nat} {l1 : Int32} {l2 : Int32} {F : FF} {res : Int32 × FF} (h : fX7_place N l1 l2 F = some res) : FV cX7_place 3 RX7 (d + 2) (some .int) none 0 [.ref 82, .int l1, .int l2] [] F (RI res) := by
  unfold fX7_place at h
  refine V_aload_n dX7_place_0 rfl rfl rfl ?_
  refine V_iload_n dX7_place_1 rfl rfl rfl ?_
  refine A_callC (ci := 7) eI dX7_place_2 cl_X7_162 (by decide) rfl rfl (As := [.int l1]) (st := []) rfl rfl (Nat.le_of_ble_eq_true rfl) rfl h (fun _ _ h => cp_X7_isShelf (d := d) h) fun v1 F1 h => ?_
  refine A_if_eq dX7_place_5 rfl rfl h (fun h => ?_) (fun h => ?_)
  · refine V_iconst dX7_place_26 ci_m1 rfl ?_
    exact A_ireturn dX7_place_27 rfl h
  · refine V_aload_n dX7_place_8 rfl rfl rfl ?_
    refine V_iload_n dX7_place_9 rfl rfl rfl ?_
    refine A_callC (ci := 7) eI dX7_place_10 cl_X7_166 (by decide) rfl rfl (As := [.int l2]) (st := []) rfl rfl (Nat.le_of_ble_eq_true rfl) rfl h (fun _ _ h => cp_X7_isBook (d := d) h) fun v2 F2 h => ?_
    refine A_if_eq dX7_place_13 rfl rfl h (fun h => ?_) (fun h => ?_)
    · refine V_iconst dX7_place_26 ci_m1 rfl ?_
      exact A_ireturn dX7_place_27 rfl h
    · refine V_aload_n dX7_place_16 rfl rfl rfl ?_
      refine V_iconst dX7_place_17 ci_0 rfl ?_
      refine V_iload_n dX7_place_18 rfl rfl rfl ?_
      refine V_iload_n dX7_place_19 rfl rfl rfl ?_
      refine A_callC (ci := 7) eI dX7_place_20 cl_X7_144 (by decide) rfl rfl (As := [.int 0, .int l1, .int l2]) (st := []) rfl rfl (Nat.le_of_ble_eq_true rfl) rfl h (fun _ _ h => cp_X7_placeOn (d := d + 1) h) fun v3 F3 h => ?_
      refine V_goto dX7_place_23 rfl ?_
      exact A_ireturn dX7_place_27 rfl h
theorem cp_X7_place {N d : Nat} {l1 : Int32} {l2 : Int32} {F F' : FF} {r : Int32} (h : fX7_place N l1 l2 F = some (r, F')) : CP (d + 2) mX7_place [.ref 82, .int l1, .int l2] F (fun r' F'' => r' = eI r ∧ F'' = F') := CP_I rfl (Nat.le_of_ble_eq_true rfl) (okX7_place h)
theorem okX7_isWant {N d : Nat} {l1 : Int32} {F : FF} {res : Int32 × FF} (h : fX7_isWant N l1 F = some res) : FV cX7_isWant 2 RX7 (d + 1) (some .boolean) none 0 [.ref 82, .int l1] [] F (RI res) := by
  unfold fX7_isWant at h
  refine V_iload_n dX7_isWant_0 rfl rfl rfl ?_
  refine V_i2l dX7_isWant_1 rfl ?_
  refine V_lconst dX7_isWant_2 cl_0 rfl ?_
  refine V_aload_n dX7_isWant_3 rfl rfl rfl ?_
  refine F_getR dX7_isWant_4 fl_X7_7 ly_82 rfl rfl ?_
  refine V_bipush dX7_isWant_7 cb_25 rfl ?_
  refine F_iald dX7_isWant_9 ly_83 (j := 25) (by decide) (by decide) (by decide) rfl ?_
  refine V_iconst dX7_isWant_10 ci_1 rfl ?_
  refine V_isub dX7_isWant_11 rfl ?_
  refine V_i2l dX7_isWant_12 rfl ?_
  refine P_callS dX7_isWant_13 cl_X7_56 (cq_X7_in (d := d)) (As := [.long l1.toInt64, .long 0, .long (((F 83 25) - 1).toInt64)]) (st := []) rfl rfl (Nat.le_of_ble_eq_true rfl) rfl ?_
  exact A_zreturn dX7_isWant_16 rfl h
theorem cp_X7_isWant {N d : Nat} {l1 : Int32} {F F' : FF} {r : Int32} (h : fX7_isWant N l1 F = some (r, F')) : CP (d + 1) mX7_isWant [.ref 82, .int l1] F (fun r' F'' => r' = eI r ∧ F'' = F') := CP_I rfl (Nat.le_of_ble_eq_true rfl) (okX7_isWant h)
theorem okX7_want {N d : Nat} {l1 : Int32} {F : FF} {res : Int32 × FF} (h : fX7_want N l1 F = some res) : FV cX7_want 2 RX7 (d + 2) (some .int) none 0 [.ref 82, .int l1] [] F (RI res) := by
  unfold fX7_want at h
  refine V_aload_n dX7_want_0 rfl rfl rfl ?_
  refine V_iload_n dX7_want_1 rfl rfl rfl ?_
  refine A_callC (ci := 7) eI dX7_want_2 cl_X7_169 (by decide) rfl rfl (As := [.int l1]) (st := []) rfl rfl (Nat.le_of_ble_eq_true rfl) rfl h (fun _ _ h => cp_X7_isWant (d := d) h) fun v1 F1 h => ?_
  refine A_if_eq dX7_want_5 rfl rfl h (fun h => ?_) (fun h => ?_)
  · refine V_iconst dX7_want_20 ci_m1 rfl ?_
    exact A_ireturn dX7_want_21 rfl h
  · refine V_aload_n dX7_want_8 rfl rfl rfl ?_
    refine F_getR dX7_want_9 fl_X7_7 ly_82 rfl rfl ?_
    refine V_bipush dX7_want_12 cb_9 rfl ?_
    refine V_iload_n dX7_want_14 rfl rfl rfl ?_
    refine V_iadd dX7_want_15 rfl ?_
    refine A_ld0 dX7_want_16 rfl h fun v2 h => ?_
    refine V_goto dX7_want_17 rfl ?_
    exact A_ireturn dX7_want_21 rfl h
theorem cp_X7_want {N d : Nat} {l1 : Int32} {F F' : FF} {r : Int32} (h : fX7_want N l1 F = some (r, F')) : CP (d + 2) mX7_want [.ref 82, .int l1] F (fun r' F'' => r' = eI r ∧ F'' = F') := CP_I rfl (Nat.le_of_ble_eq_true rfl) (okX7_want h)
theorem okX7_puts {N d : Nat} {l1 : Int32} {l2 : Int32} {l3 : Int32} {F : FF} {res : Int32 × FF} (h : fX7_puts N l1 l2 l3 F = some res) : FV cX7_puts 5 RX7 (d) (some .int) none 0 [.ref 82, .int l1, .int l2, .int l3, .null] [] F (RI res) := by
  unfold fX7_puts at h
  refine V_iload_n dX7_puts_0 rfl rfl rfl ?_
  refine A_if_ne dX7_puts_1 rfl rfl h (fun h => ?_) (fun h => ?_)
  · refine V_aload_n dX7_puts_6 rfl rfl rfl ?_
    refine F_getR dX7_puts_7 fl_X7_7 ly_82 rfl rfl ?_
    refine V_iload_n dX7_puts_10 rfl rfl rfl ?_
    refine A_ld0 dX7_puts_11 rfl h fun v1 h => ?_
    refine V_istore dX7_puts_12 (by decide) rfl (ls' := [.ref 82, .int l1, .int l2, .int l3, .int v1]) rfl rfl ?_
    refine V_aload_n dX7_puts_14 rfl rfl rfl ?_
    refine F_getR dX7_puts_15 fl_X7_7 ly_82 rfl rfl ?_
    refine V_iload_n dX7_puts_18 rfl rfl rfl ?_
    refine V_iload_n dX7_puts_19 rfl rfl rfl ?_
    refine A_st0 dX7_puts_20 rfl h fun F1 h => ?_
    refine V_iload dX7_puts_21 rfl rfl ?_
    exact A_ireturn dX7_puts_23 rfl h
  · refine V_iconst dX7_puts_4 ci_m1 rfl ?_
    exact A_ireturn dX7_puts_5 rfl h
theorem cp_X7_puts {N d : Nat} {l1 : Int32} {l2 : Int32} {l3 : Int32} {F F' : FF} {r : Int32} (h : fX7_puts N l1 l2 l3 F = some (r, F')) : CP (d) mX7_puts [.ref 82, .int l1, .int l2, .int l3] F (fun r' F'' => r' = eI r ∧ F'' = F') := CP_I rfl (Nat.le_of_ble_eq_true rfl) (okX7_puts h)
theorem okX7_alter {N d : Nat} {l1 : Int32} {l2 : Int32} {F : FF} {res : Int32 × FF} (h : fX7_alter N l1 l2 F = some res) : FV cX7_alter 3 RX7 (d + 2) (some .int) none 0 [.ref 82, .int l1, .int l2] [] F (RI res) := by
  unfold fX7_alter at h
  refine V_aload_n dX7_alter_0 rfl rfl rfl ?_
  refine V_aload_n dX7_alter_1 rfl rfl rfl ?_
  refine V_iload_n dX7_alter_2 rfl rfl rfl ?_
  refine A_callC (ci := 7) eI dX7_alter_3 cl_X7_162 (by decide) rfl rfl (As := [.int l1]) (st := [.ref 82]) rfl rfl (Nat.le_of_ble_eq_true rfl) rfl h (fun _ _ h => cp_X7_isShelf (d := d) h) fun v1 F1 h => ?_
  refine V_midI (q := 26) ((if v1 = 0 then 0 else (if (pX7_in l2.toInt64 0 3 F1) = 0 then 0 else 1) : Int32)) [.ref 82] (fun yJ hy hJ => ?_) ?_
  · refine V_if_eq dX7_alter_6 rfl rfl (fun c => ?_) (fun c => ?_)
    · rw [if_pos c] at hy
      refine V_iconst dX7_alter_25 ci_0 rfl ?_
      rw [hy] at hJ
      exact hJ
    · rw [if_neg c] at hy
      refine V_iload_n dX7_alter_9 rfl rfl rfl ?_
      refine V_i2l dX7_alter_10 rfl ?_
      refine V_lconst dX7_alter_11 cl_0 rfl ?_
      refine V_ldc2 dX7_alter_12 kc_X7_172 rfl ?_
      refine P_callS dX7_alter_15 cl_X7_56 (cq_X7_in (d := d + 1)) (As := [.long l2.toInt64, .long 0, .long 3]) (st := [.ref 82]) rfl rfl (Nat.le_of_ble_eq_true rfl) rfl ?_
      refine V_if_eq dX7_alter_18 rfl rfl (fun c => ?_) (fun c => ?_)
      · rw [if_pos c] at hy
        refine V_iconst dX7_alter_25 ci_0 rfl ?_
        rw [hy] at hJ
        exact hJ
      · rw [if_neg c] at hy
        refine V_iconst dX7_alter_21 ci_1 rfl ?_
        refine V_goto dX7_alter_22 rfl ?_
        rw [hy] at hJ
        exact hJ
  · refine V_iload_n dX7_alter_26 rfl rfl rfl ?_
    refine V_iload_n dX7_alter_27 rfl rfl rfl ?_
    refine A_callC (ci := 7) eI dX7_alter_28 cl_X7_174 (by decide) rfl rfl (As := [.int ((if v1 = 0 then 0 else (if (pX7_in l2.toInt64 0 3 F1) = 0 then 0 else 1) : Int32)), .int l1, .int l2]) (st := []) rfl rfl (Nat.le_of_ble_eq_true rfl) rfl h (fun _ _ h => cp_X7_puts (d := d + 1) h) fun v2 F2 h => ?_
    exact A_ireturn dX7_alter_31 rfl h
theorem cp_X7_alter {N d : Nat} {l1 : Int32} {l2 : Int32} {F F' : FF} {r : Int32} (h : fX7_alter N l1 l2 F = some (r, F')) : CP (d + 2) mX7_alter [.ref 82, .int l1, .int l2] F (fun r' F'' => r' = eI r ∧ F'' = F') := CP_I rfl (Nat.le_of_ble_eq_true rfl) (okX7_alter h)
theorem okX7_put {N d : Nat} {l1 : Int32} {F : FF} {res : Int32 × FF} (h : fX7_put N l1 F = some res) : FV cX7_put 3 RX7 (d + 1) (some .int) none 0 [.ref 82, .int l1, .null] [] F (RI res) := by
  unfold fX7_put at h
  refine V_iload_n dX7_put_0 rfl rfl rfl ?_
  refine V_i2l dX7_put_1 rfl ?_
  refine V_lconst dX7_put_2 cl_0 rfl ?_
  refine V_ldc2 dX7_put_3 kc_X7_172 rfl ?_
  refine P_callS dX7_put_6 cl_X7_56 (cq_X7_in (d := d)) (As := [.long l1.toInt64, .long 0, .long 3]) (st := []) rfl rfl (Nat.le_of_ble_eq_true rfl) rfl ?_
  refine A_if_ne dX7_put_9 rfl rfl h (fun h => ?_) (fun h => ?_)
  · refine V_aload_n dX7_put_14 rfl rfl rfl ?_
    refine F_getR dX7_put_15 fl_X7_7 ly_82 rfl rfl ?_
    refine V_bipush dX7_put_18 cb_8 rfl ?_
    refine F_iald dX7_put_20 ly_83 (j := 8) (by decide) (by decide) (by decide) rfl ?_
    refine V_istore_n dX7_put_21 rfl (by decide) rfl (ls' := [.ref 82, .int l1, .int (F 83 8)]) rfl rfl ?_
    refine V_iload_n dX7_put_22 rfl rfl rfl ?_
    refine V_iconst dX7_put_23 ci_4 rfl ?_
    refine A_icmp_ne dX7_put_24 rfl rfl h (fun h => ?_) (fun h => ?_)
    · refine V_aload_n dX7_put_30 rfl rfl rfl ?_
      refine F_getR dX7_put_31 fl_X7_7 ly_82 rfl rfl ?_
      refine V_iload_n dX7_put_34 rfl rfl rfl ?_
      refine V_iload_n dX7_put_35 rfl rfl rfl ?_
      refine A_st0 dX7_put_36 rfl h fun F1 h => ?_
      refine V_aload_n dX7_put_37 rfl rfl rfl ?_
      refine V_iload_n dX7_put_38 rfl rfl rfl ?_
      refine A_callC (ci := 7) eU dX7_put_39 cl_X7_132 (by decide) rfl rfl (As := [.int (F 83 8)]) (st := []) rfl rfl (Nat.le_of_ble_eq_true rfl) rfl h (fun _ _ h => cp_X7_ordersFirst (d := d) h) fun _ F2 h => ?_
      refine V_aload_n dX7_put_42 rfl rfl rfl ?_
      refine F_getR dX7_put_43 fl_X7_7 ly_82 rfl rfl ?_
      refine V_bipush dX7_put_46 cb_8 rfl ?_
      refine V_dup2 dX7_put_48 rfl rfl rfl ?_
      refine F_iald dX7_put_49 ly_83 (j := 8) (by decide) (by decide) (by decide) rfl ?_
      refine V_iconst dX7_put_50 ci_1 rfl ?_
      refine V_iadd dX7_put_51 rfl ?_
      refine A_sn0 (j := 8) dX7_put_52 ly_83 (by decide) (by decide) (by decide) rfl h fun F3 h => ?_
      refine V_aload_n dX7_put_53 rfl rfl rfl ?_
      refine F_getR dX7_put_54 fl_X7_7 ly_82 rfl rfl ?_
      refine V_bipush dX7_put_57 cb_8 rfl ?_
      refine F_iald dX7_put_59 ly_83 (j := 8) (by decide) (by decide) (by decide) rfl ?_
      exact A_ireturn dX7_put_60 rfl h
    · refine V_bipush dX7_put_27 cb_m3 rfl ?_
      exact A_ireturn dX7_put_29 rfl h
  · refine V_iconst dX7_put_12 ci_m1 rfl ?_
    exact A_ireturn dX7_put_13 rfl h
theorem cp_X7_put {N d : Nat} {l1 : Int32} {F F' : FF} {r : Int32} (h : fX7_put N l1 F = some (r, F')) : CP (d + 1) mX7_put [.ref 82, .int l1] F (fun r' F'' => r' = eI r ∧ F'' = F') := CP_I rfl (Nat.le_of_ble_eq_true rfl) (okX7_put h)
theorem okX7_cut {N d : Nat} {l1 : Int32} {F : FF} {res : Int32 × FF} (h : fX7_cut N l1 F = some res) : FV cX7_cut 2 RX7 (d + 1) (some .int) none 0 [.ref 82, .int l1] [] F (RI res) := by
  unfold fX7_cut at h
  refine V_aload_n dX7_cut_0 rfl rfl rfl ?_
  refine V_iload_n dX7_cut_1 rfl rfl rfl ?_
  refine V_i2l dX7_cut_2 rfl ?_
  refine V_lconst dX7_cut_3 cl_0 rfl ?_
  refine V_aload_n dX7_cut_4 rfl rfl rfl ?_
  refine F_getR dX7_cut_5 fl_X7_7 ly_82 rfl rfl ?_
  refine V_bipush dX7_cut_8 cb_8 rfl ?_
  refine F_iald dX7_cut_10 ly_83 (j := 8) (by decide) (by decide) (by decide) rfl ?_
  refine V_i2l dX7_cut_11 rfl ?_
  refine P_callS dX7_cut_12 cl_X7_56 (cq_X7_in (d := d)) (As := [.long l1.toInt64, .long 0, .long ((F 83 8).toInt64)]) (st := [.ref 82]) rfl rfl (Nat.le_of_ble_eq_true rfl) rfl ?_
  refine V_bipush dX7_cut_15 cb_8 rfl ?_
  refine V_iload_n dX7_cut_17 rfl rfl rfl ?_
  refine A_callC (ci := 7) eI dX7_cut_18 cl_X7_174 (by decide) rfl rfl (As := [.int (pX7_in l1.toInt64 0 ((F 83 8).toInt64) F), .int 8, .int l1]) (st := []) rfl rfl (Nat.le_of_ble_eq_true rfl) rfl h (fun _ _ h => cp_X7_puts (d := d) h) fun v1 F1 h => ?_
  exact A_ireturn dX7_cut_21 rfl h
theorem cp_X7_cut {N d : Nat} {l1 : Int32} {F F' : FF} {r : Int32} (h : fX7_cut N l1 F = some (r, F')) : CP (d + 1) mX7_cut [.ref 82, .int l1] F (fun r' F'' => r' = eI r ∧ F'' = F') := CP_I rfl (Nat.le_of_ble_eq_true rfl) (okX7_cut h)
theorem okX7_standsOn_L63 {N d : Nat} {l4 : Int32} {l5 : Int32} {l6 : Int32} {res : Unit × FF} : ∀ (n : Nat) (l7 : Int32) (F : FF), fX7_standsOn_L63 N l4 l5 l6 n l7 F = some res → FV cX7_standsOn 8 RX7 (d) none none 63 [.ref 82, .null, .null, .null, .int l4, .int l5, .int l6, .int l7] [] F (RU res) := by
  intro n
  induction n with
  | zero =>
    intro l7 F h
    rw [fX7_standsOn_L63.eq_1] at h
    cases h
  | succ n ih =>
    intro l7 F h
    rw [fX7_standsOn_L63.eq_2] at h
    refine V_iload dX7_standsOn_63 rfl rfl ?_
    refine V_iload dX7_standsOn_65 rfl rfl ?_
    refine A_icmp_ge dX7_standsOn_67 rfl rfl h (fun h => ?_) (fun h => ?_)
    · refine V_aload_n dX7_standsOn_98 rfl rfl rfl ?_
      refine F_getR dX7_standsOn_99 fl_X7_7 ly_82 rfl rfl ?_
      refine V_iload dX7_standsOn_102 rfl rfl ?_
      refine V_iload dX7_standsOn_104 rfl rfl ?_
      refine V_iadd dX7_standsOn_106 rfl ?_
      refine V_iload dX7_standsOn_107 rfl rfl ?_
      refine A_st0 dX7_standsOn_109 rfl h fun F1 h => ?_
      exact A_return dX7_standsOn_110 rfl h
    · refine V_aload_n dX7_standsOn_70 rfl rfl rfl ?_
      refine F_getR dX7_standsOn_71 fl_X7_7 ly_82 rfl rfl ?_
      refine V_iload dX7_standsOn_74 rfl rfl ?_
      refine V_iload dX7_standsOn_76 rfl rfl ?_
      refine V_iadd dX7_standsOn_78 rfl ?_
      refine V_aload_n dX7_standsOn_79 rfl rfl rfl ?_
      refine F_getR dX7_standsOn_80 fl_X7_7 ly_82 rfl rfl ?_
      refine V_iload dX7_standsOn_83 rfl rfl ?_
      refine V_iload dX7_standsOn_85 rfl rfl ?_
      refine V_iadd dX7_standsOn_87 rfl ?_
      refine V_iconst dX7_standsOn_88 ci_1 rfl ?_
      refine V_iadd dX7_standsOn_89 rfl ?_
      refine A_ld0 dX7_standsOn_90 rfl h fun v1 h => ?_
      refine A_st0 dX7_standsOn_91 rfl h fun F2 h => ?_
      refine V_iinc dX7_standsOn_92 (v := l7 + 1) rfl (by rw [ci_1]) rfl (ls' := [.ref 82, .null, .null, .null, .int l4, .int l5, .int l6, .int (l7 + 1)]) rfl rfl ?_
      refine V_goto dX7_standsOn_95 rfl ?_
      exact ih (l7 + 1) F2 h
theorem okX7_standsOn_L25 {N d : Nat} {l3 : Int32} {l4 : Int32} {l5 : Int32} {l6 : Int32} {res : Unit × FF} : ∀ (n : Nat) (l7 : Int32) (F : FF), fX7_standsOn_L25 N l3 l4 l5 l6 n l7 F = some res → FV cX7_standsOn 8 RX7 (d) none none 25 [.ref 82, .null, .null, .int l3, .int l4, .int l5, .int l6, .int l7] [] F (RU res) := by
  intro n
  induction n with
  | zero =>
    intro l7 F h
    rw [fX7_standsOn_L25.eq_1] at h
    cases h
  | succ n ih =>
    intro l7 F h
    rw [fX7_standsOn_L25.eq_2] at h
    refine V_iload dX7_standsOn_25 rfl rfl ?_
    refine V_iload dX7_standsOn_27 rfl rfl ?_
    refine A_icmp_le dX7_standsOn_29 rfl rfl h (fun h => ?_) (fun h => ?_)
    · refine V_iload_n dX7_standsOn_60 rfl rfl rfl ?_
      refine V_istore dX7_standsOn_61 (by decide) rfl (ls' := [.ref 82, .null, .null, .int l3, .int l4, .int l5, .int l6, .int l3]) rfl rfl ?_
      refine V_weak [true, false, false, false, true, true, true, true] rfl ?_
      exact okX7_standsOn_L63 _ _ _ h
    · refine V_aload_n dX7_standsOn_32 rfl rfl rfl ?_
      refine F_getR dX7_standsOn_33 fl_X7_7 ly_82 rfl rfl ?_
      refine V_iload dX7_standsOn_36 rfl rfl ?_
      refine V_iload dX7_standsOn_38 rfl rfl ?_
      refine V_iadd dX7_standsOn_40 rfl ?_
      refine V_aload_n dX7_standsOn_41 rfl rfl rfl ?_
      refine F_getR dX7_standsOn_42 fl_X7_7 ly_82 rfl rfl ?_
      refine V_iload dX7_standsOn_45 rfl rfl ?_
      refine V_iload dX7_standsOn_47 rfl rfl ?_
      refine V_iadd dX7_standsOn_49 rfl ?_
      refine V_iconst dX7_standsOn_50 ci_1 rfl ?_
      refine V_isub dX7_standsOn_51 rfl ?_
      refine A_ld0 dX7_standsOn_52 rfl h fun v1 h => ?_
      refine A_st0 dX7_standsOn_53 rfl h fun F1 h => ?_
      refine V_iinc dX7_standsOn_54 (v := l7 + ((-1))) rfl (by rw [ci_m1]) rfl (ls' := [.ref 82, .null, .null, .int l3, .int l4, .int l5, .int l6, .int (l7 + ((-1)))]) rfl rfl ?_
      refine V_goto dX7_standsOn_57 rfl ?_
      exact ih (l7 + ((-1))) F1 h
theorem okX7_standsOn {N d : Nat} {l1 : Int32} {l2 : Int32} {l3 : Int32} {l4 : Int32} {F : FF} {res : Unit × FF} (h : fX7_standsOn N l1 l2 l3 l4 F = some res) : FV cX7_standsOn 8 RX7 (d) none none 0 [.ref 82, .int l1, .int l2, .int l3, .int l4, .null, .null, .null] [] F (RU res) := by
  unfold fX7_standsOn at h
  refine V_iload_n dX7_standsOn_0 rfl rfl rfl ?_
  refine V_bipush dX7_standsOn_1 cb_27 rfl ?_
  refine V_iadd dX7_standsOn_3 rfl ?_
  refine V_bipush dX7_standsOn_4 cb_6 rfl ?_
  refine V_iload_n dX7_standsOn_6 rfl rfl rfl ?_
  refine V_imul dX7_standsOn_7 rfl ?_
  refine V_iadd dX7_standsOn_8 rfl ?_
  refine V_istore dX7_standsOn_9 (by decide) rfl (ls' := [.ref 82, .int l1, .int l2, .int l3, .int l4, .int ((l1 + 27) + (6 * l2)), .null, .null]) rfl rfl ?_
  refine V_aload_n dX7_standsOn_11 rfl rfl rfl ?_
  refine F_getR dX7_standsOn_12 fl_X7_7 ly_82 rfl rfl ?_
  refine V_iload dX7_standsOn_15 rfl rfl ?_
  refine V_iload_n dX7_standsOn_17 rfl rfl rfl ?_
  refine V_iadd dX7_standsOn_18 rfl ?_
  refine A_ld0 dX7_standsOn_19 rfl h fun v1 h => ?_
  refine V_istore dX7_standsOn_20 (by decide) rfl (ls' := [.ref 82, .int l1, .int l2, .int l3, .int l4, .int ((l1 + 27) + (6 * l2)), .int v1, .null]) rfl rfl ?_
  refine V_iload_n dX7_standsOn_22 rfl rfl rfl ?_
  refine V_istore dX7_standsOn_23 (by decide) rfl (ls' := [.ref 82, .int l1, .int l2, .int l3, .int l4, .int ((l1 + 27) + (6 * l2)), .int v1, .int l3]) rfl rfl ?_
  refine V_weak [true, false, false, true, true, true, true, true] rfl ?_
  exact okX7_standsOn_L25 _ _ _ h
theorem cp_X7_standsOn {N d : Nat} {l1 : Int32} {l2 : Int32} {l3 : Int32} {l4 : Int32} {F F' : FF} {r : Unit} (h : fX7_standsOn N l1 l2 l3 l4 F = some (r, F')) : CP (d) mX7_standsOn [.ref 82, .int l1, .int l2, .int l3, .int l4] F (fun r' F'' => r' = eU r ∧ F'' = F') := CP_U rfl (Nat.le_of_ble_eq_true rfl) (okX7_standsOn h)
theorem okX7_stand {N d : Nat} {l1 : Int32} {l2 : Int32} {l3 : Int32} {F : FF} {res : Int32 × FF} (h : fX7_stand N l1 l2 l3 F = some res) : FV cX7_stand 5 RX7 (d + 2) (some .int) none 0 [.ref 82, .int l1, .int l2, .int l3, .null] [] F (RI res) := by
  unfold fX7_stand at h
  refine V_aload_n dX7_stand_0 rfl rfl rfl ?_
  refine V_iload_n dX7_stand_1 rfl rfl rfl ?_
  refine A_callC (ci := 7) eI dX7_stand_2 cl_X7_162 (by decide) rfl rfl (As := [.int l1]) (st := []) rfl rfl (Nat.le_of_ble_eq_true rfl) rfl h (fun _ _ h => cp_X7_isShelf (d := d) h) fun v1 F1 h => ?_
  refine A_if_eq dX7_stand_5 rfl rfl h (fun h => ?_) (fun h => ?_)
  · refine V_iconst dX7_stand_24 ci_m1 rfl ?_
    exact A_ireturn dX7_stand_25 rfl h
  · refine V_aload_n dX7_stand_8 rfl rfl rfl ?_
    refine V_iload_n dX7_stand_9 rfl rfl rfl ?_
    refine A_callC (ci := 7) eI dX7_stand_10 cl_X7_166 (by decide) rfl rfl (As := [.int l2]) (st := []) rfl rfl (Nat.le_of_ble_eq_true rfl) rfl h (fun _ _ h => cp_X7_isBook (d := d) h) fun v2 F2 h => ?_
    refine A_if_eq dX7_stand_13 rfl rfl h (fun h => ?_) (fun h => ?_)
    · refine V_iconst dX7_stand_24 ci_m1 rfl ?_
      exact A_ireturn dX7_stand_25 rfl h
    · refine V_aload_n dX7_stand_16 rfl rfl rfl ?_
      refine V_iload_n dX7_stand_17 rfl rfl rfl ?_
      refine A_callC (ci := 7) eI dX7_stand_18 cl_X7_166 (by decide) rfl rfl (As := [.int l3]) (st := []) rfl rfl (Nat.le_of_ble_eq_true rfl) rfl h (fun _ _ h => cp_X7_isBook (d := d) h) fun v3 F3 h => ?_
      refine A_if_ne dX7_stand_21 rfl rfl h (fun h => ?_) (fun h => ?_)
      · refine V_aload_n dX7_stand_26 rfl rfl rfl ?_
        refine V_iconst dX7_stand_27 ci_0 rfl ?_
        refine V_iload_n dX7_stand_28 rfl rfl rfl ?_
        refine V_iload_n dX7_stand_29 rfl rfl rfl ?_
        refine A_callC (ci := 7) eI dX7_stand_30 cl_X7_144 (by decide) rfl rfl (As := [.int 0, .int l1, .int l2]) (st := []) rfl rfl (Nat.le_of_ble_eq_true rfl) rfl h (fun _ _ h => cp_X7_placeOn (d := d + 1) h) fun v4 F4 h => ?_
        refine V_istore dX7_stand_33 (by decide) rfl (ls' := [.ref 82, .int l1, .int l2, .int l3, .int v4]) rfl rfl ?_
        refine V_aload_n dX7_stand_35 rfl rfl rfl ?_
        refine V_iconst dX7_stand_36 ci_0 rfl ?_
        refine V_iload_n dX7_stand_37 rfl rfl rfl ?_
        refine V_iload dX7_stand_38 rfl rfl ?_
        refine V_iload_n dX7_stand_40 rfl rfl rfl ?_
        refine A_callC (ci := 7) eU dX7_stand_41 cl_X7_152 (by decide) rfl rfl (As := [.int 0, .int l1, .int v4, .int l3]) (st := []) rfl rfl (Nat.le_of_ble_eq_true rfl) rfl h (fun _ _ h => cp_X7_standsOn (d := d + 1) h) fun _ F5 h => ?_
        refine V_iload dX7_stand_44 rfl rfl ?_
        exact A_ireturn dX7_stand_46 rfl h
      · refine V_iconst dX7_stand_24 ci_m1 rfl ?_
        exact A_ireturn dX7_stand_25 rfl h
theorem cp_X7_stand {N d : Nat} {l1 : Int32} {l2 : Int32} {l3 : Int32} {F F' : FF} {r : Int32} (h : fX7_stand N l1 l2 l3 F = some (r, F')) : CP (d + 2) mX7_stand [.ref 82, .int l1, .int l2, .int l3] F (fun r' F'' => r' = eI r ∧ F'' = F') := CP_I rfl (Nat.le_of_ble_eq_true rfl) (okX7_stand h)
theorem okX7_set_b22 {N d : Nat} {l1 : Int32} {l2 : Int32} {s1 : Int32} {F : FF} {res : Int32 × FF} (h : fX7_set_b22 N l1 l2 s1 F = some res) : FV cX7_set 3 RX7 (d + 2) (some .int) none 22 [.null, .int l1, .int l2] [.int s1, .ref 82] F (RI res) := by
  unfold fX7_set_b22 at h
  refine V_bipush dX7_set_22 cb_9 rfl ?_
  refine V_iload_n dX7_set_24 rfl rfl rfl ?_
  refine V_iadd dX7_set_25 rfl ?_
  refine V_iload_n dX7_set_26 rfl rfl rfl ?_
  refine A_callC (ci := 7) eI dX7_set_27 cl_X7_174 (by decide) rfl rfl (As := [.int s1, .int (9 + l1), .int l2]) (st := []) rfl rfl (Nat.le_of_ble_eq_true rfl) rfl h (fun _ _ h => cp_X7_puts (d := d + 1) h) fun v1 F1 h => ?_
  exact A_ireturn dX7_set_30 rfl h
theorem okX7_set_b21 {N d : Nat} {l1 : Int32} {l2 : Int32} {F : FF} {res : Int32 × FF} (h : fX7_set_b21 N l1 l2 F = some res) : FV cX7_set 3 RX7 (d + 2) (some .int) none 21 [.null, .int l1, .int l2] [.ref 82] F (RI res) := by
  unfold fX7_set_b21 at h
  refine V_iconst dX7_set_21 ci_0 rfl ?_
  exact okX7_set_b22 h
theorem okX7_set {N d : Nat} {l1 : Int32} {l2 : Int32} {F : FF} {res : Int32 × FF} (h : fX7_set N l1 l2 F = some res) : FV cX7_set 3 RX7 (d + 2) (some .int) none 0 [.ref 82, .int l1, .int l2] [] F (RI res) := by
  unfold fX7_set at h
  refine V_aload_n dX7_set_0 rfl rfl rfl ?_
  refine V_aload_n dX7_set_1 rfl rfl rfl ?_
  refine V_iload_n dX7_set_2 rfl rfl rfl ?_
  refine A_callC (ci := 7) eI dX7_set_3 cl_X7_169 (by decide) rfl rfl (As := [.int l1]) (st := [.ref 82]) rfl rfl (Nat.le_of_ble_eq_true rfl) rfl h (fun _ _ h => cp_X7_isWant (d := d) h) fun v1 F1 h => ?_
  refine A_if_eq dX7_set_6 rfl rfl h (fun h => ?_) (fun h => ?_)
  · refine V_weak [false, true, true] rfl ?_
    exact okX7_set_b21 h
  · refine V_aload_n dX7_set_9 rfl rfl rfl ?_
    refine V_iload_n dX7_set_10 rfl rfl rfl ?_
    refine A_callC (ci := 7) eI dX7_set_11 cl_X7_166 (by decide) rfl rfl (As := [.int l2]) (st := [.ref 82]) rfl rfl (Nat.le_of_ble_eq_true rfl) rfl h (fun _ _ h => cp_X7_isBook (d := d) h) fun v2 F2 h => ?_
    refine V_midI (q := 22) ((if v2 = 0 then 0 else 1 : Int32)) [.ref 82] (fun yJ hy hJ => ?_) ?_
    · refine V_if_eq dX7_set_14 rfl rfl (fun c => ?_) (fun c => ?_)
      · rw [if_pos c] at hy
        refine V_iconst dX7_set_21 ci_0 rfl ?_
        rw [hy] at hJ
        exact hJ
      · rw [if_neg c] at hy
        refine V_iconst dX7_set_17 ci_1 rfl ?_
        refine V_goto dX7_set_18 rfl ?_
        rw [hy] at hJ
        exact hJ
    · refine V_bipush dX7_set_22 cb_9 rfl ?_
      refine V_iload_n dX7_set_24 rfl rfl rfl ?_
      refine V_iadd dX7_set_25 rfl ?_
      refine V_iload_n dX7_set_26 rfl rfl rfl ?_
      refine A_callC (ci := 7) eI dX7_set_27 cl_X7_174 (by decide) rfl rfl (As := [.int ((if v2 = 0 then 0 else 1 : Int32)), .int (9 + l1), .int l2]) (st := []) rfl rfl (Nat.le_of_ble_eq_true rfl) rfl h (fun _ _ h => cp_X7_puts (d := d + 1) h) fun v3 F3 h => ?_
      exact A_ireturn dX7_set_30 rfl h
theorem cp_X7_set {N d : Nat} {l1 : Int32} {l2 : Int32} {F F' : FF} {r : Int32} (h : fX7_set N l1 l2 F = some (r, F')) : CP (d + 2) mX7_set [.ref 82, .int l1, .int l2] F (fun r' F'' => r' = eI r ∧ F'' = F') := CP_I rfl (Nat.le_of_ble_eq_true rfl) (okX7_set h)
theorem okX7_adds {N d : Nat} {l1 : Int32} {F : FF} {res : Int32 × FF} (h : fX7_adds N l1 F = some res) : FV cX7_adds 2 RX7 (d + 2) (some .int) none 0 [.ref 82, .int l1] [] F (RI res) := by
  unfold fX7_adds at h
  refine V_aload_n dX7_adds_0 rfl rfl rfl ?_
  refine V_iload_n dX7_adds_1 rfl rfl rfl ?_
  refine A_callC (ci := 7) eI dX7_adds_2 cl_X7_166 (by decide) rfl rfl (As := [.int l1]) (st := []) rfl rfl (Nat.le_of_ble_eq_true rfl) rfl h (fun _ _ h => cp_X7_isBook (d := d) h) fun v1 F1 h => ?_
  refine A_if_ne dX7_adds_5 rfl rfl h (fun h => ?_) (fun h => ?_)
  · refine V_aload_n dX7_adds_10 rfl rfl rfl ?_
    refine F_getR dX7_adds_11 fl_X7_7 ly_82 rfl rfl ?_
    refine V_bipush dX7_adds_14 cb_25 rfl ?_
    refine F_iald dX7_adds_16 ly_83 (j := 25) (by decide) (by decide) (by decide) rfl ?_
    refine V_bipush dX7_adds_17 cb_16 rfl ?_
    refine A_icmp_ne dX7_adds_19 rfl rfl h (fun h => ?_) (fun h => ?_)
    · refine V_aload_n dX7_adds_25 rfl rfl rfl ?_
      refine F_getR dX7_adds_26 fl_X7_7 ly_82 rfl rfl ?_
      refine V_bipush dX7_adds_29 cb_9 rfl ?_
      refine V_aload_n dX7_adds_31 rfl rfl rfl ?_
      refine F_getR dX7_adds_32 fl_X7_7 ly_82 rfl rfl ?_
      refine V_bipush dX7_adds_35 cb_25 rfl ?_
      refine F_iald dX7_adds_37 ly_83 (j := 25) (by decide) (by decide) (by decide) rfl ?_
      refine V_iadd dX7_adds_38 rfl ?_
      refine V_iload_n dX7_adds_39 rfl rfl rfl ?_
      refine A_st0 dX7_adds_40 rfl h fun F2 h => ?_
      refine V_aload_n dX7_adds_41 rfl rfl rfl ?_
      refine F_getR dX7_adds_42 fl_X7_7 ly_82 rfl rfl ?_
      refine V_bipush dX7_adds_45 cb_25 rfl ?_
      refine V_dup2 dX7_adds_47 rfl rfl rfl ?_
      refine F_iald dX7_adds_48 ly_83 (j := 25) (by decide) (by decide) (by decide) rfl ?_
      refine V_iconst dX7_adds_49 ci_1 rfl ?_
      refine V_iadd dX7_adds_50 rfl ?_
      refine A_sn0 (j := 25) dX7_adds_51 ly_83 (by decide) (by decide) (by decide) rfl h fun F3 h => ?_
      refine V_aload_n dX7_adds_52 rfl rfl rfl ?_
      refine F_getR dX7_adds_53 fl_X7_7 ly_82 rfl rfl ?_
      refine V_bipush dX7_adds_56 cb_25 rfl ?_
      refine F_iald dX7_adds_58 ly_83 (j := 25) (by decide) (by decide) (by decide) rfl ?_
      exact A_ireturn dX7_adds_59 rfl h
    · refine V_bipush dX7_adds_22 cb_m3 rfl ?_
      exact A_ireturn dX7_adds_24 rfl h
  · refine V_iconst dX7_adds_8 ci_m1 rfl ?_
    exact A_ireturn dX7_adds_9 rfl h
theorem cp_X7_adds {N d : Nat} {l1 : Int32} {F F' : FF} {r : Int32} (h : fX7_adds N l1 F = some (r, F')) : CP (d + 2) mX7_adds [.ref 82, .int l1] F (fun r' F'' => r' = eI r ∧ F'' = F') := CP_I rfl (Nat.le_of_ble_eq_true rfl) (okX7_adds h)
theorem okX7_add {N d : Nat} {l1 : Int32} {F : FF} {res : Int32 × FF} (h : fX7_add N l1 F = some res) : FV cX7_add 2 RX7 (d + 3) (some .int) none 0 [.ref 82, .int l1] [] F (RI res) := by
  unfold fX7_add at h
  refine V_aload_n dX7_add_0 rfl rfl rfl ?_
  refine V_iload_n dX7_add_1 rfl rfl rfl ?_
  refine A_callC (ci := 7) eI dX7_add_2 cl_X7_178 (by decide) rfl rfl (As := [.int l1]) (st := []) rfl rfl (Nat.le_of_ble_eq_true rfl) rfl h (fun _ _ h => cp_X7_adds (d := d) h) fun v1 F1 h => ?_
  exact A_ireturn dX7_add_5 rfl h
theorem cp_X7_add {N d : Nat} {l1 : Int32} {F F' : FF} {r : Int32} (h : fX7_add N l1 F = some (r, F')) : CP (d + 3) mX7_add [.ref 82, .int l1] F (fun r' F'' => r' = eI r ∧ F'' = F') := CP_I rfl (Nat.le_of_ble_eq_true rfl) (okX7_add h)
theorem okX7_drop {N d : Nat} {l1 : Int32} {F : FF} {res : Int32 × FF} (h : fX7_drop N l1 F = some res) : FV cX7_drop 2 RX7 (d + 1) (some .int) none 0 [.ref 82, .int l1] [] F (RI res) := by
  unfold fX7_drop at h
  refine V_aload_n dX7_drop_0 rfl rfl rfl ?_
  refine V_iload_n dX7_drop_1 rfl rfl rfl ?_
  refine V_i2l dX7_drop_2 rfl ?_
  refine V_lconst dX7_drop_3 cl_0 rfl ?_
  refine V_aload_n dX7_drop_4 rfl rfl rfl ?_
  refine F_getR dX7_drop_5 fl_X7_7 ly_82 rfl rfl ?_
  refine V_bipush dX7_drop_8 cb_25 rfl ?_
  refine F_iald dX7_drop_10 ly_83 (j := 25) (by decide) (by decide) (by decide) rfl ?_
  refine V_i2l dX7_drop_11 rfl ?_
  refine P_callS dX7_drop_12 cl_X7_56 (cq_X7_in (d := d)) (As := [.long l1.toInt64, .long 0, .long ((F 83 25).toInt64)]) (st := [.ref 82]) rfl rfl (Nat.le_of_ble_eq_true rfl) rfl ?_
  refine V_bipush dX7_drop_15 cb_25 rfl ?_
  refine V_iload_n dX7_drop_17 rfl rfl rfl ?_
  refine A_callC (ci := 7) eI dX7_drop_18 cl_X7_174 (by decide) rfl rfl (As := [.int (pX7_in l1.toInt64 0 ((F 83 25).toInt64) F), .int 25, .int l1]) (st := []) rfl rfl (Nat.le_of_ble_eq_true rfl) rfl h (fun _ _ h => cp_X7_puts (d := d) h) fun v1 F1 h => ?_
  exact A_ireturn dX7_drop_21 rfl h
theorem cp_X7_drop {N d : Nat} {l1 : Int32} {F F' : FF} {r : Int32} (h : fX7_drop N l1 F = some (r, F')) : CP (d + 1) mX7_drop [.ref 82, .int l1] F (fun r' F'' => r' = eI r ∧ F'' = F') := CP_I rfl (Nat.le_of_ble_eq_true rfl) (okX7_drop h)
theorem okX7_goalOn_L66 {N d : Nat} {l3 : Int32} {l5 : Int32} {l6 : Int32} {res : Int32 × FF} : ∀ (n : Nat) (l7 : Int32) (F : FF), fX7_goalOn_L66 N l3 l5 l6 n l7 F = some res → FV cX7_goalOn 8 RX7 (d) (some .int) none 66 [.ref 82, .null, .null, .int l3, .null, .int l5, .int l6, .int l7] [] F (RI res) := by
  intro n
  induction n with
  | zero =>
    intro l7 F h
    rw [fX7_goalOn_L66.eq_1] at h
    cases h
  | succ n ih =>
    intro l7 F h
    rw [fX7_goalOn_L66.eq_2] at h
    refine V_iload dX7_goalOn_66 rfl rfl ?_
    refine V_iload_n dX7_goalOn_68 rfl rfl rfl ?_
    refine A_icmp_ge dX7_goalOn_69 rfl rfl h (fun h => ?_) (fun h => ?_)
    · refine V_iload_n dX7_goalOn_119 rfl rfl rfl ?_
      exact A_ireturn dX7_goalOn_120 rfl h
    · refine V_aload_n dX7_goalOn_72 rfl rfl rfl ?_
      refine F_getR dX7_goalOn_73 fl_X7_7 ly_82 rfl rfl ?_
      refine V_iload dX7_goalOn_76 rfl rfl ?_
      refine V_aload_n dX7_goalOn_78 rfl rfl rfl ?_
      refine F_getR dX7_goalOn_79 fl_X7_7 ly_82 rfl rfl ?_
      refine V_iload dX7_goalOn_82 rfl rfl ?_
      refine V_iload dX7_goalOn_84 rfl rfl ?_
      refine V_iadd dX7_goalOn_86 rfl ?_
      refine A_ld0 dX7_goalOn_87 rfl h fun v1 h => ?_
      refine V_iadd dX7_goalOn_88 rfl ?_
      refine A_ld0 dX7_goalOn_89 rfl h fun v2 h => ?_
      refine V_aload_n dX7_goalOn_90 rfl rfl rfl ?_
      refine F_getR dX7_goalOn_91 fl_X7_7 ly_82 rfl rfl ?_
      refine V_iload dX7_goalOn_94 rfl rfl ?_
      refine V_aload_n dX7_goalOn_96 rfl rfl rfl ?_
      refine F_getR dX7_goalOn_97 fl_X7_7 ly_82 rfl rfl ?_
      refine V_iload dX7_goalOn_100 rfl rfl ?_
      refine V_iload_n dX7_goalOn_102 rfl rfl rfl ?_
      refine V_iadd dX7_goalOn_103 rfl ?_
      refine A_ld0 dX7_goalOn_104 rfl h fun v3 h => ?_
      refine V_iadd dX7_goalOn_105 rfl ?_
      refine A_ld0 dX7_goalOn_106 rfl h fun v4 h => ?_
      refine A_icmp_ge dX7_goalOn_107 rfl rfl h (fun h => ?_) (fun h => ?_)
      · refine V_iinc dX7_goalOn_113 (v := l7 + 1) rfl (by rw [ci_1]) rfl (ls' := [.ref 82, .null, .null, .int l3, .null, .int l5, .int l6, .int (l7 + 1)]) rfl rfl ?_
        refine V_goto dX7_goalOn_116 rfl ?_
        exact ih (l7 + 1) F h
      · refine V_iload dX7_goalOn_110 rfl rfl ?_
        exact A_ireturn dX7_goalOn_112 rfl h
theorem okX7_goalOn {N d : Nat} {l1 : Int32} {l2 : Int32} {l3 : Int32} {F : FF} {res : Int32 × FF} (h : fX7_goalOn N l1 l2 l3 F = some res) : FV cX7_goalOn 8 RX7 (d) (some .int) none 0 [.ref 82, .int l1, .int l2, .int l3, .null, .null, .null, .null] [] F (RI res) := by
  unfold fX7_goalOn at h
  refine V_aload_n dX7_goalOn_0 rfl rfl rfl ?_
  refine F_getR dX7_goalOn_1 fl_X7_7 ly_82 rfl rfl ?_
  refine V_iload_n dX7_goalOn_4 rfl rfl rfl ?_
  refine V_iload_n dX7_goalOn_5 rfl rfl rfl ?_
  refine V_iadd dX7_goalOn_6 rfl ?_
  refine A_ld0 dX7_goalOn_7 rfl h fun v1 h => ?_
  refine V_istore dX7_goalOn_8 (by decide) rfl (ls' := [.ref 82, .int l1, .int l2, .int l3, .int v1, .null, .null, .null]) rfl rfl ?_
  refine V_iload dX7_goalOn_10 rfl rfl ?_
  refine A_if_eq dX7_goalOn_12 rfl rfl h (fun h => ?_) (fun h => ?_)
  · refine V_iload_n dX7_goalOn_19 rfl rfl rfl ?_
    exact A_ireturn dX7_goalOn_20 rfl h
  · refine V_iload_n dX7_goalOn_15 rfl rfl rfl ?_
    refine A_if_ne dX7_goalOn_16 rfl rfl h (fun h => ?_) (fun h => ?_)
    · refine V_iload dX7_goalOn_21 rfl rfl ?_
      refine V_iconst dX7_goalOn_23 ci_3 rfl ?_
      refine A_icmp_ge dX7_goalOn_24 rfl rfl h (fun h => ?_) (fun h => ?_)
      · refine V_iload_n dX7_goalOn_41 rfl rfl rfl ?_
        refine V_bipush dX7_goalOn_42 cb_51 rfl ?_
        refine V_iadd dX7_goalOn_44 rfl ?_
        refine V_bipush dX7_goalOn_45 cb_6 rfl ?_
        refine V_iload_n dX7_goalOn_47 rfl rfl rfl ?_
        refine V_imul dX7_goalOn_48 rfl ?_
        refine V_iadd dX7_goalOn_49 rfl ?_
        refine V_istore dX7_goalOn_50 (by decide) rfl (ls' := [.ref 82, .int l1, .int l2, .int l3, .int v1, .int ((l1 + 51) + (6 * l2)), .null, .null]) rfl rfl ?_
        refine V_iload_n dX7_goalOn_52 rfl rfl rfl ?_
        refine V_bipush dX7_goalOn_53 cb_27 rfl ?_
        refine V_iadd dX7_goalOn_55 rfl ?_
        refine V_bipush dX7_goalOn_56 cb_6 rfl ?_
        refine V_iload_n dX7_goalOn_58 rfl rfl rfl ?_
        refine V_imul dX7_goalOn_59 rfl ?_
        refine V_iadd dX7_goalOn_60 rfl ?_
        refine V_istore dX7_goalOn_61 (by decide) rfl (ls' := [.ref 82, .int l1, .int l2, .int l3, .int v1, .int ((l1 + 51) + (6 * l2)), .int ((l1 + 27) + (6 * l2)), .null]) rfl rfl ?_
        refine V_iconst dX7_goalOn_63 ci_0 rfl ?_
        refine V_istore dX7_goalOn_64 (by decide) rfl (ls' := [.ref 82, .int l1, .int l2, .int l3, .int v1, .int ((l1 + 51) + (6 * l2)), .int ((l1 + 27) + (6 * l2)), .int 0]) rfl rfl ?_
        refine V_weak [true, false, false, true, false, true, true, true] rfl ?_
        exact okX7_goalOn_L66 _ _ _ h
      · refine V_iload dX7_goalOn_27 rfl rfl ?_
        refine V_iconst dX7_goalOn_29 ci_1 rfl ?_
        refine V_midI (q := 40) ((if ¬ v1 = 1 then 0 else (l3 - 1) : Int32)) [] (fun yJ hy hJ => ?_) ?_
        · refine V_icmp_ne dX7_goalOn_30 rfl rfl (fun c => ?_) (fun c => ?_)
          · rw [if_pos c] at hy
            refine V_iconst dX7_goalOn_39 ci_0 rfl ?_
            rw [hy] at hJ
            exact hJ
          · rw [if_neg (fun z => z c)] at hy
            refine V_iload_n dX7_goalOn_33 rfl rfl rfl ?_
            refine V_iconst dX7_goalOn_34 ci_1 rfl ?_
            refine V_isub dX7_goalOn_35 rfl ?_
            refine V_goto dX7_goalOn_36 rfl ?_
            rw [hy] at hJ
            exact hJ
        · exact A_ireturn dX7_goalOn_40 rfl h
    · refine V_iload_n dX7_goalOn_19 rfl rfl rfl ?_
      exact A_ireturn dX7_goalOn_20 rfl h
theorem cp_X7_goalOn {N d : Nat} {l1 : Int32} {l2 : Int32} {l3 : Int32} {F F' : FF} {r : Int32} (h : fX7_goalOn N l1 l2 l3 F = some (r, F')) : CP (d) mX7_goalOn [.ref 82, .int l1, .int l2, .int l3] F (fun r' F'' => r' = eI r ∧ F'' = F') := CP_I rfl (Nat.le_of_ble_eq_true rfl) (okX7_goalOn h)
