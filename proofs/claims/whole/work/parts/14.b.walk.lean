theorem okX4_serve {N d : Nat} {l0 : Nat} {l1 : Int32} {F : FF} {res : Int32 × FF} (h : fX4_serve N l0 l1 F = some res) : FV cX4_serve 4 RX4 (d + 1) (some .int) none 0 [.ref l0, .int l1, .null, .null] [] F (RI res) := by
  unfold fX4_serve at h
  refine V_aload_n dX4_serve_0 rfl rfl rfl ?_
  refine V_iload_n dX4_serve_1 rfl rfl rfl ?_
  refine A_callV (ci := 4) eI dX4_serve_2 cl_X4_35 (by decide) rfl (As := [.int l1]) (st := []) rfl rfl (Nat.le_of_ble_eq_true rfl) rfl h (fun _ _ h => cp_X4_find (d := d) h) fun v1 F1 h => ?_
  refine V_istore_n dX4_serve_5 rfl (by decide) rfl (ls' := [.ref l0, .int l1, .int v1, .null]) rfl rfl ?_
  refine V_aload_n dX4_serve_6 rfl rfl rfl ?_
  refine V_iload_n dX4_serve_7 rfl rfl rfl ?_
  refine A_okc h fun hok h => ?_
  refine P_callV (ci := 4) dX4_serve_8 cl_X4_39 (by decide) rfl hok (cq_X4_payFor (d := d) hok) (As := [.int v1]) (st := []) rfl rfl (Nat.le_of_ble_eq_true rfl) rfl ?_
  refine V_istore_n dX4_serve_11 rfl (by decide) rfl (ls' := [.ref l0, .int l1, .int v1, .int (pX4_payFor l0 v1 F1)]) rfl rfl ?_
  refine V_aload_n dX4_serve_12 rfl rfl rfl ?_
  refine V_ldc dX4_serve_13 kc_X4_42 rfl ?_
  refine V_aload_n dX4_serve_15 rfl rfl rfl ?_
  refine A_gI dX4_serve_16 fl_X4_26 rfl h fun v2 h => ?_
  refine V_iload_n dX4_serve_19 rfl rfl rfl ?_
  refine V_iadd dX4_serve_20 rfl ?_
  refine P_mmin dX4_serve_21 cl_X4_43 (st := [.ref l0]) (Nat.le_of_ble_eq_true rfl) rfl ?_
  refine A_pI dX4_serve_24 fl_X4_26 rfl rfl rfl h fun F2 h => ?_
  refine V_aload_n dX4_serve_27 rfl rfl rfl ?_
  refine A_gR dX4_serve_28 fl_X4_15 rfl h fun v3 h => ?_
  refine V_iload_n dX4_serve_31 rfl rfl rfl ?_
  refine V_bipush dX4_serve_32 cb_99 rfl ?_
  refine V_aload_n dX4_serve_34 rfl rfl rfl ?_
  refine A_gR dX4_serve_35 fl_X4_15 rfl h fun v4 h => ?_
  refine V_iload_n dX4_serve_38 rfl rfl rfl ?_
  refine A_ld0 dX4_serve_39 rfl h fun v5 h => ?_
  refine V_iconst dX4_serve_40 ci_1 rfl ?_
  refine V_iadd dX4_serve_41 rfl ?_
  refine P_mmin dX4_serve_42 cl_X4_43 (st := [.int l1, .ref v3]) (Nat.le_of_ble_eq_true rfl) rfl ?_
  refine A_st0 dX4_serve_45 rfl h fun F3 h => ?_
  refine V_aload_n dX4_serve_46 rfl rfl rfl ?_
  refine V_iload_n dX4_serve_47 rfl rfl rfl ?_
  refine V_aload_n dX4_serve_48 rfl rfl rfl ?_
  refine V_iload_n dX4_serve_49 rfl rfl rfl ?_
  refine V_iload_n dX4_serve_50 rfl rfl rfl ?_
  refine A_callV (ci := 4) eI dX4_serve_51 cl_X4_49 (by decide) rfl (As := [.int l1, .int v1]) (st := [.int v1, .ref l0]) rfl rfl (Nat.le_of_ble_eq_true rfl) rfl h (fun _ _ h => cp_X4_goalOf (d := d) h) fun v6 F4 h => ?_
  refine A_callV (ci := 4) eU dX4_serve_54 cl_X4_52 (by decide) rfl (As := [.int v1, .int v6]) (st := []) rfl rfl (Nat.le_of_ble_eq_true rfl) rfl h (fun _ _ h => cp_X4_shift (d := d) h) fun _ F5 h => ?_
  refine V_iload_n dX4_serve_57 rfl rfl rfl ?_
  exact A_ireturn dX4_serve_58 rfl h
theorem cp_X4_serve {N d : Nat} {l0 : Nat} {l1 : Int32} {F F' : FF} {r : Int32} (h : fX4_serve N l0 l1 F = some (r, F')) : CP (d + 1) mX4_serve [.ref l0, .int l1] F (fun r' F'' => r' = eI r ∧ F'' = F') := CP_I rfl (Nat.le_of_ble_eq_true rfl) (okX4_serve h)
theorem okX0_serveAll_L4 {N d : Nat} {l0 : Nat} {l1 : Int32} {res : Int32 × FF} : ∀ (n : Nat) (l2 : Int32) (l3 : Int32) (F : FF), fX0_serveAll_L4 N l0 l1 n l2 l3 F = some res → FV cX0_serveAll 4 RX0 (d + 2) (some .int) none 4 [.ref l0, .int l1, .int l2, .int l3] [] F (RI res) := by
  intro n
  induction n with
  | zero =>
    intro l2 l3 F h
    rw [fX0_serveAll_L4.eq_1] at h
    cases h
  | succ n ih =>
    intro l2 l3 F h
    rw [fX0_serveAll_L4.eq_2] at h
    refine V_iload_n dX0_serveAll_4 rfl rfl rfl ?_
    refine V_aload_n dX0_serveAll_5 rfl rfl rfl ?_
    refine A_gI dX0_serveAll_6 fl_X0_29 rfl h fun v1 h => ?_
    refine A_icmp_ge dX0_serveAll_9 rfl rfl h (fun h => ?_) (fun h => ?_)
    · refine V_iload_n dX0_serveAll_31 rfl rfl rfl ?_
      exact A_ireturn dX0_serveAll_32 rfl h
    · refine V_iload_n dX0_serveAll_12 rfl rfl rfl ?_
      refine V_aload_n dX0_serveAll_13 rfl rfl rfl ?_
      refine A_gR dX0_serveAll_14 fl_X0_11 rfl h fun v2 h => ?_
      refine V_iload_n dX0_serveAll_17 rfl rfl rfl ?_
      refine A_ldR (t := 5) dX0_serveAll_18 rfl h fun v3 h => ?_
      refine V_iload_n dX0_serveAll_19 rfl rfl rfl ?_
      refine A_callV (ci := 4) eI dX0_serveAll_20 cl_X0_56 (by decide) rfl (As := [.int l1]) (st := [.int l2]) rfl rfl (Nat.le_of_ble_eq_true rfl) rfl h (fun _ _ h => cp_X4_serve (d := d) h) fun v4 F1 h => ?_
      refine V_iadd dX0_serveAll_23 rfl ?_
      refine V_istore_n dX0_serveAll_24 rfl (by decide) rfl (ls' := [.ref l0, .int l1, .int (l2 + v4), .int l3]) rfl rfl ?_
      refine V_iinc dX0_serveAll_25 (v := l3 + 1) rfl (by rw [ci_1]) rfl (ls' := [.ref l0, .int l1, .int (l2 + v4), .int (l3 + 1)]) rfl rfl ?_
      refine V_goto dX0_serveAll_28 rfl ?_
      exact ih (l2 + v4) (l3 + 1) F1 h
theorem okX0_serveAll {N d : Nat} {l0 : Nat} {l1 : Int32} {F : FF} {res : Int32 × FF} (h : fX0_serveAll N l0 l1 F = some res) : FV cX0_serveAll 4 RX0 (d + 2) (some .int) none 0 [.ref l0, .int l1, .null, .null] [] F (RI res) := by
  unfold fX0_serveAll at h
  refine V_iconst dX0_serveAll_0 ci_0 rfl ?_
  refine V_istore_n dX0_serveAll_1 rfl (by decide) rfl (ls' := [.ref l0, .int l1, .int 0, .null]) rfl rfl ?_
  refine V_iconst dX0_serveAll_2 ci_0 rfl ?_
  refine V_istore_n dX0_serveAll_3 rfl (by decide) rfl (ls' := [.ref l0, .int l1, .int 0, .int 0]) rfl rfl ?_
  exact okX0_serveAll_L4 _ _ _ _ h
theorem cp_X0_serveAll {N d : Nat} {l0 : Nat} {l1 : Int32} {F F' : FF} {r : Int32} (h : fX0_serveAll N l0 l1 F = some (r, F')) : CP (d + 2) mX0_serveAll [.ref l0, .int l1] F (fun r' F'' => r' = eI r ∧ F'' = F') := CP_I rfl (Nat.le_of_ble_eq_true rfl) (okX0_serveAll h)
theorem okX6_take {N d : Nat} {l1 : Int32} {F : FF} {res : Int32 × FF} (h : fX6_take N l1 F = some res) : FV cX6_take 2 RX6 (d + 3) (some .int) none 0 [.ref 0, .int l1] [] F (RI res) := by
  unfold fX6_take at h
  refine V_aload_n dX6_take_0 rfl rfl rfl ?_
  refine F_getR dX6_take_1 fl_X6_10 ly_0 rfl rfl ?_
  refine V_iload_n dX6_take_4 rfl rfl rfl ?_
  refine P_callV (ci := 0) dX6_take_5 cl_X6_151 (by decide) rfl rfl (cq_X0_hasBook (d := d + 2) rfl) (As := [.int l1]) (st := []) rfl rfl (Nat.le_of_ble_eq_true rfl) rfl ?_
  refine A_if_eq dX6_take_8 rfl rfl h (fun h => ?_) (fun h => ?_)
  · refine V_iconst dX6_take_22 ci_m1 rfl ?_
    exact A_ireturn dX6_take_23 rfl h
  · refine V_aload_n dX6_take_11 rfl rfl rfl ?_
    refine F_getR dX6_take_12 fl_X6_10 ly_0 rfl rfl ?_
    refine V_iload_n dX6_take_15 rfl rfl rfl ?_
    refine A_callC (ci := 0) eI dX6_take_16 cl_X6_172 (by decide) rfl rfl (As := [.int l1]) (st := []) rfl rfl (Nat.le_of_ble_eq_true rfl) rfl h (fun _ _ h => cp_X0_serveAll (d := d) h) fun v1 F1 h => ?_
    refine V_goto dX6_take_19 rfl ?_
    exact A_ireturn dX6_take_23 rfl h
theorem cp_X6_take {N d : Nat} {l1 : Int32} {F F' : FF} {r : Int32} (h : fX6_take N l1 F = some (r, F')) : CP (d + 3) mX6_take [.ref 0, .int l1] F (fun r' F'' => r' = eI r ∧ F'' = F') := CP_I rfl (Nat.le_of_ble_eq_true rfl) (okX6_take h)
theorem okX0_stepOn {N d : Nat} {l0 : Nat} {F : FF} {res : Int32 × FF} (h : fX0_stepOn N l0 F = some res) : FV cX0_stepOn 2 RX0 (d + 3) (some .int) none 0 [.ref l0, .null] [] F (RI res) := by
  unfold fX0_stepOn at h
  refine V_aload_n dX0_stepOn_0 rfl rfl rfl ?_
  refine V_iconst dX0_stepOn_1 ci_0 rfl ?_
  refine A_callV (ci := 0) eI dX0_stepOn_2 cl_X0_60 (by decide) rfl (As := [.int 0]) (st := []) rfl rfl (Nat.le_of_ble_eq_true rfl) rfl h (fun _ _ h => cp_X0_turn (d := d + 2) h) fun v1 F1 h => ?_
  refine V_istore_n dX0_stepOn_5 rfl (by decide) rfl (ls' := [.ref l0, .int v1]) rfl rfl ?_
  refine V_aload_n dX0_stepOn_6 rfl rfl rfl ?_
  refine V_dup dX0_stepOn_7 rfl rfl ?_
  refine A_gI dX0_stepOn_8 fl_X0_35 rfl h fun v2 h => ?_
  refine V_iconst dX0_stepOn_11 ci_1 rfl ?_
  refine V_iadd dX0_stepOn_12 rfl ?_
  refine A_pI dX0_stepOn_13 fl_X0_35 rfl rfl rfl h fun F2 h => ?_
  refine V_iload_n dX0_stepOn_16 rfl rfl rfl ?_
  refine A_if_lt dX0_stepOn_17 rfl rfl h (fun h => ?_) (fun h => ?_)
  · refine V_iconst dX0_stepOn_29 ci_0 rfl ?_
    refine V_goto dX0_stepOn_30 rfl ?_
    exact A_ireturn dX0_stepOn_43 rfl h
  · refine V_aload_n dX0_stepOn_20 rfl rfl rfl ?_
    refine A_gR dX0_stepOn_21 fl_X0_17 rfl h fun v3 h => ?_
    refine V_iload_n dX0_stepOn_24 rfl rfl rfl ?_
    refine A_ld0 dX0_stepOn_25 rfl h fun v4 h => ?_
    refine A_if_ge dX0_stepOn_26 rfl rfl h (fun h => ?_) (fun h => ?_)
    · refine V_aload_n dX0_stepOn_33 rfl rfl rfl ?_
      refine V_aload_n dX0_stepOn_34 rfl rfl rfl ?_
      refine A_gR dX0_stepOn_35 fl_X0_17 rfl h fun v5 h => ?_
      refine V_iload_n dX0_stepOn_38 rfl rfl rfl ?_
      refine A_ld0 dX0_stepOn_39 rfl h fun v6 h => ?_
      refine A_callV (ci := 0) eI dX0_stepOn_40 cl_X0_63 (by decide) rfl (As := [.int v6]) (st := []) rfl rfl (Nat.le_of_ble_eq_true rfl) rfl h (fun _ _ h => cp_X0_serveAll (d := d) h) fun v7 F3 h => ?_
      exact A_ireturn dX0_stepOn_43 rfl h
    · refine V_iconst dX0_stepOn_29 ci_0 rfl ?_
      refine V_goto dX0_stepOn_30 rfl ?_
      exact A_ireturn dX0_stepOn_43 rfl h
theorem cp_X0_stepOn {N d : Nat} {l0 : Nat} {F F' : FF} {r : Int32} (h : fX0_stepOn N l0 F = some (r, F')) : CP (d + 3) mX0_stepOn [.ref l0] F (fun r' F'' => r' = eI r ∧ F'' = F') := CP_I rfl (Nat.le_of_ble_eq_true rfl) (okX0_stepOn h)
theorem okX6_steps_L34 {N d : Nat} {l1 : Int32} {res : Int32 × FF} : ∀ (n : Nat) (l2 : Int32) (l3 : Int32) (F : FF), fX6_steps_L34 N l1 n l2 l3 F = some res → FV cX6_steps 4 RX6 (d + 4) (some .int) none 34 [.ref 0, .int l1, .int l2, .int l3] [] F (RI res) := by
  intro n
  induction n with
  | zero =>
    intro l2 l3 F h
    rw [fX6_steps_L34.eq_1] at h
    cases h
  | succ n ih =>
    intro l2 l3 F h
    rw [fX6_steps_L34.eq_2] at h
    refine V_iload_n dX6_steps_34 rfl rfl rfl ?_
    refine V_iload_n dX6_steps_35 rfl rfl rfl ?_
    refine A_icmp_ge dX6_steps_36 rfl rfl h (fun h => ?_) (fun h => ?_)
    · refine V_iload_n dX6_steps_55 rfl rfl rfl ?_
      exact A_ireturn dX6_steps_56 rfl h
    · refine V_iload_n dX6_steps_39 rfl rfl rfl ?_
      refine V_aload_n dX6_steps_40 rfl rfl rfl ?_
      refine F_getR dX6_steps_41 fl_X6_10 ly_0 rfl rfl ?_
      refine A_callC (ci := 0) eI dX6_steps_44 cl_X6_175 (by decide) rfl rfl (As := []) (st := [.int l2]) rfl rfl (Nat.le_of_ble_eq_true rfl) rfl h (fun _ _ h => cp_X0_stepOn (d := d) h) fun v1 F1 h => ?_
      refine V_iadd dX6_steps_47 rfl ?_
      refine V_istore_n dX6_steps_48 rfl (by decide) rfl (ls' := [.ref 0, .int l1, .int (l2 + v1), .int l3]) rfl rfl ?_
      refine V_iinc dX6_steps_49 (v := l3 + 1) rfl (by rw [ci_1]) rfl (ls' := [.ref 0, .int l1, .int (l2 + v1), .int (l3 + 1)]) rfl rfl ?_
      refine V_goto dX6_steps_52 rfl ?_
      exact ih (l2 + v1) (l3 + 1) F1 h
theorem okX6_steps {N d : Nat} {l1 : Int32} {F : FF} {res : Int32 × FF} (h : fX6_steps N l1 F = some res) : FV cX6_steps 4 RX6 (d + 4) (some .int) none 0 [.ref 0, .int l1, .null, .null] [] F (RI res) := by
  unfold fX6_steps at h
  refine V_iload_n dX6_steps_0 rfl rfl rfl ?_
  refine V_iconst dX6_steps_1 ci_0 rfl ?_
  refine V_bipush dX6_steps_2 cb_100 rfl ?_
  refine P_callS dX6_steps_4 cl_X6_69 (cq_X6_within (d := d + 3)) (As := [.int l1, .int 0, .int 100]) (st := []) rfl rfl (Nat.le_of_ble_eq_true rfl) rfl ?_
  refine A_if_ne dX6_steps_7 rfl rfl h (fun h => ?_) (fun h => ?_)
  · refine V_aload_n dX6_steps_12 rfl rfl rfl ?_
    refine F_getR dX6_steps_13 fl_X6_10 ly_0 rfl rfl ?_
    refine F_getI dX6_steps_16 fl_X6_106 ly_1 rfl rfl ?_
    refine V_iload_n dX6_steps_19 rfl rfl rfl ?_
    refine V_iadd dX6_steps_20 rfl ?_
    refine V_sipush dX6_steps_21 cs_10000 rfl ?_
    refine A_icmp_lt dX6_steps_24 rfl rfl h (fun h => ?_) (fun h => ?_)
    · refine V_iconst dX6_steps_30 ci_0 rfl ?_
      refine V_istore_n dX6_steps_31 rfl (by decide) rfl (ls' := [.ref 0, .int l1, .int 0, .null]) rfl rfl ?_
      refine V_iconst dX6_steps_32 ci_0 rfl ?_
      refine V_istore_n dX6_steps_33 rfl (by decide) rfl (ls' := [.ref 0, .int l1, .int 0, .int 0]) rfl rfl ?_
      exact okX6_steps_L34 _ _ _ _ h
    · refine V_bipush dX6_steps_27 cb_m3 rfl ?_
      exact A_ireturn dX6_steps_29 rfl h
  · refine V_iconst dX6_steps_10 ci_m1 rfl ?_
    exact A_ireturn dX6_steps_11 rfl h
theorem cp_X6_steps {N d : Nat} {l1 : Int32} {F F' : FF} {r : Int32} (h : fX6_steps N l1 F = some (r, F')) : CP (d + 4) mX6_steps [.ref 0, .int l1] F (fun r' F'' => r' = eI r ∧ F'' = F') := CP_I rfl (Nat.le_of_ble_eq_true rfl) (okX6_steps h)
theorem okX0_serveTurn {N d : Nat} {l0 : Nat} {l1 : Int32} {l2 : Int32} {F : FF} {res : Int32 × FF} (h : fX0_serveTurn N l0 l1 l2 F = some res) : FV cX0_serveTurn 4 RX0 (d + 2) (some .int) none 0 [.ref l0, .int l1, .int l2, .null] [] F (RI res) := by
  unfold fX0_serveTurn at h
  refine V_aload_n dX0_serveTurn_0 rfl rfl rfl ?_
  refine V_iload_n dX0_serveTurn_1 rfl rfl rfl ?_
  refine A_callV (ci := 0) eI dX0_serveTurn_2 cl_X0_60 (by decide) rfl (As := [.int l2]) (st := []) rfl rfl (Nat.le_of_ble_eq_true rfl) rfl h (fun _ _ h => cp_X0_turn (d := d + 1) h) fun v1 F1 h => ?_
  refine V_istore_n dX0_serveTurn_5 rfl (by decide) rfl (ls' := [.ref l0, .int l1, .int l2, .int v1]) rfl rfl ?_
  refine V_iload_n dX0_serveTurn_6 rfl rfl rfl ?_
  refine A_if_lt dX0_serveTurn_7 rfl rfl h (fun h => ?_) (fun h => ?_)
  · refine V_iconst dX0_serveTurn_19 ci_0 rfl ?_
    refine V_goto dX0_serveTurn_20 rfl ?_
    exact A_ireturn dX0_serveTurn_38 rfl h
  · refine V_aload_n dX0_serveTurn_10 rfl rfl rfl ?_
    refine A_gR dX0_serveTurn_11 fl_X0_17 rfl h fun v2 h => ?_
    refine V_iload_n dX0_serveTurn_14 rfl rfl rfl ?_
    refine A_ld0 dX0_serveTurn_15 rfl h fun v3 h => ?_
    refine A_if_ge dX0_serveTurn_16 rfl rfl h (fun h => ?_) (fun h => ?_)
    · refine V_aload_n dX0_serveTurn_23 rfl rfl rfl ?_
      refine A_gR dX0_serveTurn_24 fl_X0_11 rfl h fun v4 h => ?_
      refine V_iload_n dX0_serveTurn_27 rfl rfl rfl ?_
      refine A_ldR (t := 5) dX0_serveTurn_28 rfl h fun v5 h => ?_
      refine V_aload_n dX0_serveTurn_29 rfl rfl rfl ?_
      refine A_gR dX0_serveTurn_30 fl_X0_17 rfl h fun v6 h => ?_
      refine V_iload_n dX0_serveTurn_33 rfl rfl rfl ?_
      refine A_ld0 dX0_serveTurn_34 rfl h fun v7 h => ?_
      refine A_callV (ci := 4) eI dX0_serveTurn_35 cl_X0_56 (by decide) rfl (As := [.int v7]) (st := []) rfl rfl (Nat.le_of_ble_eq_true rfl) rfl h (fun _ _ h => cp_X4_serve (d := d) h) fun v8 F2 h => ?_
      exact A_ireturn dX0_serveTurn_38 rfl h
    · refine V_iconst dX0_serveTurn_19 ci_0 rfl ?_
      refine V_goto dX0_serveTurn_20 rfl ?_
      exact A_ireturn dX0_serveTurn_38 rfl h
theorem cp_X0_serveTurn {N d : Nat} {l0 : Nat} {l1 : Int32} {l2 : Int32} {F F' : FF} {r : Int32} (h : fX0_serveTurn N l0 l1 l2 F = some (r, F')) : CP (d + 2) mX0_serveTurn [.ref l0, .int l1, .int l2] F (fun r' F'' => r' = eI r ∧ F'' = F') := CP_I rfl (Nat.le_of_ble_eq_true rfl) (okX0_serveTurn h)
theorem okX0_paidBy_L6 {N d : Nat} {l0 : Nat} {l1 : Int32} {l2 : Int32} {l3 : Int32} {res : Int32 × FF} : ∀ (n : Nat) (l4 : Int32) (l5 : Int32) (F : FF), fX0_paidBy_L6 N l0 l1 l2 l3 n l4 l5 F = some res → FV cX0_paidBy 6 RX0 (d + 3) (some .int) none 6 [.ref l0, .int l1, .int l2, .int l3, .int l4, .int l5] [] F (RI res) := by
  intro n
  induction n with
  | zero =>
    intro l4 l5 F h
    rw [fX0_paidBy_L6.eq_1] at h
    cases h
  | succ n ih =>
    intro l4 l5 F h
    rw [fX0_paidBy_L6.eq_2] at h
    refine V_iload dX0_paidBy_6 rfl rfl ?_
    refine V_iload_n dX0_paidBy_8 rfl rfl rfl ?_
    refine A_icmp_ge dX0_paidBy_9 rfl rfl h (fun h => ?_) (fun h => ?_)
    · refine V_iload dX0_paidBy_36 rfl rfl ?_
      exact A_ireturn dX0_paidBy_38 rfl h
    · refine V_iload dX0_paidBy_12 rfl rfl ?_
      refine V_iload_n dX0_paidBy_14 rfl rfl rfl ?_
      refine A_icmp_ge dX0_paidBy_15 rfl rfl h (fun h => ?_) (fun h => ?_)
      · refine V_iload dX0_paidBy_36 rfl rfl ?_
        exact A_ireturn dX0_paidBy_38 rfl h
      · refine V_iload dX0_paidBy_18 rfl rfl ?_
        refine V_aload_n dX0_paidBy_20 rfl rfl rfl ?_
        refine V_iload_n dX0_paidBy_21 rfl rfl rfl ?_
        refine V_iload dX0_paidBy_22 rfl rfl ?_
        refine A_callV (ci := 0) eI dX0_paidBy_24 cl_X0_66 (by decide) rfl (As := [.int l1, .int l5]) (st := [.int l4]) rfl rfl (Nat.le_of_ble_eq_true rfl) rfl h (fun _ _ h => cp_X0_serveTurn (d := d) h) fun v1 F1 h => ?_
        refine V_iadd dX0_paidBy_27 rfl ?_
        refine V_istore dX0_paidBy_28 (by decide) rfl (ls' := [.ref l0, .int l1, .int l2, .int l3, .int (l4 + v1), .int l5]) rfl rfl ?_
        refine V_iinc dX0_paidBy_30 (v := l5 + 1) rfl (by rw [ci_1]) rfl (ls' := [.ref l0, .int l1, .int l2, .int l3, .int (l4 + v1), .int (l5 + 1)]) rfl rfl ?_
        refine V_goto dX0_paidBy_33 rfl ?_
        exact ih (l4 + v1) (l5 + 1) F1 h
theorem okX0_paidBy {N d : Nat} {l0 : Nat} {l1 : Int32} {l2 : Int32} {l3 : Int32} {F : FF} {res : Int32 × FF} (h : fX0_paidBy N l0 l1 l2 l3 F = some res) : FV cX0_paidBy 6 RX0 (d + 3) (some .int) none 0 [.ref l0, .int l1, .int l2, .int l3, .null, .null] [] F (RI res) := by
  unfold fX0_paidBy at h
  refine V_iconst dX0_paidBy_0 ci_0 rfl ?_
  refine V_istore dX0_paidBy_1 (by decide) rfl (ls' := [.ref l0, .int l1, .int l2, .int l3, .int 0, .null]) rfl rfl ?_
  refine V_iconst dX0_paidBy_3 ci_0 rfl ?_
  refine V_istore dX0_paidBy_4 (by decide) rfl (ls' := [.ref l0, .int l1, .int l2, .int l3, .int 0, .int 0]) rfl rfl ?_
  exact okX0_paidBy_L6 _ _ _ _ h
theorem cp_X0_paidBy {N d : Nat} {l0 : Nat} {l1 : Int32} {l2 : Int32} {l3 : Int32} {F F' : FF} {r : Int32} (h : fX0_paidBy N l0 l1 l2 l3 F = some (r, F')) : CP (d + 3) mX0_paidBy [.ref l0, .int l1, .int l2, .int l3] F (fun r' F'' => r' = eI r ∧ F'' = F') := CP_I rfl (Nat.le_of_ble_eq_true rfl) (okX0_paidBy h)
theorem okX0_paidByAll_L5 {N d : Nat} {l0 : Nat} {l1 : Int32} {l2 : Int32} {res : Int32 × FF} : ∀ (n : Nat) (l3 : Int32) (l4 : Int32) (F : FF), fX0_paidByAll_L5 N l0 l1 l2 n l3 l4 F = some res → FV cX0_paidByAll 5 RX0 (d + 4) (some .int) none 5 [.ref l0, .int l1, .int l2, .int l3, .int l4] [] F (RI res) := by
  intro n
  induction n with
  | zero =>
    intro l3 l4 F h
    rw [fX0_paidByAll_L5.eq_1] at h
    cases h
  | succ n ih =>
    intro l3 l4 F h
    rw [fX0_paidByAll_L5.eq_2] at h
    refine V_iload dX0_paidByAll_5 rfl rfl ?_
    refine V_aload_n dX0_paidByAll_7 rfl rfl rfl ?_
    refine A_gI dX0_paidByAll_8 fl_X0_29 rfl h fun v1 h => ?_
    refine A_icmp_ge dX0_paidByAll_11 rfl rfl h (fun h => ?_) (fun h => ?_)
    · refine V_iload_n dX0_paidByAll_38 rfl rfl rfl ?_
      exact A_ireturn dX0_paidByAll_39 rfl h
    · refine V_iload_n dX0_paidByAll_14 rfl rfl rfl ?_
      refine V_iload_n dX0_paidByAll_15 rfl rfl rfl ?_
      refine A_icmp_ge dX0_paidByAll_16 rfl rfl h (fun h => ?_) (fun h => ?_)
      · refine V_iload_n dX0_paidByAll_38 rfl rfl rfl ?_
        exact A_ireturn dX0_paidByAll_39 rfl h
      · refine V_iload_n dX0_paidByAll_19 rfl rfl rfl ?_
        refine V_aload_n dX0_paidByAll_20 rfl rfl rfl ?_
        refine V_iload dX0_paidByAll_21 rfl rfl ?_
        refine V_iload_n dX0_paidByAll_23 rfl rfl rfl ?_
        refine V_iload_n dX0_paidByAll_24 rfl rfl rfl ?_
        refine V_iload_n dX0_paidByAll_25 rfl rfl rfl ?_
        refine V_isub dX0_paidByAll_26 rfl ?_
        refine A_callV (ci := 0) eI dX0_paidByAll_27 cl_X0_70 (by decide) rfl (As := [.int l4, .int l1, .int (l2 - l3)]) (st := [.int l3]) rfl rfl (Nat.le_of_ble_eq_true rfl) rfl h (fun _ _ h => cp_X0_paidBy (d := d) h) fun v2 F1 h => ?_
        refine V_iadd dX0_paidByAll_30 rfl ?_
        refine V_istore_n dX0_paidByAll_31 rfl (by decide) rfl (ls' := [.ref l0, .int l1, .int l2, .int (l3 + v2), .int l4]) rfl rfl ?_
        refine V_iinc dX0_paidByAll_32 (v := l4 + 1) rfl (by rw [ci_1]) rfl (ls' := [.ref l0, .int l1, .int l2, .int (l3 + v2), .int (l4 + 1)]) rfl rfl ?_
        refine V_goto dX0_paidByAll_35 rfl ?_
        exact ih (l3 + v2) (l4 + 1) F1 h
theorem okX0_paidByAll {N d : Nat} {l0 : Nat} {l1 : Int32} {l2 : Int32} {F : FF} {res : Int32 × FF} (h : fX0_paidByAll N l0 l1 l2 F = some res) : FV cX0_paidByAll 5 RX0 (d + 4) (some .int) none 0 [.ref l0, .int l1, .int l2, .null, .null] [] F (RI res) := by
  unfold fX0_paidByAll at h
  refine V_iconst dX0_paidByAll_0 ci_0 rfl ?_
  refine V_istore_n dX0_paidByAll_1 rfl (by decide) rfl (ls' := [.ref l0, .int l1, .int l2, .int 0, .null]) rfl rfl ?_
  refine V_iconst dX0_paidByAll_2 ci_0 rfl ?_
  refine V_istore dX0_paidByAll_3 (by decide) rfl (ls' := [.ref l0, .int l1, .int l2, .int 0, .int 0]) rfl rfl ?_
  exact okX0_paidByAll_L5 _ _ _ _ h
theorem cp_X0_paidByAll {N d : Nat} {l0 : Nat} {l1 : Int32} {l2 : Int32} {F F' : FF} {r : Int32} (h : fX0_paidByAll N l0 l1 l2 F = some (r, F')) : CP (d + 4) mX0_paidByAll [.ref l0, .int l1, .int l2] F (fun r' F'' => r' = eI r ∧ F'' = F') := CP_I rfl (Nat.le_of_ble_eq_true rfl) (okX0_paidByAll h)
theorem okX6_cheapestIn_L11 {N d : Nat} {l1 : Int32} {res : Int32 × FF} : ∀ (n : Nat) (l2 : Int32) (F : FF), fX6_cheapestIn_L11 N l1 n l2 F = some res → FV cX6_cheapestIn 3 RX6 (d + 4) (some .int) none 11 [.ref 0, .int l1, .int l2] [] F (RI res) := by
  intro n
  induction n with
  | zero =>
    intro l2 F h
    rw [fX6_cheapestIn_L11.eq_1] at h
    cases h
  | succ n ih =>
    intro l2 F h
    rw [fX6_cheapestIn_L11.eq_2] at h
    refine V_iload_n dX6_cheapestIn_11 rfl rfl rfl ?_
    refine V_aload_n dX6_cheapestIn_12 rfl rfl rfl ?_
    refine F_getR dX6_cheapestIn_13 fl_X6_16 ly_0 rfl rfl ?_
    refine F_getI dX6_cheapestIn_16 fl_X6_100 ly_16 rfl rfl ?_
    refine A_icmp_ge dX6_cheapestIn_19 rfl rfl h (fun h => ?_) (fun h => ?_)
    · refine V_aload_n dX6_cheapestIn_47 rfl rfl rfl ?_
      refine F_getR dX6_cheapestIn_48 fl_X6_50 ly_0 rfl rfl ?_
      refine F_getI dX6_cheapestIn_51 fl_X6_135 ly_40 rfl rfl ?_
      exact A_ireturn dX6_cheapestIn_54 rfl h
    · refine V_aload_n dX6_cheapestIn_22 rfl rfl rfl ?_
      refine F_getR dX6_cheapestIn_23 fl_X6_50 ly_0 rfl rfl ?_
      refine V_iload_n dX6_cheapestIn_26 rfl rfl rfl ?_
      refine V_aload_n dX6_cheapestIn_27 rfl rfl rfl ?_
      refine F_getR dX6_cheapestIn_28 fl_X6_16 ly_0 rfl rfl ?_
      refine V_iload_n dX6_cheapestIn_31 rfl rfl rfl ?_
      refine V_iload_n dX6_cheapestIn_32 rfl rfl rfl ?_
      refine V_ldc dX6_cheapestIn_33 kc_X6_117 rfl ?_
      refine A_callC (ci := 0) eI dX6_cheapestIn_35 cl_X6_191 (by decide) rfl rfl (As := [.int l2, .int l1, .int 1000000000]) (st := [.int l2, .ref 40]) rfl rfl (Nat.le_of_ble_eq_true rfl) rfl h (fun _ _ h => cp_X0_paidBy (d := d) h) fun v1 F1 h => ?_
      refine A_callC (ci := 1) eU dX6_cheapestIn_38 cl_X6_131 (by decide) rfl rfl (As := [.int l2, .int v1]) (st := []) rfl rfl (Nat.le_of_ble_eq_true rfl) rfl h (fun _ _ h => cp_X1_offer (d := d + 3) h) fun _ F2 h => ?_
      refine V_iinc dX6_cheapestIn_41 (v := l2 + 1) rfl (by rw [ci_1]) rfl (ls' := [.ref 0, .int l1, .int (l2 + 1)]) rfl rfl ?_
      refine V_goto dX6_cheapestIn_44 rfl ?_
      exact ih (l2 + 1) F2 h
theorem okX6_cheapestIn {N d : Nat} {l1 : Int32} {F : FF} {res : Int32 × FF} (h : fX6_cheapestIn N l1 F = some res) : FV cX6_cheapestIn 3 RX6 (d + 4) (some .int) none 0 [.ref 0, .int l1, .null] [] F (RI res) := by
  unfold fX6_cheapestIn at h
  refine V_aload_n dX6_cheapestIn_0 rfl rfl rfl ?_
  refine F_getR dX6_cheapestIn_1 fl_X6_50 ly_0 rfl rfl ?_
  refine V_ldc dX6_cheapestIn_4 kc_X6_117 rfl ?_
  refine A_callC (ci := 1) eU dX6_cheapestIn_6 cl_X6_118 (by decide) rfl rfl (As := [.int 1000000000]) (st := []) rfl rfl (Nat.le_of_ble_eq_true rfl) rfl h (fun _ _ h => cp_X1_reset (d := d + 3) h) fun _ F1 h => ?_
  refine V_iconst dX6_cheapestIn_9 ci_0 rfl ?_
  refine V_istore_n dX6_cheapestIn_10 rfl (by decide) rfl (ls' := [.ref 0, .int l1, .int 0]) rfl rfl ?_
  exact okX6_cheapestIn_L11 _ _ _ h
theorem cp_X6_cheapestIn {N d : Nat} {l1 : Int32} {F F' : FF} {r : Int32} (h : fX6_cheapestIn N l1 F = some (r, F')) : CP (d + 4) mX6_cheapestIn [.ref 0, .int l1] F (fun r' F'' => r' = eI r ∧ F'' = F') := CP_I rfl (Nat.le_of_ble_eq_true rfl) (okX6_cheapestIn h)
theorem okX0_dearestPay_L15 {N d : Nat} {k4 : Int32 → Int32 → FF → Option (Int32 × FF)} {l0 : Nat} {l1 : Int32} {l3 : Int32} {res : Int32 × FF} (hk4 : ∀ (x2 : Int32) (x3 : Int32) (F : FF), k4 x2 x3 F = some res → FV cX0_dearestPay 5 RX0 (d + 3) (some .int) none 4 [.ref l0, .int l1, .int x2, .int x3, .null] [] F (RI res)) : ∀ (n : Nat) (l2 : Int32) (l4 : Int32) (F : FF), fX0_dearestPay_L15 N k4 l0 l1 l3 n l2 l4 F = some res → FV cX0_dearestPay 5 RX0 (d + 3) (some .int) none 15 [.ref l0, .int l1, .int l2, .int l3, .int l4] [] F (RI res) := by
  intro n
  induction n with
  | zero =>
    intro l2 l4 F h
    rw [fX0_dearestPay_L15.eq_1] at h
    cases h
  | succ n ih =>
    intro l2 l4 F h
    rw [fX0_dearestPay_L15.eq_2] at h
    refine V_iload dX0_dearestPay_15 rfl rfl ?_
    refine V_iload_n dX0_dearestPay_17 rfl rfl rfl ?_
    refine A_icmp_ge dX0_dearestPay_18 rfl rfl h (fun h => ?_) (fun h => ?_)
    · refine V_iinc dX0_dearestPay_39 (v := l3 + 1) rfl (by rw [ci_1]) rfl (ls' := [.ref l0, .int l1, .int l2, .int (l3 + 1), .int l4]) rfl rfl ?_
      refine V_goto dX0_dearestPay_42 rfl ?_
      refine V_weak [true, true, true, true, false] rfl ?_
      exact hk4 l2 (l3 + 1) F h
    · refine V_iload_n dX0_dearestPay_21 rfl rfl rfl ?_
      refine V_aload_n dX0_dearestPay_22 rfl rfl rfl ?_
      refine V_iload_n dX0_dearestPay_23 rfl rfl rfl ?_
      refine V_iload dX0_dearestPay_24 rfl rfl ?_
      refine A_callV (ci := 0) eI dX0_dearestPay_26 cl_X0_66 (by decide) rfl (As := [.int l3, .int l4]) (st := [.int l2]) rfl rfl (Nat.le_of_ble_eq_true rfl) rfl h (fun _ _ h => cp_X0_serveTurn (d := d) h) fun v1 F1 h => ?_
      refine P_mmax dX0_dearestPay_29 cl_X0_74 (st := []) (Nat.le_of_ble_eq_true rfl) rfl ?_
      refine V_istore_n dX0_dearestPay_32 rfl (by decide) rfl (ls' := [.ref l0, .int l1, .int (mmax l2 v1), .int l3, .int l4]) rfl rfl ?_
      refine V_iinc dX0_dearestPay_33 (v := l4 + 1) rfl (by rw [ci_1]) rfl (ls' := [.ref l0, .int l1, .int (mmax l2 v1), .int l3, .int (l4 + 1)]) rfl rfl ?_
      refine V_goto dX0_dearestPay_36 rfl ?_
      exact ih (mmax l2 v1) (l4 + 1) F1 h
theorem okX0_dearestPay_L4 {N d : Nat} {l0 : Nat} {l1 : Int32} {res : Int32 × FF} : ∀ (n : Nat) (l2 : Int32) (l3 : Int32) (F : FF), fX0_dearestPay_L4 N l0 l1 n l2 l3 F = some res → FV cX0_dearestPay 5 RX0 (d + 3) (some .int) none 4 [.ref l0, .int l1, .int l2, .int l3, .null] [] F (RI res) := by
  intro n
  induction n with
  | zero =>
    intro l2 l3 F h
    rw [fX0_dearestPay_L4.eq_1] at h
    cases h
  | succ n ih =>
    intro l2 l3 F h
    rw [fX0_dearestPay_L4.eq_2] at h
    refine V_iload_n dX0_dearestPay_4 rfl rfl rfl ?_
    refine V_aload_n dX0_dearestPay_5 rfl rfl rfl ?_
    refine A_gI dX0_dearestPay_6 fl_X0_29 rfl h fun v1 h => ?_
    refine A_icmp_ge dX0_dearestPay_9 rfl rfl h (fun h => ?_) (fun h => ?_)
    · refine V_iload_n dX0_dearestPay_45 rfl rfl rfl ?_
      exact A_ireturn dX0_dearestPay_46 rfl h
    · refine V_iconst dX0_dearestPay_12 ci_0 rfl ?_
      refine V_istore dX0_dearestPay_13 (by decide) rfl (ls' := [.ref l0, .int l1, .int l2, .int l3, .int 0]) rfl rfl ?_
      exact okX0_dearestPay_L15 (fun x2 x3 F h => ih x2 x3 F h) _ _ _ _ h
theorem okX0_dearestPay {N d : Nat} {l0 : Nat} {l1 : Int32} {F : FF} {res : Int32 × FF} (h : fX0_dearestPay N l0 l1 F = some res) : FV cX0_dearestPay 5 RX0 (d + 3) (some .int) none 0 [.ref l0, .int l1, .null, .null, .null] [] F (RI res) := by
  unfold fX0_dearestPay at h
  refine V_iconst dX0_dearestPay_0 ci_0 rfl ?_
  refine V_istore_n dX0_dearestPay_1 rfl (by decide) rfl (ls' := [.ref l0, .int l1, .int 0, .null, .null]) rfl rfl ?_
  refine V_iconst dX0_dearestPay_2 ci_0 rfl ?_
  refine V_istore_n dX0_dearestPay_3 rfl (by decide) rfl (ls' := [.ref l0, .int l1, .int 0, .int 0, .null]) rfl rfl ?_
  exact okX0_dearestPay_L4 _ _ _ _ h
theorem cp_X0_dearestPay {N d : Nat} {l0 : Nat} {l1 : Int32} {F F' : FF} {r : Int32} (h : fX0_dearestPay N l0 l1 F = some (r, F')) : CP (d + 3) mX0_dearestPay [.ref l0, .int l1] F (fun r' F'' => r' = eI r ∧ F'' = F') := CP_I rfl (Nat.le_of_ble_eq_true rfl) (okX0_dearestPay h)
theorem okX0_movesIn_b96 {N d : Nat} {k4 : Int32 → Int32 → FF → Option (Int32 × FF)} {l0 : Nat} {l1 : Int32} {l2 : Int32} {l3 : Int32} {F : FF} {res : Int32 × FF} (hk4 : ∀ (x2 : Int32) (x3 : Int32) (F : FF), k4 x2 x3 F = some res → FV cX0_movesIn 7 RX0 (d + 2) (some .int) none 4 [.ref l0, .int l1, .int x2, .int x3, .null, .null, .null] [] F (RI res)) (h : fX0_movesIn_b96 N k4 l0 l1 l2 l3 F = some res) : FV cX0_movesIn 7 RX0 (d + 2) (some .int) none 96 [.ref l0, .int l1, .int l2, .int l3, .null, .null, .null] [] F (RI res) := by
  unfold fX0_movesIn_b96 at h
  refine V_iinc dX0_movesIn_96 (v := l3 + 1) rfl (by rw [ci_1]) rfl (ls' := [.ref l0, .int l1, .int l2, .int (l3 + 1), .null, .null, .null]) rfl rfl ?_
  refine V_goto dX0_movesIn_99 rfl ?_
  exact hk4 l2 (l3 + 1) F h
theorem okX0_movesIn_L15 {N d : Nat} {k4 : Int32 → Int32 → FF → Option (Int32 × FF)} {l0 : Nat} {l1 : Int32} {l3 : Int32} {res : Int32 × FF} (hk4 : ∀ (x2 : Int32) (x3 : Int32) (F : FF), k4 x2 x3 F = some res → FV cX0_movesIn 7 RX0 (d + 2) (some .int) none 4 [.ref l0, .int l1, .int x2, .int x3, .null, .null, .null] [] F (RI res)) : ∀ (n : Nat) (l2 : Int32) (l4 : Int32) (F : FF), fX0_movesIn_L15 N k4 l0 l1 l3 n l2 l4 F = some res → FV cX0_movesIn 7 RX0 (d + 2) (some .int) none 15 [.ref l0, .int l1, .int l2, .int l3, .int l4, .null, .null] [] F (RI res) := by
  intro n
  induction n with
  | zero =>
    intro l2 l4 F h
    rw [fX0_movesIn_L15.eq_1] at h
    cases h
  | succ n ih =>
    intro l2 l4 F h
    rw [fX0_movesIn_L15.eq_2] at h
    refine V_iload dX0_movesIn_15 rfl rfl ?_
    refine V_iload_n dX0_movesIn_17 rfl rfl rfl ?_
    refine A_icmp_ge dX0_movesIn_18 rfl rfl h (fun h => ?_) (fun h => ?_)
    · refine V_weak [true, true, true, true, false, false, false] rfl ?_
      exact okX0_movesIn_b96 hk4 h
    · refine V_aload_n dX0_movesIn_21 rfl rfl rfl ?_
      refine A_gI dX0_movesIn_22 fl_X0_32 rfl h fun v1 h => ?_
      refine A_if_le dX0_movesIn_25 rfl rfl h (fun h => ?_) (fun h => ?_)
      · refine V_weak [true, true, true, true, false, false, false] rfl ?_
        exact okX0_movesIn_b96 hk4 h
      · refine V_aload_n dX0_movesIn_28 rfl rfl rfl ?_
        refine A_gR dX0_movesIn_29 fl_X0_17 rfl h fun v2 h => ?_
        refine V_aload_n dX0_movesIn_32 rfl rfl rfl ?_
        refine V_iload dX0_movesIn_33 rfl rfl ?_
        refine A_callV (ci := 0) eI dX0_movesIn_35 cl_X0_60 (by decide) rfl (As := [.int l4]) (st := [.ref v2]) rfl rfl (Nat.le_of_ble_eq_true rfl) rfl h (fun _ _ h => cp_X0_turn (d := d + 1) h) fun v3 F1 h => ?_
        refine A_ld0 dX0_movesIn_38 rfl h fun v4 h => ?_
        refine V_istore dX0_movesIn_39 (by decide) rfl (ls' := [.ref l0, .int l1, .int l2, .int l3, .int l4, .int v4, .null]) rfl rfl ?_
        refine V_aload_n dX0_movesIn_41 rfl rfl rfl ?_
        refine A_gR dX0_movesIn_42 fl_X0_11 rfl h fun v5 h => ?_
        refine V_iload_n dX0_movesIn_45 rfl rfl rfl ?_
        refine A_ldR (t := 5) dX0_movesIn_46 rfl h fun v6 h => ?_
        refine V_iload dX0_movesIn_47 rfl rfl ?_
        refine A_callV (ci := 4) eI dX0_movesIn_49 cl_X0_79 (by decide) rfl (As := [.int v4]) (st := []) rfl rfl (Nat.le_of_ble_eq_true rfl) rfl h (fun _ _ h => cp_X4_find (d := d + 1) h) fun v7 F2 h => ?_
        refine V_istore dX0_movesIn_52 (by decide) rfl (ls' := [.ref l0, .int l1, .int l2, .int l3, .int l4, .int v4, .int v7]) rfl rfl ?_
        refine V_aload_n dX0_movesIn_54 rfl rfl rfl ?_
        refine A_gR dX0_movesIn_55 fl_X0_11 rfl h fun v8 h => ?_
        refine V_iload_n dX0_movesIn_58 rfl rfl rfl ?_
        refine A_ldR (t := 5) dX0_movesIn_59 rfl h fun v9 h => ?_
        refine V_iload dX0_movesIn_60 rfl rfl ?_
        refine A_callV (ci := 4) eI dX0_movesIn_62 cl_X0_56 (by decide) rfl (As := [.int v4]) (st := []) rfl rfl (Nat.le_of_ble_eq_true rfl) rfl h (fun _ _ h => cp_X4_serve (d := d) h) fun v10 F3 h => ?_
        refine V_pop dX0_movesIn_65 rfl rfl ?_
        refine V_iload_n dX0_movesIn_66 rfl rfl rfl ?_
        refine V_aload_n dX0_movesIn_67 rfl rfl rfl ?_
        refine A_gR dX0_movesIn_68 fl_X0_11 rfl h fun v11 h => ?_
        refine V_iload_n dX0_movesIn_71 rfl rfl rfl ?_
        refine A_ldR (t := 5) dX0_movesIn_72 rfl h fun v12 h => ?_
        refine V_iload dX0_movesIn_73 rfl rfl ?_
        refine A_callV (ci := 4) eI dX0_movesIn_75 cl_X0_79 (by decide) rfl (As := [.int v4]) (st := [.int l2]) rfl rfl (Nat.le_of_ble_eq_true rfl) rfl h (fun _ _ h => cp_X4_find (d := d + 1) h) fun v13 F4 h => ?_
        refine V_iload dX0_movesIn_78 rfl rfl ?_
        refine V_midI (q := 88) ((if ¬ v13 = v7 then 1 else 0 : Int32)) [.int l2] (fun yJ hy hJ => ?_) ?_
        · refine V_icmp_ne dX0_movesIn_80 rfl rfl (fun c => ?_) (fun c => ?_)
          · rw [if_pos c] at hy
            refine V_iconst dX0_movesIn_87 ci_1 rfl ?_
            rw [hy] at hJ
            exact hJ
          · rw [if_neg (fun z => z c)] at hy
            refine V_iconst dX0_movesIn_83 ci_0 rfl ?_
            refine V_goto dX0_movesIn_84 rfl ?_
            rw [hy] at hJ
            exact hJ
        · refine V_iadd dX0_movesIn_88 rfl ?_
          refine V_istore_n dX0_movesIn_89 rfl (by decide) rfl (ls' := [.ref l0, .int l1, .int (l2 + ((if ¬ v13 = v7 then 1 else 0 : Int32))), .int l3, .int l4, .int v4, .int v7]) rfl rfl ?_
          refine V_iinc dX0_movesIn_90 (v := l4 + 1) rfl (by rw [ci_1]) rfl (ls' := [.ref l0, .int l1, .int (l2 + ((if ¬ v13 = v7 then 1 else 0 : Int32))), .int l3, .int (l4 + 1), .int v4, .int v7]) rfl rfl ?_
          refine V_goto dX0_movesIn_93 rfl ?_
          refine V_weak [true, true, true, true, true, false, false] rfl ?_
          exact ih (l2 + ((if ¬ v13 = v7 then 1 else 0 : Int32))) (l4 + 1) F4 h
theorem okX0_movesIn_L4 {N d : Nat} {l0 : Nat} {l1 : Int32} {res : Int32 × FF} : ∀ (n : Nat) (l2 : Int32) (l3 : Int32) (F : FF), fX0_movesIn_L4 N l0 l1 n l2 l3 F = some res → FV cX0_movesIn 7 RX0 (d + 2) (some .int) none 4 [.ref l0, .int l1, .int l2, .int l3, .null, .null, .null] [] F (RI res) := by
  intro n
  induction n with
  | zero =>
    intro l2 l3 F h
    rw [fX0_movesIn_L4.eq_1] at h
    cases h
  | succ n ih =>
    intro l2 l3 F h
    rw [fX0_movesIn_L4.eq_2] at h
    refine V_iload_n dX0_movesIn_4 rfl rfl rfl ?_
    refine V_aload_n dX0_movesIn_5 rfl rfl rfl ?_
    refine A_gI dX0_movesIn_6 fl_X0_29 rfl h fun v1 h => ?_
    refine A_icmp_ge dX0_movesIn_9 rfl rfl h (fun h => ?_) (fun h => ?_)
    · refine V_iload_n dX0_movesIn_102 rfl rfl rfl ?_
      exact A_ireturn dX0_movesIn_103 rfl h
    · refine V_iconst dX0_movesIn_12 ci_0 rfl ?_
      refine V_istore dX0_movesIn_13 (by decide) rfl (ls' := [.ref l0, .int l1, .int l2, .int l3, .int 0, .null, .null]) rfl rfl ?_
      exact okX0_movesIn_L15 (fun x2 x3 F h => ih x2 x3 F h) _ _ _ _ h
theorem okX0_movesIn {N d : Nat} {l0 : Nat} {l1 : Int32} {F : FF} {res : Int32 × FF} (h : fX0_movesIn N l0 l1 F = some res) : FV cX0_movesIn 7 RX0 (d + 2) (some .int) none 0 [.ref l0, .int l1, .null, .null, .null, .null, .null] [] F (RI res) := by
  unfold fX0_movesIn at h
  refine V_iconst dX0_movesIn_0 ci_0 rfl ?_
  refine V_istore_n dX0_movesIn_1 rfl (by decide) rfl (ls' := [.ref l0, .int l1, .int 0, .null, .null, .null, .null]) rfl rfl ?_
  refine V_iconst dX0_movesIn_2 ci_0 rfl ?_
  refine V_istore_n dX0_movesIn_3 rfl (by decide) rfl (ls' := [.ref l0, .int l1, .int 0, .int 0, .null, .null, .null]) rfl rfl ?_
  exact okX0_movesIn_L4 _ _ _ _ h
theorem cp_X0_movesIn {N d : Nat} {l0 : Nat} {l1 : Int32} {F F' : FF} {r : Int32} (h : fX0_movesIn N l0 l1 F = some (r, F')) : CP (d + 2) mX0_movesIn [.ref l0, .int l1] F (fun r' F'' => r' = eI r ∧ F'' = F') := CP_I rfl (Nat.le_of_ble_eq_true rfl) (okX0_movesIn h)
theorem okX6_runs {N d : Nat} {l1 : Int32} {l2 : Int32} {F : FF} {res : Int32 × FF} (h : fX6_runs N l1 l2 F = some res) : FV cX6_runs 3 RX6 (d + 5) (some .int) none 0 [.ref 0, .int l1, .int l2] [] F (RI res) := by
  unfold fX6_runs at h
  refine V_iload_n dX6_runs_0 rfl rfl rfl ?_
  refine V_iconst dX6_runs_1 ci_0 rfl ?_
  refine V_sipush dX6_runs_2 cs_200 rfl ?_
  refine P_callS dX6_runs_5 cl_X6_69 (cq_X6_within (d := d + 4)) (As := [.int l1, .int 0, .int 200]) (st := []) rfl rfl (Nat.le_of_ble_eq_true rfl) rfl ?_
  refine A_if_ne dX6_runs_8 rfl rfl h (fun h => ?_) (fun h => ?_)
  · refine V_aload_n dX6_runs_13 rfl rfl rfl ?_
    refine F_getR dX6_runs_14 fl_X6_16 ly_0 rfl rfl ?_
    refine V_aload_n dX6_runs_17 rfl rfl rfl ?_
    refine F_getR dX6_runs_18 fl_X6_10 ly_0 rfl rfl ?_
    refine A_callC (ci := 0) eU dX6_runs_21 cl_X6_90 (by decide) rfl rfl (As := [.ref 1]) (st := []) rfl rfl (Nat.le_of_ble_eq_true rfl) rfl h (fun _ _ h => cp_X0_copy (d := d + 2) h) fun _ F1 h => ?_
    refine V_iload_n dX6_runs_24 rfl rfl rfl ?_
    refine A_if h (fun c h => ?_) (fun c0 h => ?_)
    · rw [c]
      refine V_tableIn dX6_runs_25 (by decide) (by decide) rfl rfl ?_
      refine V_aload_n dX6_runs_56 rfl rfl rfl ?_
      refine F_getR dX6_runs_57 fl_X6_16 ly_0 rfl rfl ?_
      refine V_iload_n dX6_runs_60 rfl rfl rfl ?_
      refine V_ldc dX6_runs_61 kc_X6_117 rfl ?_
      refine A_callC (ci := 0) eI dX6_runs_63 cl_X6_178 (by decide) rfl rfl (As := [.int l1, .int 1000000000]) (st := []) rfl rfl (Nat.le_of_ble_eq_true rfl) rfl h (fun _ _ h => cp_X0_paidByAll (d := d) h) fun v1 F2 h => ?_
      exact A_ireturn dX6_runs_66 rfl h
    refine A_if h (fun c h => ?_) (fun c1 h => ?_)
    · rw [c]
      refine V_tableIn dX6_runs_25 (by decide) (by decide) rfl rfl ?_
      refine V_aload_n dX6_runs_67 rfl rfl rfl ?_
      refine V_iload_n dX6_runs_68 rfl rfl rfl ?_
      refine A_callC (ci := 6) eI dX6_runs_69 cl_X6_182 (by decide) rfl rfl (As := [.int l1]) (st := []) rfl rfl (Nat.le_of_ble_eq_true rfl) rfl h (fun _ _ h => cp_X6_cheapestIn (d := d) h) fun v2 F3 h => ?_
      exact A_ireturn dX6_runs_72 rfl h
    refine A_if h (fun c h => ?_) (fun c2 h => ?_)
    · rw [c]
      refine V_tableIn dX6_runs_25 (by decide) (by decide) rfl rfl ?_
      refine V_aload_n dX6_runs_73 rfl rfl rfl ?_
      refine F_getR dX6_runs_74 fl_X6_16 ly_0 rfl rfl ?_
      refine V_iload_n dX6_runs_77 rfl rfl rfl ?_
      refine A_callC (ci := 0) eI dX6_runs_78 cl_X6_185 (by decide) rfl rfl (As := [.int l1]) (st := []) rfl rfl (Nat.le_of_ble_eq_true rfl) rfl h (fun _ _ h => cp_X0_dearestPay (d := d + 1) h) fun v3 F4 h => ?_
      exact A_ireturn dX6_runs_81 rfl h
    refine A_if h (fun c h => ?_) (fun c3 h => ?_)
    · rw [c]
      refine V_tableIn dX6_runs_25 (by decide) (by decide) rfl rfl ?_
      refine V_aload_n dX6_runs_82 rfl rfl rfl ?_
      refine F_getR dX6_runs_83 fl_X6_16 ly_0 rfl rfl ?_
      refine V_iload_n dX6_runs_86 rfl rfl rfl ?_
      refine A_callC (ci := 0) eI dX6_runs_87 cl_X6_188 (by decide) rfl rfl (As := [.int l1]) (st := []) rfl rfl (Nat.le_of_ble_eq_true rfl) rfl h (fun _ _ h => cp_X0_movesIn (d := d + 2) h) fun v4 F5 h => ?_
      exact A_ireturn dX6_runs_90 rfl h
    refine V_tableOut dX6_runs_25 (tb_out4 c0 c1 c2 c3) rfl ?_
    refine V_iconst dX6_runs_91 ci_m1 rfl ?_
    exact A_ireturn dX6_runs_92 rfl h
  · refine V_iconst dX6_runs_11 ci_m1 rfl ?_
    exact A_ireturn dX6_runs_12 rfl h
theorem cp_X6_runs {N d : Nat} {l1 : Int32} {l2 : Int32} {F F' : FF} {r : Int32} (h : fX6_runs N l1 l2 F = some (r, F')) : CP (d + 5) mX6_runs [.ref 0, .int l1, .int l2] F (fun r' F'' => r' = eI r ∧ F'' = F') := CP_I rfl (Nat.le_of_ble_eq_true rfl) (okX6_runs h)
theorem okX6_paid {N d : Nat} {l1 : Int32} {l2 : Int32} {F : FF} {res : Int32 × FF} (h : fX6_paid N l1 l2 F = some res) : FV cX6_paid 3 RX6 (d + 4) (some .int) none 0 [.ref 0, .int l1, .int l2] [] F (RI res) := by
  unfold fX6_paid at h
  refine V_aload_n dX6_paid_0 rfl rfl rfl ?_
  refine F_getR dX6_paid_1 fl_X6_10 ly_0 rfl rfl ?_
  refine V_iload_n dX6_paid_4 rfl rfl rfl ?_
  refine P_callV (ci := 0) dX6_paid_5 cl_X6_138 (by decide) rfl rfl (cq_X0_hasShelf (d := d + 3) rfl) (As := [.int l1]) (st := []) rfl rfl (Nat.le_of_ble_eq_true rfl) rfl ?_
  refine A_if_eq dX6_paid_8 rfl rfl h (fun h => ?_) (fun h => ?_)
  · refine V_iconst dX6_paid_22 ci_m1 rfl ?_
    exact A_ireturn dX6_paid_23 rfl h
  · refine V_iload_n dX6_paid_11 rfl rfl rfl ?_
    refine V_iconst dX6_paid_12 ci_0 rfl ?_
    refine V_sipush dX6_paid_13 cs_200 rfl ?_
    refine P_callS dX6_paid_16 cl_X6_69 (cq_X6_within (d := d + 3)) (As := [.int l2, .int 0, .int 200]) (st := []) rfl rfl (Nat.le_of_ble_eq_true rfl) rfl ?_
    refine A_if_ne dX6_paid_19 rfl rfl h (fun h => ?_) (fun h => ?_)
    · refine V_aload_n dX6_paid_24 rfl rfl rfl ?_
      refine F_getR dX6_paid_25 fl_X6_16 ly_0 rfl rfl ?_
      refine V_aload_n dX6_paid_28 rfl rfl rfl ?_
      refine F_getR dX6_paid_29 fl_X6_10 ly_0 rfl rfl ?_
      refine A_callC (ci := 0) eU dX6_paid_32 cl_X6_90 (by decide) rfl rfl (As := [.ref 1]) (st := []) rfl rfl (Nat.le_of_ble_eq_true rfl) rfl h (fun _ _ h => cp_X0_copy (d := d + 1) h) fun _ F1 h => ?_
      refine V_aload_n dX6_paid_35 rfl rfl rfl ?_
      refine F_getR dX6_paid_36 fl_X6_16 ly_0 rfl rfl ?_
      refine V_iload_n dX6_paid_39 rfl rfl rfl ?_
      refine V_iload_n dX6_paid_40 rfl rfl rfl ?_
      refine V_ldc dX6_paid_41 kc_X6_117 rfl ?_
      refine A_callC (ci := 0) eI dX6_paid_43 cl_X6_191 (by decide) rfl rfl (As := [.int l1, .int l2, .int 1000000000]) (st := []) rfl rfl (Nat.le_of_ble_eq_true rfl) rfl h (fun _ _ h => cp_X0_paidBy (d := d) h) fun v1 F2 h => ?_
      exact A_ireturn dX6_paid_46 rfl h
    · refine V_iconst dX6_paid_22 ci_m1 rfl ?_
      exact A_ireturn dX6_paid_23 rfl h
theorem cp_X6_paid {N d : Nat} {l1 : Int32} {l2 : Int32} {F F' : FF} {r : Int32} (h : fX6_paid N l1 l2 F = some (r, F')) : CP (d + 4) mX6_paid [.ref 0, .int l1, .int l2] F (fun r' F'' => r' = eI r ∧ F'' = F') := CP_I rfl (Nat.le_of_ble_eq_true rfl) (okX6_paid h)
theorem okX6_ahead {N d : Nat} {l1 : Int32} {l2 : Int32} {l3 : Int32} {F : FF} {res : Int32 × FF} (h : fX6_ahead N l1 l2 l3 F = some res) : FV cX6_ahead 4 RX6 (d + 4) (some .int) none 0 [.ref 0, .int l1, .int l2, .int l3] [] F (RI res) := by
  unfold fX6_ahead at h
  refine V_aload_n dX6_ahead_0 rfl rfl rfl ?_
  refine F_getR dX6_ahead_1 fl_X6_10 ly_0 rfl rfl ?_
  refine V_iload_n dX6_ahead_4 rfl rfl rfl ?_
  refine P_callV (ci := 0) dX6_ahead_5 cl_X6_138 (by decide) rfl rfl (cq_X0_hasShelf (d := d + 3) rfl) (As := [.int l1]) (st := []) rfl rfl (Nat.le_of_ble_eq_true rfl) rfl ?_
  refine A_if_eq dX6_ahead_8 rfl rfl h (fun h => ?_) (fun h => ?_)
  · refine V_iconst dX6_ahead_33 ci_m1 rfl ?_
    exact A_ireturn dX6_ahead_34 rfl h
  · refine V_iload_n dX6_ahead_11 rfl rfl rfl ?_
    refine V_iconst dX6_ahead_12 ci_0 rfl ?_
    refine V_sipush dX6_ahead_13 cs_200 rfl ?_
    refine P_callS dX6_ahead_16 cl_X6_69 (cq_X6_within (d := d + 3)) (As := [.int l2, .int 0, .int 200]) (st := []) rfl rfl (Nat.le_of_ble_eq_true rfl) rfl ?_
    refine A_if_eq dX6_ahead_19 rfl rfl h (fun h => ?_) (fun h => ?_)
    · refine V_iconst dX6_ahead_33 ci_m1 rfl ?_
      exact A_ireturn dX6_ahead_34 rfl h
    · refine V_aload_n dX6_ahead_22 rfl rfl rfl ?_
      refine F_getR dX6_ahead_23 fl_X6_10 ly_0 rfl rfl ?_
      refine V_iload_n dX6_ahead_26 rfl rfl rfl ?_
      refine P_callV (ci := 0) dX6_ahead_27 cl_X6_151 (by decide) rfl rfl (cq_X0_hasBook (d := d + 3) rfl) (As := [.int l3]) (st := []) rfl rfl (Nat.le_of_ble_eq_true rfl) rfl ?_
      refine A_if_ne dX6_ahead_30 rfl rfl h (fun h => ?_) (fun h => ?_)
      · refine V_aload_n dX6_ahead_35 rfl rfl rfl ?_
        refine F_getR dX6_ahead_36 fl_X6_16 ly_0 rfl rfl ?_
        refine V_aload_n dX6_ahead_39 rfl rfl rfl ?_
        refine F_getR dX6_ahead_40 fl_X6_10 ly_0 rfl rfl ?_
        refine A_callC (ci := 0) eU dX6_ahead_43 cl_X6_90 (by decide) rfl rfl (As := [.ref 1]) (st := []) rfl rfl (Nat.le_of_ble_eq_true rfl) rfl h (fun _ _ h => cp_X0_copy (d := d + 1) h) fun _ F1 h => ?_
        refine V_aload_n dX6_ahead_46 rfl rfl rfl ?_
        refine F_getR dX6_ahead_47 fl_X6_16 ly_0 rfl rfl ?_
        refine V_iload_n dX6_ahead_50 rfl rfl rfl ?_
        refine V_iload_n dX6_ahead_51 rfl rfl rfl ?_
        refine V_ldc dX6_ahead_52 kc_X6_117 rfl ?_
        refine A_callC (ci := 0) eI dX6_ahead_54 cl_X6_191 (by decide) rfl rfl (As := [.int l1, .int l2, .int 1000000000]) (st := []) rfl rfl (Nat.le_of_ble_eq_true rfl) rfl h (fun _ _ h => cp_X0_paidBy (d := d) h) fun v1 F2 h => ?_
        refine V_pop dX6_ahead_57 rfl rfl ?_
        refine V_aload_n dX6_ahead_58 rfl rfl rfl ?_
        refine F_getR dX6_ahead_59 fl_X6_16 ly_0 rfl rfl ?_
        refine F_getR dX6_ahead_62 fl_X6_122 ly_16 rfl rfl ?_
        refine V_iload_n dX6_ahead_65 rfl rfl rfl ?_
        refine A_ldR (t := 5) dX6_ahead_66 rfl h fun v2 h => ?_
        refine A_gR dX6_ahead_67 fl_X6_145 rfl h fun v3 h => ?_
        refine V_iload_n dX6_ahead_70 rfl rfl rfl ?_
        refine A_ld0 dX6_ahead_71 rfl h fun v4 h => ?_
        exact A_ireturn dX6_ahead_72 rfl h
      · refine V_iconst dX6_ahead_33 ci_m1 rfl ?_
        exact A_ireturn dX6_ahead_34 rfl h
theorem cp_X6_ahead {N d : Nat} {l1 : Int32} {l2 : Int32} {l3 : Int32} {F F' : FF} {r : Int32} (h : fX6_ahead N l1 l2 l3 F = some (r, F')) : CP (d + 4) mX6_ahead [.ref 0, .int l1, .int l2, .int l3] F (fun r' F'' => r' = eI r ∧ F'' = F') := CP_I rfl (Nat.le_of_ble_eq_true rfl) (okX6_ahead h)
theorem okX6_when_L37 {N d : Nat} {l1 : Int32} {l2 : Int32} {res : Int32 × FF} : ∀ (n : Nat) (l3 : Int32) (F : FF), fX6_when_L37 N l1 l2 n l3 F = some res → FV cX6_when 4 RX6 (d + 3) (some .int) none 37 [.ref 0, .int l1, .int l2, .int l3] [] F (RI res) := by
  intro n
  induction n with
  | zero =>
    intro l3 F h
    rw [fX6_when_L37.eq_1] at h
    cases h
  | succ n ih =>
    intro l3 F h
    rw [fX6_when_L37.eq_2] at h
    refine V_iload_n dX6_when_37 rfl rfl rfl ?_
    refine V_sipush dX6_when_38 cs_200 rfl ?_
    refine A_icmp_gt dX6_when_41 rfl rfl h (fun h => ?_) (fun h => ?_)
    · refine V_bipush dX6_when_80 cb_m4 rfl ?_
      exact A_ireturn dX6_when_82 rfl h
    · refine V_aload_n dX6_when_44 rfl rfl rfl ?_
      refine F_getR dX6_when_45 fl_X6_16 ly_0 rfl rfl ?_
      refine F_getR dX6_when_48 fl_X6_122 ly_16 rfl rfl ?_
      refine V_iload_n dX6_when_51 rfl rfl rfl ?_
      refine A_ldR (t := 5) dX6_when_52 rfl h fun v1 h => ?_
      refine A_gR dX6_when_53 fl_X6_145 rfl h fun v2 h => ?_
      refine V_iconst dX6_when_56 ci_0 rfl ?_
      refine A_ld0 dX6_when_57 rfl h fun v3 h => ?_
      refine V_iload_n dX6_when_58 rfl rfl rfl ?_
      refine A_icmp_ne dX6_when_59 rfl rfl h (fun h => ?_) (fun h => ?_)
      · refine V_aload_n dX6_when_64 rfl rfl rfl ?_
        refine F_getR dX6_when_65 fl_X6_16 ly_0 rfl rfl ?_
        refine V_iload_n dX6_when_68 rfl rfl rfl ?_
        refine V_iload_n dX6_when_69 rfl rfl rfl ?_
        refine A_callC (ci := 0) eI dX6_when_70 cl_X6_195 (by decide) rfl rfl (As := [.int l1, .int l3]) (st := []) rfl rfl (Nat.le_of_ble_eq_true rfl) rfl h (fun _ _ h => cp_X0_serveTurn (d := d) h) fun v4 F1 h => ?_
        refine V_pop dX6_when_73 rfl rfl ?_
        refine V_iinc dX6_when_74 (v := l3 + 1) rfl (by rw [ci_1]) rfl (ls' := [.ref 0, .int l1, .int l2, .int (l3 + 1)]) rfl rfl ?_
        refine V_goto dX6_when_77 rfl ?_
        exact ih (l3 + 1) F1 h
      · refine V_iload_n dX6_when_62 rfl rfl rfl ?_
        exact A_ireturn dX6_when_63 rfl h
theorem okX6_when {N d : Nat} {l1 : Int32} {l2 : Int32} {F : FF} {res : Int32 × FF} (h : fX6_when N l1 l2 F = some res) : FV cX6_when 4 RX6 (d + 3) (some .int) none 0 [.ref 0, .int l1, .int l2, .null] [] F (RI res) := by
  unfold fX6_when at h
  refine V_aload_n dX6_when_0 rfl rfl rfl ?_
  refine F_getR dX6_when_1 fl_X6_10 ly_0 rfl rfl ?_
  refine V_iload_n dX6_when_4 rfl rfl rfl ?_
  refine P_callV (ci := 0) dX6_when_5 cl_X6_138 (by decide) rfl rfl (cq_X0_hasShelf (d := d + 2) rfl) (As := [.int l1]) (st := []) rfl rfl (Nat.le_of_ble_eq_true rfl) rfl ?_
  refine A_if_eq dX6_when_8 rfl rfl h (fun h => ?_) (fun h => ?_)
  · refine V_iconst dX6_when_22 ci_m1 rfl ?_
    exact A_ireturn dX6_when_23 rfl h
  · refine V_aload_n dX6_when_11 rfl rfl rfl ?_
    refine F_getR dX6_when_12 fl_X6_10 ly_0 rfl rfl ?_
    refine V_iload_n dX6_when_15 rfl rfl rfl ?_
    refine P_callV (ci := 0) dX6_when_16 cl_X6_151 (by decide) rfl rfl (cq_X0_hasBook (d := d + 2) rfl) (As := [.int l2]) (st := []) rfl rfl (Nat.le_of_ble_eq_true rfl) rfl ?_
    refine A_if_ne dX6_when_19 rfl rfl h (fun h => ?_) (fun h => ?_)
    · refine V_aload_n dX6_when_24 rfl rfl rfl ?_
      refine F_getR dX6_when_25 fl_X6_16 ly_0 rfl rfl ?_
      refine V_aload_n dX6_when_28 rfl rfl rfl ?_
      refine F_getR dX6_when_29 fl_X6_10 ly_0 rfl rfl ?_
      refine A_callC (ci := 0) eU dX6_when_32 cl_X6_90 (by decide) rfl rfl (As := [.ref 1]) (st := []) rfl rfl (Nat.le_of_ble_eq_true rfl) rfl h (fun _ _ h => cp_X0_copy (d := d) h) fun _ F1 h => ?_
      refine V_iconst dX6_when_35 ci_0 rfl ?_
      refine V_istore_n dX6_when_36 rfl (by decide) rfl (ls' := [.ref 0, .int l1, .int l2, .int 0]) rfl rfl ?_
      exact okX6_when_L37 _ _ _ h
    · refine V_iconst dX6_when_22 ci_m1 rfl ?_
      exact A_ireturn dX6_when_23 rfl h
theorem cp_X6_when {N d : Nat} {l1 : Int32} {l2 : Int32} {F F' : FF} {r : Int32} (h : fX6_when N l1 l2 F = some (r, F')) : CP (d + 3) mX6_when [.ref 0, .int l1, .int l2] F (fun r' F'' => r' = eI r ∧ F'' = F') := CP_I rfl (Nat.le_of_ble_eq_true rfl) (okX6_when h)
theorem okX4_standsAs_L2 {N d : Nat} {l0 : Nat} {l1 : Nat} {res : Int32 × FF} : ∀ (n : Nat) (l2 : Int32) (F : FF), fX4_standsAs_L2 N l0 l1 n l2 F = some res → FV cX4_standsAs 3 RX4 (d) (some .boolean) none 2 [.ref l0, .ref l1, .int l2] [] F (RI res) := by
  intro n
  induction n with
  | zero =>
    intro l2 F h
    rw [fX4_standsAs_L2.eq_1] at h
    cases h
  | succ n ih =>
    intro l2 F h
    rw [fX4_standsAs_L2.eq_2] at h
    refine V_iload_n dX4_standsAs_2 rfl rfl rfl ?_
    refine V_bipush dX4_standsAs_3 cb_6 rfl ?_
    refine A_icmp_ge dX4_standsAs_5 rfl rfl h (fun h => ?_) (fun h => ?_)
    · refine V_iconst dX4_standsAs_31 ci_1 rfl ?_
      exact A_creturn dX4_standsAs_32 rfl (by decide) h
    · refine V_aload_n dX4_standsAs_8 rfl rfl rfl ?_
      refine A_gR dX4_standsAs_9 fl_X4_9 rfl h fun v1 h => ?_
      refine V_iload_n dX4_standsAs_12 rfl rfl rfl ?_
      refine A_ld0 dX4_standsAs_13 rfl h fun v2 h => ?_
      refine V_aload_n dX4_standsAs_14 rfl rfl rfl ?_
      refine A_gR dX4_standsAs_15 fl_X4_9 rfl h fun v3 h => ?_
      refine V_iload_n dX4_standsAs_18 rfl rfl rfl ?_
      refine A_ld0 dX4_standsAs_19 rfl h fun v4 h => ?_
      refine A_icmp_eq dX4_standsAs_20 rfl rfl h (fun h => ?_) (fun h => ?_)
      · refine V_iinc dX4_standsAs_25 (v := l2 + 1) rfl (by rw [ci_1]) rfl (ls' := [.ref l0, .ref l1, .int (l2 + 1)]) rfl rfl ?_
        refine V_goto dX4_standsAs_28 rfl ?_
        exact ih (l2 + 1) F h
      · refine V_iconst dX4_standsAs_23 ci_0 rfl ?_
        exact A_creturn dX4_standsAs_24 rfl (by decide) h
theorem okX4_standsAs {N d : Nat} {l0 : Nat} {l1 : Nat} {F : FF} {res : Int32 × FF} (h : fX4_standsAs N l0 l1 F = some res) : FV cX4_standsAs 3 RX4 (d) (some .boolean) none 0 [.ref l0, .ref l1, .null] [] F (RI res) := by
  unfold fX4_standsAs at h
  refine V_iconst dX4_standsAs_0 ci_0 rfl ?_
  refine V_istore_n dX4_standsAs_1 rfl (by decide) rfl (ls' := [.ref l0, .ref l1, .int 0]) rfl rfl ?_
  exact okX4_standsAs_L2 _ _ _ h
theorem cp_X4_standsAs {N d : Nat} {l0 : Nat} {l1 : Nat} {F F' : FF} {r : Int32} (h : fX4_standsAs N l0 l1 F = some (r, F')) : CP (d) mX4_standsAs [.ref l0, .ref l1] F (fun r' F'' => r' = eI r ∧ F'' = F') := CP_I rfl (Nat.le_of_ble_eq_true rfl) (okX4_standsAs h)
theorem okX0_standsAs_L2 {N d : Nat} {l0 : Nat} {l1 : Nat} {res : Int32 × FF} : ∀ (n : Nat) (l2 : Int32) (F : FF), fX0_standsAs_L2 N l0 l1 n l2 F = some res → FV cX0_standsAs 3 RX0 (d + 1) (some .boolean) none 2 [.ref l0, .ref l1, .int l2] [] F (RI res) := by
  intro n
  induction n with
  | zero =>
    intro l2 F h
    rw [fX0_standsAs_L2.eq_1] at h
    cases h
  | succ n ih =>
    intro l2 F h
    rw [fX0_standsAs_L2.eq_2] at h
    refine V_iload_n dX0_standsAs_2 rfl rfl rfl ?_
    refine V_aload_n dX0_standsAs_3 rfl rfl rfl ?_
    refine A_gI dX0_standsAs_4 fl_X0_29 rfl h fun v1 h => ?_
    refine A_icmp_ge dX0_standsAs_7 rfl rfl h (fun h => ?_) (fun h => ?_)
    · refine V_iconst dX0_standsAs_36 ci_1 rfl ?_
      exact A_creturn dX0_standsAs_37 rfl (by decide) h
    · refine V_aload_n dX0_standsAs_10 rfl rfl rfl ?_
      refine A_gR dX0_standsAs_11 fl_X0_11 rfl h fun v2 h => ?_
      refine V_iload_n dX0_standsAs_14 rfl rfl rfl ?_
      refine A_ldR (t := 5) dX0_standsAs_15 rfl h fun v3 h => ?_
      refine V_aload_n dX0_standsAs_16 rfl rfl rfl ?_
      refine A_gR dX0_standsAs_17 fl_X0_11 rfl h fun v4 h => ?_
      refine V_iload_n dX0_standsAs_20 rfl rfl rfl ?_
      refine A_ldR (t := 5) dX0_standsAs_21 rfl h fun v5 h => ?_
      refine A_callV (ci := 4) eI dX0_standsAs_22 cl_X0_82 (by decide) rfl (As := [.ref v5]) (st := []) rfl rfl (Nat.le_of_ble_eq_true rfl) rfl h (fun _ _ h => cp_X4_standsAs (d := d) h) fun v6 F1 h => ?_
      refine A_if_ne dX0_standsAs_25 rfl rfl h (fun h => ?_) (fun h => ?_)
      · refine V_iinc dX0_standsAs_30 (v := l2 + 1) rfl (by rw [ci_1]) rfl (ls' := [.ref l0, .ref l1, .int (l2 + 1)]) rfl rfl ?_
        refine V_goto dX0_standsAs_33 rfl ?_
        exact ih (l2 + 1) F1 h
      · refine V_iconst dX0_standsAs_28 ci_0 rfl ?_
        exact A_creturn dX0_standsAs_29 rfl (by decide) h
theorem okX0_standsAs {N d : Nat} {l0 : Nat} {l1 : Nat} {F : FF} {res : Int32 × FF} (h : fX0_standsAs N l0 l1 F = some res) : FV cX0_standsAs 3 RX0 (d + 1) (some .boolean) none 0 [.ref l0, .ref l1, .null] [] F (RI res) := by
  unfold fX0_standsAs at h
  refine V_iconst dX0_standsAs_0 ci_0 rfl ?_
  refine V_istore_n dX0_standsAs_1 rfl (by decide) rfl (ls' := [.ref l0, .ref l1, .int 0]) rfl rfl ?_
  exact okX0_standsAs_L2 _ _ _ h
theorem cp_X0_standsAs {N d : Nat} {l0 : Nat} {l1 : Nat} {F F' : FF} {r : Int32} (h : fX0_standsAs N l0 l1 F = some (r, F')) : CP (d + 1) mX0_standsAs [.ref l0, .ref l1] F (fun r' F'' => r' = eI r ∧ F'' = F') := CP_I rfl (Nat.le_of_ble_eq_true rfl) (okX0_standsAs h)
theorem okX6_again_b63 {N d : Nat} {k13 : Int32 → FF → Option (Int32 × FF)} {l1 : Int32} {F : FF} {res : Int32 × FF} (hk13 : ∀ (x1 : Int32) (F : FF), k13 x1 F = some res → FV cX6_again 2 RX6 (d + 4) (some .int) none 13 [.ref 0, .int x1] [] F (RI res)) (h : fX6_again_b63 N k13 l1 F = some res) : FV cX6_again 2 RX6 (d + 4) (some .int) none 63 [.ref 0, .int l1] [] F (RI res) := by
  unfold fX6_again_b63 at h
  refine V_iinc dX6_again_63 (v := l1 + 1) rfl (by rw [ci_1]) rfl (ls' := [.ref 0, .int (l1 + 1)]) rfl rfl ?_
  refine V_goto dX6_again_66 rfl ?_
  exact hk13 (l1 + 1) F h
theorem okX6_again_L13 {N d : Nat} {res : Int32 × FF} : ∀ (n : Nat) (l1 : Int32) (F : FF), fX6_again_L13 N n l1 F = some res → FV cX6_again 2 RX6 (d + 4) (some .int) none 13 [.ref 0, .int l1] [] F (RI res) := by
  intro n
  induction n with
  | zero =>
    intro l1 F h
    rw [fX6_again_L13.eq_1] at h
    cases h
  | succ n ih =>
    intro l1 F h
    rw [fX6_again_L13.eq_2] at h
    refine V_iload_n dX6_again_13 rfl rfl rfl ?_
    refine V_sipush dX6_again_14 cs_200 rfl ?_
    refine A_icmp_gt dX6_again_17 rfl rfl h (fun h => ?_) (fun h => ?_)
    · refine V_bipush dX6_again_69 cb_m4 rfl ?_
      exact A_ireturn dX6_again_71 rfl h
    · refine V_aload_n dX6_again_20 rfl rfl rfl ?_
      refine F_getR dX6_again_21 fl_X6_16 ly_0 rfl rfl ?_
      refine A_callC (ci := 0) eI dX6_again_24 cl_X6_175 (by decide) rfl rfl (As := []) (st := []) rfl rfl (Nat.le_of_ble_eq_true rfl) rfl h (fun _ _ h => cp_X0_stepOn (d := d) h) fun v1 F1 h => ?_
      refine V_pop dX6_again_27 rfl rfl ?_
      refine V_aload_n dX6_again_28 rfl rfl rfl ?_
      refine F_getR dX6_again_29 fl_X6_16 ly_0 rfl rfl ?_
      refine V_iconst dX6_again_32 ci_0 rfl ?_
      refine A_callC (ci := 0) eI dX6_again_33 cl_X6_109 (by decide) rfl rfl (As := [.int 0]) (st := []) rfl rfl (Nat.le_of_ble_eq_true rfl) rfl h (fun _ _ h => cp_X0_turn (d := d + 3) h) fun v2 F2 h => ?_
      refine V_aload_n dX6_again_36 rfl rfl rfl ?_
      refine F_getR dX6_again_37 fl_X6_10 ly_0 rfl rfl ?_
      refine V_iconst dX6_again_40 ci_0 rfl ?_
      refine A_callC (ci := 0) eI dX6_again_41 cl_X6_109 (by decide) rfl rfl (As := [.int 0]) (st := [.int v2]) rfl rfl (Nat.le_of_ble_eq_true rfl) rfl h (fun _ _ h => cp_X0_turn (d := d + 3) h) fun v3 F3 h => ?_
      refine A_icmp_ne dX6_again_44 rfl rfl h (fun h => ?_) (fun h => ?_)
      · exact okX6_again_b63 (fun x1 F h => ih x1 F h) h
      · refine V_aload_n dX6_again_47 rfl rfl rfl ?_
        refine F_getR dX6_again_48 fl_X6_16 ly_0 rfl rfl ?_
        refine V_aload_n dX6_again_51 rfl rfl rfl ?_
        refine F_getR dX6_again_52 fl_X6_10 ly_0 rfl rfl ?_
        refine A_callC (ci := 0) eI dX6_again_55 cl_X6_198 (by decide) rfl rfl (As := [.ref 1]) (st := []) rfl rfl (Nat.le_of_ble_eq_true rfl) rfl h (fun _ _ h => cp_X0_standsAs (d := d + 2) h) fun v4 F4 h => ?_
        refine A_if_eq dX6_again_58 rfl rfl h (fun h => ?_) (fun h => ?_)
        · exact okX6_again_b63 (fun x1 F h => ih x1 F h) h
        · refine V_iload_n dX6_again_61 rfl rfl rfl ?_
          exact A_ireturn dX6_again_62 rfl h
theorem okX6_again {N d : Nat} {F : FF} {res : Int32 × FF} (h : fX6_again N F = some res) : FV cX6_again 2 RX6 (d + 4) (some .int) none 0 [.ref 0, .null] [] F (RI res) := by
  unfold fX6_again at h
  refine V_aload_n dX6_again_0 rfl rfl rfl ?_
  refine F_getR dX6_again_1 fl_X6_16 ly_0 rfl rfl ?_
  refine V_aload_n dX6_again_4 rfl rfl rfl ?_
  refine F_getR dX6_again_5 fl_X6_10 ly_0 rfl rfl ?_
  refine A_callC (ci := 0) eU dX6_again_8 cl_X6_90 (by decide) rfl rfl (As := [.ref 1]) (st := []) rfl rfl (Nat.le_of_ble_eq_true rfl) rfl h (fun _ _ h => cp_X0_copy (d := d + 1) h) fun _ F1 h => ?_
  refine V_iconst dX6_again_11 ci_1 rfl ?_
  refine V_istore_n dX6_again_12 rfl (by decide) rfl (ls' := [.ref 0, .int 1]) rfl rfl ?_
  exact okX6_again_L13 _ _ _ h
theorem cp_X6_again {N d : Nat} {F F' : FF} {r : Int32} (h : fX6_again N F = some (r, F')) : CP (d + 4) mX6_again [.ref 0] F (fun r' F'' => r' = eI r ∧ F'' = F') := CP_I rfl (Nat.le_of_ble_eq_true rfl) (okX6_again h)
theorem okX6_exchange {N d : Nat} {l0 : Nat} {l1 : Int32} {l2 : Int32} {F : FF} {res : Unit × FF} (h : fX6_exchange N l0 l1 l2 F = some res) : FV cX6_exchange 4 RX6 (d) none none 0 [.ref l0, .int l1, .int l2, .null] [] F (RU res) := by
  unfold fX6_exchange at h
  refine V_aload_n dX6_exchange_0 rfl rfl rfl ?_
  refine V_iload_n dX6_exchange_1 rfl rfl rfl ?_
  refine A_ld0 dX6_exchange_2 rfl h fun v1 h => ?_
  refine V_istore_n dX6_exchange_3 rfl (by decide) rfl (ls' := [.ref l0, .int l1, .int l2, .int v1]) rfl rfl ?_
  refine V_aload_n dX6_exchange_4 rfl rfl rfl ?_
  refine V_iload_n dX6_exchange_5 rfl rfl rfl ?_
  refine V_aload_n dX6_exchange_6 rfl rfl rfl ?_
  refine V_iload_n dX6_exchange_7 rfl rfl rfl ?_
  refine A_ld0 dX6_exchange_8 rfl h fun v2 h => ?_
  refine A_st0 dX6_exchange_9 rfl h fun F1 h => ?_
  refine V_aload_n dX6_exchange_10 rfl rfl rfl ?_
  refine V_iload_n dX6_exchange_11 rfl rfl rfl ?_
  refine V_iload_n dX6_exchange_12 rfl rfl rfl ?_
  refine A_st0 dX6_exchange_13 rfl h fun F2 h => ?_
  exact A_return dX6_exchange_14 rfl h
theorem cp_X6_exchange {N d : Nat} {l0 : Nat} {l1 : Int32} {l2 : Int32} {F F' : FF} {r : Unit} (h : fX6_exchange N l0 l1 l2 F = some (r, F')) : CP (d) mX6_exchange [.ref l0, .int l1, .int l2] F (fun r' F'' => r' = eU r ∧ F'' = F') := CP_U rfl (Nat.le_of_ble_eq_true rfl) (okX6_exchange h)
theorem okX6_nextRow_L73 {N d : Nat} {l0 : Nat} {res : Int32 × FF} : ∀ (n : Nat) (l4 : Int32) (l5 : Int32) (F : FF), fX6_nextRow_L73 N l0 n l4 l5 F = some res → FV cX6_nextRow 6 RX6 (d + 1) (some .boolean) none 73 [.ref l0, .null, .null, .null, .int l4, .int l5] [] F (RI res) := by
  intro n
  induction n with
  | zero =>
    intro l4 l5 F h
    rw [fX6_nextRow_L73.eq_1] at h
    cases h
  | succ n ih =>
    intro l4 l5 F h
    rw [fX6_nextRow_L73.eq_2] at h
    refine V_iload dX6_nextRow_73 rfl rfl ?_
    refine V_iload dX6_nextRow_75 rfl rfl ?_
    refine A_icmp_ge dX6_nextRow_77 rfl rfl h (fun h => ?_) (fun h => ?_)
    · refine V_iconst dX6_nextRow_97 ci_1 rfl ?_
      exact A_creturn dX6_nextRow_98 rfl (by decide) h
    · refine V_aload_n dX6_nextRow_80 rfl rfl rfl ?_
      refine V_iload dX6_nextRow_81 rfl rfl ?_
      refine V_iload dX6_nextRow_83 rfl rfl ?_
      refine A_callS eU dX6_nextRow_85 cl_X6_218 (As := [.ref l0, .int l4, .int l5]) (st := []) rfl rfl (Nat.le_of_ble_eq_true rfl) rfl h (fun _ _ h => cp_X6_exchange (d := d) h) fun _ F1 h => ?_
      refine V_iinc dX6_nextRow_88 (v := l4 + 1) rfl (by rw [ci_1]) rfl (ls' := [.ref l0, .null, .null, .null, .int (l4 + 1), .int l5]) rfl rfl ?_
      refine V_iinc dX6_nextRow_91 (v := l5 + ((-1))) rfl (by rw [ci_m1]) rfl (ls' := [.ref l0, .null, .null, .null, .int (l4 + 1), .int (l5 + ((-1)))]) rfl rfl ?_
      refine V_goto dX6_nextRow_94 rfl ?_
      exact ih (l4 + 1) (l5 + ((-1))) F1 h
theorem okX6_nextRow_b57 {N d : Nat} {l0 : Nat} {l1 : Int32} {l2 : Int32} {l3 : Int32} {F : FF} {res : Int32 × FF} (h : fX6_nextRow_b57 N l0 l1 l2 l3 F = some res) : FV cX6_nextRow 6 RX6 (d + 1) (some .boolean) none 57 [.ref l0, .int l1, .int l2, .int l3, .null, .null] [] F (RI res) := by
  unfold fX6_nextRow_b57 at h
  refine V_aload_n dX6_nextRow_57 rfl rfl rfl ?_
  refine V_iload_n dX6_nextRow_58 rfl rfl rfl ?_
  refine V_iload_n dX6_nextRow_59 rfl rfl rfl ?_
  refine A_callS eU dX6_nextRow_60 cl_X6_218 (As := [.ref l0, .int l2, .int l3]) (st := []) rfl rfl (Nat.le_of_ble_eq_true rfl) rfl h (fun _ _ h => cp_X6_exchange (d := d) h) fun _ F1 h => ?_
  refine V_iload_n dX6_nextRow_63 rfl rfl rfl ?_
  refine V_iconst dX6_nextRow_64 ci_1 rfl ?_
  refine V_iadd dX6_nextRow_65 rfl ?_
  refine V_istore dX6_nextRow_66 (by decide) rfl (ls' := [.ref l0, .int l1, .int l2, .int l3, .int (l2 + 1), .null]) rfl rfl ?_
  refine V_iload_n dX6_nextRow_68 rfl rfl rfl ?_
  refine V_iconst dX6_nextRow_69 ci_1 rfl ?_
  refine V_isub dX6_nextRow_70 rfl ?_
  refine V_istore dX6_nextRow_71 (by decide) rfl (ls' := [.ref l0, .int l1, .int l2, .int l3, .int (l2 + 1), .int (l1 - 1)]) rfl rfl ?_
  refine V_weak [true, false, false, false, true, true] rfl ?_
  exact okX6_nextRow_L73 _ _ _ _ h
theorem okX6_nextRow_L35 {N d : Nat} {l0 : Nat} {l1 : Int32} {l2 : Int32} {res : Int32 × FF} : ∀ (n : Nat) (l3 : Int32) (F : FF), fX6_nextRow_L35 N l0 l1 l2 n l3 F = some res → FV cX6_nextRow 6 RX6 (d + 1) (some .boolean) none 35 [.ref l0, .int l1, .int l2, .int l3, .null, .null] [] F (RI res) := by
  intro n
  induction n with
  | zero =>
    intro l3 F h
    rw [fX6_nextRow_L35.eq_1] at h
    cases h
  | succ n ih =>
    intro l3 F h
    rw [fX6_nextRow_L35.eq_2] at h
    refine V_iload_n dX6_nextRow_35 rfl rfl rfl ?_
    refine V_iload_n dX6_nextRow_36 rfl rfl rfl ?_
    refine V_iconst dX6_nextRow_37 ci_1 rfl ?_
    refine V_iadd dX6_nextRow_38 rfl ?_
    refine A_icmp_le dX6_nextRow_39 rfl rfl h (fun h => ?_) (fun h => ?_)
    · exact okX6_nextRow_b57 h
    · refine V_aload_n dX6_nextRow_42 rfl rfl rfl ?_
      refine V_iload_n dX6_nextRow_43 rfl rfl rfl ?_
      refine A_ld0 dX6_nextRow_44 rfl h fun v1 h => ?_
      refine V_aload_n dX6_nextRow_45 rfl rfl rfl ?_
      refine V_iload_n dX6_nextRow_46 rfl rfl rfl ?_
      refine A_ld0 dX6_nextRow_47 rfl h fun v2 h => ?_
      refine A_icmp_ge dX6_nextRow_48 rfl rfl h (fun h => ?_) (fun h => ?_)
      · exact okX6_nextRow_b57 h
      · refine V_iinc dX6_nextRow_51 (v := l3 + ((-1))) rfl (by rw [ci_m1]) rfl (ls' := [.ref l0, .int l1, .int l2, .int (l3 + ((-1))), .null, .null]) rfl rfl ?_
        refine V_goto dX6_nextRow_54 rfl ?_
        exact ih (l3 + ((-1))) F h
theorem okX6_nextRow_b25 {N d : Nat} {l0 : Nat} {l1 : Int32} {l2 : Int32} {F : FF} {res : Int32 × FF} (h : fX6_nextRow_b25 N l0 l1 l2 F = some res) : FV cX6_nextRow 6 RX6 (d + 1) (some .boolean) none 25 [.ref l0, .int l1, .int l2, .null, .null, .null] [] F (RI res) := by
  unfold fX6_nextRow_b25 at h
  refine V_iload_n dX6_nextRow_25 rfl rfl rfl ?_
  refine A_if_ge dX6_nextRow_26 rfl rfl h (fun h => ?_) (fun h => ?_)
  · refine V_iload_n dX6_nextRow_31 rfl rfl rfl ?_
    refine V_iconst dX6_nextRow_32 ci_1 rfl ?_
    refine V_isub dX6_nextRow_33 rfl ?_
    refine V_istore_n dX6_nextRow_34 rfl (by decide) rfl (ls' := [.ref l0, .int l1, .int l2, .int (l1 - 1), .null, .null]) rfl rfl ?_
    exact okX6_nextRow_L35 _ _ _ h
  · refine V_iconst dX6_nextRow_29 ci_0 rfl ?_
    exact A_creturn dX6_nextRow_30 rfl (by decide) h
theorem okX6_nextRow_L4 {N d : Nat} {l0 : Nat} {l1 : Int32} {res : Int32 × FF} : ∀ (n : Nat) (l2 : Int32) (F : FF), fX6_nextRow_L4 N l0 l1 n l2 F = some res → FV cX6_nextRow 6 RX6 (d + 1) (some .boolean) none 4 [.ref l0, .int l1, .int l2, .null, .null, .null] [] F (RI res) := by
  intro n
  induction n with
  | zero =>
    intro l2 F h
    rw [fX6_nextRow_L4.eq_1] at h
    cases h
  | succ n ih =>
    intro l2 F h
    rw [fX6_nextRow_L4.eq_2] at h
    refine V_iload_n dX6_nextRow_4 rfl rfl rfl ?_
    refine A_if_lt dX6_nextRow_5 rfl rfl h (fun h => ?_) (fun h => ?_)
    · exact okX6_nextRow_b25 h
    · refine V_aload_n dX6_nextRow_8 rfl rfl rfl ?_
      refine V_iload_n dX6_nextRow_9 rfl rfl rfl ?_
      refine A_ld0 dX6_nextRow_10 rfl h fun v1 h => ?_
      refine V_aload_n dX6_nextRow_11 rfl rfl rfl ?_
      refine V_iload_n dX6_nextRow_12 rfl rfl rfl ?_
      refine V_iconst dX6_nextRow_13 ci_1 rfl ?_
      refine V_iadd dX6_nextRow_14 rfl ?_
      refine A_ld0 dX6_nextRow_15 rfl h fun v2 h => ?_
      refine A_icmp_le dX6_nextRow_16 rfl rfl h (fun h => ?_) (fun h => ?_)
      · exact okX6_nextRow_b25 h
      · refine V_iinc dX6_nextRow_19 (v := l2 + ((-1))) rfl (by rw [ci_m1]) rfl (ls' := [.ref l0, .int l1, .int (l2 + ((-1))), .null, .null, .null]) rfl rfl ?_
        refine V_goto dX6_nextRow_22 rfl ?_
        exact ih (l2 + ((-1))) F h
theorem okX6_nextRow {N d : Nat} {l0 : Nat} {l1 : Int32} {F : FF} {res : Int32 × FF} (h : fX6_nextRow N l0 l1 F = some res) : FV cX6_nextRow 6 RX6 (d + 1) (some .boolean) none 0 [.ref l0, .int l1, .null, .null, .null, .null] [] F (RI res) := by
  unfold fX6_nextRow at h
  refine V_iload_n dX6_nextRow_0 rfl rfl rfl ?_
  refine V_iconst dX6_nextRow_1 ci_2 rfl ?_
  refine V_isub dX6_nextRow_2 rfl ?_
  refine V_istore_n dX6_nextRow_3 rfl (by decide) rfl (ls' := [.ref l0, .int l1, .int (l1 - 2), .null, .null, .null]) rfl rfl ?_
  exact okX6_nextRow_L4 _ _ _ h
theorem cp_X6_nextRow {N d : Nat} {l0 : Nat} {l1 : Int32} {F F' : FF} {r : Int32} (h : fX6_nextRow N l0 l1 F = some (r, F')) : CP (d + 1) mX6_nextRow [.ref l0, .int l1] F (fun r' F'' => r' = eI r ∧ F'' = F') := CP_I rfl (Nat.le_of_ble_eq_true rfl) (okX6_nextRow h)
theorem okX6_findBestRow_b134 {N d : Nat} {k51 : Int32 → Int32 → Int32 → FF → Option (Int32 × FF)} {l1 : Int32} {l2 : Nat} {l3 : Int32} {l5 : Int32} {F : FF} {res : Int32 × FF} (hk51 : ∀ (x3 : Int32) (x4 : Int32) (x5 : Int32) (F : FF), k51 x3 x4 x5 F = some res → FV cX6_findBestRow 7 RX6 (d + 4) (some .int) none 51 [.ref 0, .int l1, .ref l2, .int x3, .int x4, .int x5, .null] [] F (RI res)) (h : fX6_findBestRow_b134 N k51 l1 l2 l3 l5 F = some res) : FV cX6_findBestRow 7 RX6 (d + 4) (some .int) none 134 [.ref 0, .int l1, .ref l2, .int l3, .null, .int l5, .null] [] F (RI res) := by
  unfold fX6_findBestRow_b134 at h
  refine V_aload_n dX6_findBestRow_134 rfl rfl rfl ?_
  refine F_getR dX6_findBestRow_135 fl_X6_54 ly_0 rfl rfl ?_
  refine V_aload_n dX6_findBestRow_138 rfl rfl rfl ?_
  refine F_getR dX6_findBestRow_139 fl_X6_10 ly_0 rfl rfl ?_
  refine F_getI dX6_findBestRow_142 fl_X6_97 ly_1 rfl rfl ?_
  refine A_callS eI dX6_findBestRow_145 cl_X6_214 (As := [.ref 41, .int (F 1 0)]) (st := []) rfl rfl (Nat.le_of_ble_eq_true rfl) rfl h (fun _ _ h => cp_X6_nextRow (d := d + 2) h) fun v1 F1 h => ?_
  refine V_istore dX6_findBestRow_148 (by decide) rfl (ls' := [.ref 0, .int l1, .ref l2, .int l3, .int v1, .int l5, .null]) rfl rfl ?_
  refine V_iinc dX6_findBestRow_150 (v := l5 + 1) rfl (by rw [ci_1]) rfl (ls' := [.ref 0, .int l1, .ref l2, .int l3, .int v1, .int (l5 + 1), .null]) rfl rfl ?_
  refine V_goto dX6_findBestRow_153 rfl ?_
  exact hk51 l3 v1 (l5 + 1) F1 h
theorem okX6_findBestRow_L51 {N d : Nat} {l1 : Int32} {l2 : Nat} {res : Int32 × FF} : ∀ (n : Nat) (l3 : Int32) (l4 : Int32) (l5 : Int32) (F : FF), fX6_findBestRow_L51 N l1 l2 n l3 l4 l5 F = some res → FV cX6_findBestRow 7 RX6 (d + 4) (some .int) none 51 [.ref 0, .int l1, .ref l2, .int l3, .int l4, .int l5, .null] [] F (RI res) := by
  intro n
  induction n with
  | zero =>
    intro l3 l4 l5 F h
    rw [fX6_findBestRow_L51.eq_1] at h
    cases h
  | succ n ih =>
    intro l3 l4 l5 F h
    rw [fX6_findBestRow_L51.eq_2] at h
    refine V_iload dX6_findBestRow_51 rfl rfl ?_
    refine V_sipush dX6_findBestRow_53 cs_720 rfl ?_
    refine A_icmp_ge dX6_findBestRow_56 rfl rfl h (fun h => ?_) (fun h => ?_)
    · refine V_iload_n dX6_findBestRow_156 rfl rfl rfl ?_
      exact A_ireturn dX6_findBestRow_157 rfl h
    · refine V_iload dX6_findBestRow_59 rfl rfl ?_
      refine A_if_eq dX6_findBestRow_61 rfl rfl h (fun h => ?_) (fun h => ?_)
      · refine V_iload_n dX6_findBestRow_156 rfl rfl rfl ?_
        exact A_ireturn dX6_findBestRow_157 rfl h
      · refine V_aload_n dX6_findBestRow_64 rfl rfl rfl ?_
        refine V_aload_n dX6_findBestRow_65 rfl rfl rfl ?_
        refine F_getR dX6_findBestRow_66 fl_X6_10 ly_0 rfl rfl ?_
        refine F_getR dX6_findBestRow_69 fl_X6_122 ly_1 rfl rfl ?_
        refine V_iload_n dX6_findBestRow_72 rfl rfl rfl ?_
        refine A_ldR (t := 5) dX6_findBestRow_73 rfl h fun v1 h => ?_
        refine A_callV (ci := 4) eU dX6_findBestRow_74 cl_X6_205 (by decide) rfl (As := [.ref v1]) (st := []) rfl rfl (Nat.le_of_ble_eq_true rfl) rfl h (fun _ _ h => cp_X4_copy (d := d + 2) h) fun _ F1 h => ?_
        refine V_aload_n dX6_findBestRow_77 rfl rfl rfl ?_
        refine F_getR dX6_findBestRow_78 fl_X6_54 ly_0 rfl rfl ?_
        refine V_iconst dX6_findBestRow_81 ci_0 rfl ?_
        refine V_aload_n dX6_findBestRow_82 rfl rfl rfl ?_
        refine A_gR dX6_findBestRow_83 fl_X6_145 rfl h fun v2 h => ?_
        refine V_iconst dX6_findBestRow_86 ci_0 rfl ?_
        refine V_bipush dX6_findBestRow_87 cb_6 rfl ?_
        refine A_cp (N := 6) dX6_findBestRow_89 ac_X6 rfl (by decide) rfl h fun F2 h => ?_
        refine V_aload_n dX6_findBestRow_92 rfl rfl rfl ?_
        refine F_getR dX6_findBestRow_93 fl_X6_16 ly_0 rfl rfl ?_
        refine V_iload_n dX6_findBestRow_96 rfl rfl rfl ?_
        refine V_aload_n dX6_findBestRow_97 rfl rfl rfl ?_
        refine F_getR dX6_findBestRow_98 fl_X6_10 ly_0 rfl rfl ?_
        refine F_getI dX6_findBestRow_101 fl_X6_103 ly_1 rfl rfl ?_
        refine V_iload_n dX6_findBestRow_104 rfl rfl rfl ?_
        refine A_callC (ci := 0) eI dX6_findBestRow_105 cl_X6_191 (by decide) rfl rfl (As := [.int l1, .int (F2 1 2), .int l3]) (st := []) rfl rfl (Nat.le_of_ble_eq_true rfl) rfl h (fun _ _ h => cp_X0_paidBy (d := d) h) fun v3 F3 h => ?_
        refine V_istore dX6_findBestRow_108 (by decide) rfl (ls' := [.ref 0, .int l1, .ref l2, .int l3, .int l4, .int l5, .int v3]) rfl rfl ?_
        refine V_iload dX6_findBestRow_110 rfl rfl ?_
        refine V_iload_n dX6_findBestRow_112 rfl rfl rfl ?_
        refine A_icmp_ge dX6_findBestRow_113 rfl rfl h (fun h => ?_) (fun h => ?_)
        · refine V_weak [true, true, true, true, false, true, false] rfl ?_
          exact okX6_findBestRow_b134 (fun x3 x4 x5 F h => ih x3 x4 x5 F h) h
        · refine V_iload dX6_findBestRow_116 rfl rfl ?_
          refine V_istore_n dX6_findBestRow_118 rfl (by decide) rfl (ls' := [.ref 0, .int l1, .ref l2, .int v3, .int l4, .int l5, .int v3]) rfl rfl ?_
          refine V_aload_n dX6_findBestRow_119 rfl rfl rfl ?_
          refine F_getR dX6_findBestRow_120 fl_X6_54 ly_0 rfl rfl ?_
          refine V_iconst dX6_findBestRow_123 ci_0 rfl ?_
          refine V_aload_n dX6_findBestRow_124 rfl rfl rfl ?_
          refine F_getR dX6_findBestRow_125 fl_X6_58 ly_0 rfl rfl ?_
          refine V_iconst dX6_findBestRow_128 ci_0 rfl ?_
          refine V_bipush dX6_findBestRow_129 cb_6 rfl ?_
          refine A_cp (N := 6) dX6_findBestRow_131 ac_X6 rfl (by decide) rfl h fun F4 h => ?_
          refine V_weak [true, true, true, true, false, true, false] rfl ?_
          exact okX6_findBestRow_b134 (fun x3 x4 x5 F h => ih x3 x4 x5 F h) h
theorem okX6_findBestRow_L23 {N d : Nat} {l1 : Int32} {l2 : Nat} {res : Int32 × FF} : ∀ (n : Nat) (l3 : Int32) (F : FF), fX6_findBestRow_L23 N l1 l2 n l3 F = some res → FV cX6_findBestRow 7 RX6 (d + 4) (some .int) none 23 [.ref 0, .int l1, .ref l2, .int l3, .null, .null, .null] [] F (RI res) := by
  intro n
  induction n with
  | zero =>
    intro l3 F h
    rw [fX6_findBestRow_L23.eq_1] at h
    cases h
  | succ n ih =>
    intro l3 F h
    rw [fX6_findBestRow_L23.eq_2] at h
    refine V_iload_n dX6_findBestRow_23 rfl rfl rfl ?_
    refine V_bipush dX6_findBestRow_24 cb_6 rfl ?_
    refine A_icmp_ge dX6_findBestRow_26 rfl rfl h (fun h => ?_) (fun h => ?_)
    · refine V_ldc dX6_findBestRow_42 kc_X6_117 rfl ?_
      refine V_istore_n dX6_findBestRow_44 rfl (by decide) rfl (ls' := [.ref 0, .int l1, .ref l2, .int 1000000000, .null, .null, .null]) rfl rfl ?_
      refine V_iconst dX6_findBestRow_45 ci_1 rfl ?_
      refine V_istore dX6_findBestRow_46 (by decide) rfl (ls' := [.ref 0, .int l1, .ref l2, .int 1000000000, .int 1, .null, .null]) rfl rfl ?_
      refine V_iconst dX6_findBestRow_48 ci_0 rfl ?_
      refine V_istore dX6_findBestRow_49 (by decide) rfl (ls' := [.ref 0, .int l1, .ref l2, .int 1000000000, .int 1, .int 0, .null]) rfl rfl ?_
      exact okX6_findBestRow_L51 _ _ _ _ _ h
    · refine V_aload_n dX6_findBestRow_29 rfl rfl rfl ?_
      refine F_getR dX6_findBestRow_30 fl_X6_54 ly_0 rfl rfl ?_
      refine V_iload_n dX6_findBestRow_33 rfl rfl rfl ?_
      refine V_iload_n dX6_findBestRow_34 rfl rfl rfl ?_
      refine A_st0 dX6_findBestRow_35 rfl h fun F1 h => ?_
      refine V_iinc dX6_findBestRow_36 (v := l3 + 1) rfl (by rw [ci_1]) rfl (ls' := [.ref 0, .int l1, .ref l2, .int (l3 + 1), .null, .null, .null]) rfl rfl ?_
      refine V_goto dX6_findBestRow_39 rfl ?_
      exact ih (l3 + 1) F1 h
theorem okX6_findBestRow {N d : Nat} {l1 : Int32} {F : FF} {res : Int32 × FF} (h : fX6_findBestRow N l1 F = some res) : FV cX6_findBestRow 7 RX6 (d + 4) (some .int) none 0 [.ref 0, .int l1, .null, .null, .null, .null, .null] [] F (RI res) := by
  unfold fX6_findBestRow at h
  refine V_aload_n dX6_findBestRow_0 rfl rfl rfl ?_
  refine F_getR dX6_findBestRow_1 fl_X6_16 ly_0 rfl rfl ?_
  refine V_aload_n dX6_findBestRow_4 rfl rfl rfl ?_
  refine F_getR dX6_findBestRow_5 fl_X6_10 ly_0 rfl rfl ?_
  refine A_callC (ci := 0) eU dX6_findBestRow_8 cl_X6_90 (by decide) rfl rfl (As := [.ref 1]) (st := []) rfl rfl (Nat.le_of_ble_eq_true rfl) rfl h (fun _ _ h => cp_X0_copy (d := d + 1) h) fun _ F1 h => ?_
  refine V_aload_n dX6_findBestRow_11 rfl rfl rfl ?_
  refine F_getR dX6_findBestRow_12 fl_X6_16 ly_0 rfl rfl ?_
  refine F_getR dX6_findBestRow_15 fl_X6_122 ly_16 rfl rfl ?_
  refine V_iload_n dX6_findBestRow_18 rfl rfl rfl ?_
  refine A_ldR (t := 5) dX6_findBestRow_19 rfl h fun v1 h => ?_
  refine V_astore_n dX6_findBestRow_20 rfl (by decide) rfl (ls' := [.ref 0, .int l1, .ref v1, .null, .null, .null, .null]) rfl rfl ?_
  refine V_iconst dX6_findBestRow_21 ci_0 rfl ?_
  refine V_istore_n dX6_findBestRow_22 rfl (by decide) rfl (ls' := [.ref 0, .int l1, .ref v1, .int 0, .null, .null, .null]) rfl rfl ?_
  exact okX6_findBestRow_L23 _ _ _ h
theorem cp_X6_findBestRow {N d : Nat} {l1 : Int32} {F F' : FF} {r : Int32} (h : fX6_findBestRow N l1 F = some (r, F')) : CP (d + 4) mX6_findBestRow [.ref 0, .int l1] F (fun r' F'' => r' = eI r ∧ F'' = F') := CP_I rfl (Nat.le_of_ble_eq_true rfl) (okX6_findBestRow h)
theorem okX6_order_b40 {N d : Nat} {l1 : Int32} {l2 : Int32} {l3 : Int32} {F : FF} {res : Int32 × FF} (h : fX6_order_b40 N l1 l2 l3 F = some res) : FV cX6_order 5 RX6 (d + 5) (some .int) none 40 [.ref 0, .int l1, .int l2, .int l3, .null] [] F (RI res) := by
  unfold fX6_order_b40 at h
  refine V_aload_n dX6_order_40 rfl rfl rfl ?_
  refine V_iload_n dX6_order_41 rfl rfl rfl ?_
  refine A_callC (ci := 6) eI dX6_order_42 cl_X6_202 (by decide) rfl rfl (As := [.int l1]) (st := []) rfl rfl (Nat.le_of_ble_eq_true rfl) rfl h (fun _ _ h => cp_X6_findBestRow (d := d) h) fun v1 F1 h => ?_
  refine V_istore dX6_order_45 (by decide) rfl (ls' := [.ref 0, .int l1, .int l2, .int l3, .int v1]) rfl rfl ?_
  refine V_iload_n dX6_order_47 rfl rfl rfl ?_
  refine A_if_eq dX6_order_48 rfl rfl h (fun h => ?_) (fun h => ?_)
  · refine V_iload dX6_order_63 rfl rfl ?_
    exact A_ireturn dX6_order_65 rfl h
  · refine V_aload_n dX6_order_51 rfl rfl rfl ?_
    refine F_getR dX6_order_52 fl_X6_58 ly_0 rfl rfl ?_
    refine V_iload_n dX6_order_55 rfl rfl rfl ?_
    refine V_bipush dX6_order_56 cb_10 rfl ?_
    refine V_isub dX6_order_58 rfl ?_
    refine A_ld0 dX6_order_59 rfl h fun v2 h => ?_
    refine V_goto dX6_order_60 rfl ?_
    exact A_ireturn dX6_order_65 rfl h
theorem okX6_order {N d : Nat} {l1 : Int32} {l2 : Int32} {F : FF} {res : Int32 × FF} (h : fX6_order N l1 l2 F = some res) : FV cX6_order 5 RX6 (d + 5) (some .int) none 0 [.ref 0, .int l1, .int l2, .null, .null] [] F (RI res) := by
  unfold fX6_order at h
  refine V_iload_n dX6_order_0 rfl rfl rfl ?_
  refine V_bipush dX6_order_1 cb_10 rfl ?_
  refine V_bipush dX6_order_3 cb_10 rfl ?_
  refine V_aload_n dX6_order_5 rfl rfl rfl ?_
  refine F_getR dX6_order_6 fl_X6_10 ly_0 rfl rfl ?_
  refine F_getI dX6_order_9 fl_X6_97 ly_1 rfl rfl ?_
  refine V_iadd dX6_order_12 rfl ?_
  refine V_iconst dX6_order_13 ci_1 rfl ?_
  refine V_isub dX6_order_14 rfl ?_
  refine P_callS dX6_order_15 cl_X6_69 (cq_X6_within (d := d + 4)) (As := [.int l2, .int 10, .int ((10 + (F 1 0)) - 1)]) (st := []) rfl rfl (Nat.le_of_ble_eq_true rfl) rfl ?_
  refine V_istore_n dX6_order_18 rfl (by decide) rfl (ls' := [.ref 0, .int l1, .int l2, .int (pX6_within l2 10 ((10 + (F 1 0)) - 1) F), .null]) rfl rfl ?_
  refine V_aload_n dX6_order_19 rfl rfl rfl ?_
  refine F_getR dX6_order_20 fl_X6_10 ly_0 rfl rfl ?_
  refine V_iload_n dX6_order_23 rfl rfl rfl ?_
  refine P_callV (ci := 0) dX6_order_24 cl_X6_138 (by decide) rfl rfl (cq_X0_hasShelf (d := d + 4) rfl) (As := [.int l1]) (st := []) rfl rfl (Nat.le_of_ble_eq_true rfl) rfl ?_
  refine A_if_eq dX6_order_27 rfl rfl h (fun h => ?_) (fun h => ?_)
  · refine V_iconst dX6_order_38 ci_m1 rfl ?_
    exact A_ireturn dX6_order_39 rfl h
  · refine V_iload_n dX6_order_30 rfl rfl rfl ?_
    refine A_if_eq dX6_order_31 rfl rfl h (fun h => ?_) (fun h => ?_)
    · exact okX6_order_b40 h
    · refine V_iload_n dX6_order_34 rfl rfl rfl ?_
      refine A_if_ne dX6_order_35 rfl rfl h (fun h => ?_) (fun h => ?_)
      · exact okX6_order_b40 h
      · refine V_iconst dX6_order_38 ci_m1 rfl ?_
        exact A_ireturn dX6_order_39 rfl h
theorem cp_X6_order {N d : Nat} {l1 : Int32} {l2 : Int32} {F F' : FF} {r : Int32} (h : fX6_order N l1 l2 F = some (r, F')) : CP (d + 5) mX6_order [.ref 0, .int l1, .int l2] F (fun r' F'' => r' = eI r ∧ F'' = F') := CP_I rfl (Nat.le_of_ble_eq_true rfl) (okX6_order h)
theorem okX1_answer {N d : Nat} {l1 : Int32} {F : FF} {res : Int32 × FF} (h : fX1_answer N l1 F = some res) : FV cX1_answer 2 RX1 (d) (some .int) none 0 [.ref 40, .int l1] [] F (RI res) := by
  unfold fX1_answer at h
  refine V_aload_n dX1_answer_0 rfl rfl rfl ?_
  refine F_getI dX1_answer_1 fl_X1_9 ly_40 rfl rfl ?_
  refine V_bipush dX1_answer_4 cb_m4 rfl ?_
  refine V_midI (q := 24) ((if (F 40 0) = ((-4)) then (F 40 0) else (if ¬ l1 = 0 then (F 40 1) else (F 40 0)) : Int32)) [] (fun yJ hy hJ => ?_) ?_
  · refine V_icmp_eq dX1_answer_6 rfl rfl (fun c => ?_) (fun c => ?_)
    · rw [if_pos c] at hy
      refine V_aload_n dX1_answer_13 rfl rfl rfl ?_
      refine F_getI dX1_answer_14 fl_X1_9 ly_40 rfl rfl ?_
      refine V_goto dX1_answer_17 rfl ?_
      rw [hy] at hJ
      exact hJ
    · rw [if_neg c] at hy
      refine V_iload_n dX1_answer_9 rfl rfl rfl ?_
      refine V_if_ne dX1_answer_10 rfl rfl (fun c => ?_) (fun c => ?_)
      · rw [if_pos c] at hy
        refine V_aload_n dX1_answer_20 rfl rfl rfl ?_
        refine F_getI dX1_answer_21 fl_X1_15 ly_40 rfl rfl ?_
        rw [hy] at hJ
        exact hJ
      · rw [if_neg (fun z => z c)] at hy
        refine V_aload_n dX1_answer_13 rfl rfl rfl ?_
        refine F_getI dX1_answer_14 fl_X1_9 ly_40 rfl rfl ?_
        refine V_goto dX1_answer_17 rfl ?_
        rw [hy] at hJ
        exact hJ
  · exact A_ireturn dX1_answer_24 rfl h
theorem cp_X1_answer {N d : Nat} {l1 : Int32} {F F' : FF} {r : Int32} (h : fX1_answer N l1 F = some (r, F')) : CP (d) mX1_answer [.ref 40, .int l1] F (fun r' F'' => r' = eI r ∧ F'' = F') := CP_I rfl (Nat.le_of_ble_eq_true rfl) (okX1_answer h)
theorem pe_X1_answer {N : Nat} {l1 : Int32} {F : FF} : fX1_answer N l1 F = some (pX1_answer l1 F, F) := by
  simp only [fX1_answer, pX1_answer]
  repeat (first | rfl | split)
theorem cq_X1_answer {d : Nat} {l1 : Int32} {F : FF} : CP (d) mX1_answer [.ref 40, .int l1] F (fun r' F'' => r' = eI (pX1_answer l1 F) ∧ F'' = F) := cp_X1_answer (N := 0) (pe_X1_answer)
theorem okX6_kind_L56 {N d : Nat} {l1 : Int32} {l2 : Int32} {l3 : Int32} {res : Int32 × FF} : ∀ (n : Nat) (l4 : Int32) (F : FF), fX6_kind_L56 N l1 l2 l3 n l4 F = some res → FV cX6_kind 5 RX6 (d + 4) (some .int) none 56 [.ref 0, .int l1, .int l2, .int l3, .int l4] [] F (RI res) := by
  intro n
  induction n with
  | zero =>
    intro l4 F h
    rw [fX6_kind_L56.eq_1] at h
    cases h
  | succ n ih =>
    intro l4 F h
    rw [fX6_kind_L56.eq_2] at h
    refine V_iload dX6_kind_56 rfl rfl ?_
    refine V_iconst dX6_kind_58 ci_3 rfl ?_
    refine A_icmp_gt dX6_kind_59 rfl rfl h (fun h => ?_) (fun h => ?_)
    · refine V_aload_n dX6_kind_128 rfl rfl rfl ?_
      refine F_getR dX6_kind_129 fl_X6_50 ly_0 rfl rfl ?_
      refine V_iload_n dX6_kind_132 rfl rfl rfl ?_
      refine P_callV (ci := 1) dX6_kind_133 cl_X6_225 (by decide) rfl rfl (cq_X1_answer (d := d + 3)) (As := [.int l3]) (st := []) rfl rfl (Nat.le_of_ble_eq_true rfl) rfl ?_
      exact A_ireturn dX6_kind_136 rfl h
    · refine V_aload_n dX6_kind_62 rfl rfl rfl ?_
      refine F_getR dX6_kind_63 fl_X6_16 ly_0 rfl rfl ?_
      refine F_getR dX6_kind_66 fl_X6_122 ly_16 rfl rfl ?_
      refine V_iload_n dX6_kind_69 rfl rfl rfl ?_
      refine A_ldR (t := 5) dX6_kind_70 rfl h fun v1 h => ?_
      refine V_aload_n dX6_kind_71 rfl rfl rfl ?_
      refine F_getR dX6_kind_72 fl_X6_10 ly_0 rfl rfl ?_
      refine F_getR dX6_kind_75 fl_X6_122 ly_1 rfl rfl ?_
      refine V_iload_n dX6_kind_78 rfl rfl rfl ?_
      refine A_ldR (t := 5) dX6_kind_79 rfl h fun v2 h => ?_
      refine A_callV (ci := 4) eU dX6_kind_80 cl_X6_205 (by decide) rfl (As := [.ref v2]) (st := []) rfl rfl (Nat.le_of_ble_eq_true rfl) rfl h (fun _ _ h => cp_X4_copy (d := d + 2) h) fun _ F1 h => ?_
      refine V_aload_n dX6_kind_83 rfl rfl rfl ?_
      refine F_getR dX6_kind_84 fl_X6_16 ly_0 rfl rfl ?_
      refine F_getR dX6_kind_87 fl_X6_122 ly_16 rfl rfl ?_
      refine V_iload_n dX6_kind_90 rfl rfl rfl ?_
      refine A_ldR (t := 5) dX6_kind_91 rfl h fun v3 h => ?_
      refine V_iload dX6_kind_92 rfl rfl ?_
      refine A_pI dX6_kind_94 fl_X6_142 rfl rfl rfl h fun F2 h => ?_
      refine V_aload_n dX6_kind_97 rfl rfl rfl ?_
      refine F_getR dX6_kind_98 fl_X6_50 ly_0 rfl rfl ?_
      refine V_iload dX6_kind_101 rfl rfl ?_
      refine V_aload_n dX6_kind_103 rfl rfl rfl ?_
      refine F_getR dX6_kind_104 fl_X6_16 ly_0 rfl rfl ?_
      refine V_iload_n dX6_kind_107 rfl rfl rfl ?_
      refine V_iload_n dX6_kind_108 rfl rfl rfl ?_
      refine V_aload_n dX6_kind_109 rfl rfl rfl ?_
      refine F_getR dX6_kind_110 fl_X6_50 ly_0 rfl rfl ?_
      refine F_getI dX6_kind_113 fl_X6_222 ly_40 rfl rfl ?_
      refine A_callC (ci := 0) eI dX6_kind_116 cl_X6_191 (by decide) rfl rfl (As := [.int l1, .int l2, .int (F2 40 1)]) (st := [.int l4, .ref 40]) rfl rfl (Nat.le_of_ble_eq_true rfl) rfl h (fun _ _ h => cp_X0_paidBy (d := d) h) fun v4 F3 h => ?_
      refine A_callC (ci := 1) eU dX6_kind_119 cl_X6_131 (by decide) rfl rfl (As := [.int l4, .int v4]) (st := []) rfl rfl (Nat.le_of_ble_eq_true rfl) rfl h (fun _ _ h => cp_X1_offer (d := d + 3) h) fun _ F4 h => ?_
      refine V_iinc dX6_kind_122 (v := l4 + 1) rfl (by rw [ci_1]) rfl (ls' := [.ref 0, .int l1, .int l2, .int l3, .int (l4 + 1)]) rfl rfl ?_
      refine V_goto dX6_kind_125 rfl ?_
      exact ih (l4 + 1) F4 h
theorem okX6_kind {N d : Nat} {l1 : Int32} {l2 : Int32} {l3 : Int32} {F : FF} {res : Int32 × FF} (h : fX6_kind N l1 l2 l3 F = some res) : FV cX6_kind 5 RX6 (d + 4) (some .int) none 0 [.ref 0, .int l1, .int l2, .int l3, .null] [] F (RI res) := by
  unfold fX6_kind at h
  refine V_aload_n dX6_kind_0 rfl rfl rfl ?_
  refine F_getR dX6_kind_1 fl_X6_10 ly_0 rfl rfl ?_
  refine V_iload_n dX6_kind_4 rfl rfl rfl ?_
  refine P_callV (ci := 0) dX6_kind_5 cl_X6_138 (by decide) rfl rfl (cq_X0_hasShelf (d := d + 3) rfl) (As := [.int l1]) (st := []) rfl rfl (Nat.le_of_ble_eq_true rfl) rfl ?_
  refine A_if_eq dX6_kind_8 rfl rfl h (fun h => ?_) (fun h => ?_)
  · refine V_iconst dX6_kind_31 ci_m1 rfl ?_
    exact A_ireturn dX6_kind_32 rfl h
  · refine V_iload_n dX6_kind_11 rfl rfl rfl ?_
    refine V_iconst dX6_kind_12 ci_0 rfl ?_
    refine V_sipush dX6_kind_13 cs_200 rfl ?_
    refine P_callS dX6_kind_16 cl_X6_69 (cq_X6_within (d := d + 3)) (As := [.int l2, .int 0, .int 200]) (st := []) rfl rfl (Nat.le_of_ble_eq_true rfl) rfl ?_
    refine A_if_eq dX6_kind_19 rfl rfl h (fun h => ?_) (fun h => ?_)
    · refine V_iconst dX6_kind_31 ci_m1 rfl ?_
      exact A_ireturn dX6_kind_32 rfl h
    · refine V_iload_n dX6_kind_22 rfl rfl rfl ?_
      refine V_iconst dX6_kind_23 ci_0 rfl ?_
      refine V_iconst dX6_kind_24 ci_1 rfl ?_
      refine P_callS dX6_kind_25 cl_X6_69 (cq_X6_within (d := d + 3)) (As := [.int l3, .int 0, .int 1]) (st := []) rfl rfl (Nat.le_of_ble_eq_true rfl) rfl ?_
      refine A_if_ne dX6_kind_28 rfl rfl h (fun h => ?_) (fun h => ?_)
      · refine V_aload_n dX6_kind_33 rfl rfl rfl ?_
        refine F_getR dX6_kind_34 fl_X6_16 ly_0 rfl rfl ?_
        refine V_aload_n dX6_kind_37 rfl rfl rfl ?_
        refine F_getR dX6_kind_38 fl_X6_10 ly_0 rfl rfl ?_
        refine A_callC (ci := 0) eU dX6_kind_41 cl_X6_90 (by decide) rfl rfl (As := [.ref 1]) (st := []) rfl rfl (Nat.le_of_ble_eq_true rfl) rfl h (fun _ _ h => cp_X0_copy (d := d + 1) h) fun _ F1 h => ?_
        refine V_aload_n dX6_kind_44 rfl rfl rfl ?_
        refine F_getR dX6_kind_45 fl_X6_50 ly_0 rfl rfl ?_
        refine V_ldc dX6_kind_48 kc_X6_117 rfl ?_
        refine A_callC (ci := 1) eU dX6_kind_50 cl_X6_118 (by decide) rfl rfl (As := [.int 1000000000]) (st := []) rfl rfl (Nat.le_of_ble_eq_true rfl) rfl h (fun _ _ h => cp_X1_reset (d := d + 3) h) fun _ F2 h => ?_
        refine V_iconst dX6_kind_53 ci_0 rfl ?_
        refine V_istore dX6_kind_54 (by decide) rfl (ls' := [.ref 0, .int l1, .int l2, .int l3, .int 0]) rfl rfl ?_
        exact okX6_kind_L56 _ _ _ h
      · refine V_iconst dX6_kind_31 ci_m1 rfl ?_
        exact A_ireturn dX6_kind_32 rfl h
theorem cp_X6_kind {N d : Nat} {l1 : Int32} {l2 : Int32} {l3 : Int32} {F F' : FF} {r : Int32} (h : fX6_kind N l1 l2 l3 F = some (r, F')) : CP (d + 4) mX6_kind [.ref 0, .int l1, .int l2, .int l3] F (fun r' F'' => r' = eI r ∧ F'' = F') := CP_I rfl (Nat.le_of_ble_eq_true rfl) (okX6_kind h)
theorem okX6_first_L67 {N d : Nat} {l1 : Int32} {l2 : Int32} {l3 : Int32} {l4 : Nat} {res : Int32 × FF} : ∀ (n : Nat) (l5 : Int32) (F : FF), fX6_first_L67 N l1 l2 l3 l4 n l5 F = some res → FV cX6_first 6 RX6 (d + 4) (some .int) none 67 [.ref 0, .int l1, .int l2, .int l3, .ref l4, .int l5] [] F (RI res) := by
  intro n
  induction n with
  | zero =>
    intro l5 F h
    rw [fX6_first_L67.eq_1] at h
    cases h
  | succ n ih =>
    intro l5 F h
    rw [fX6_first_L67.eq_2] at h
    refine V_iload dX6_first_67 rfl rfl ?_
    refine V_aload_n dX6_first_69 rfl rfl rfl ?_
    refine F_getR dX6_first_70 fl_X6_10 ly_0 rfl rfl ?_
    refine F_getI dX6_first_73 fl_X6_97 ly_1 rfl rfl ?_
    refine A_icmp_ge dX6_first_76 rfl rfl h (fun h => ?_) (fun h => ?_)
    · refine V_aload_n dX6_first_137 rfl rfl rfl ?_
      refine F_getR dX6_first_138 fl_X6_50 ly_0 rfl rfl ?_
      refine V_iload_n dX6_first_141 rfl rfl rfl ?_
      refine P_callV (ci := 1) dX6_first_142 cl_X6_225 (by decide) rfl rfl (cq_X1_answer (d := d + 3)) (As := [.int l3]) (st := []) rfl rfl (Nat.le_of_ble_eq_true rfl) rfl ?_
      exact A_ireturn dX6_first_145 rfl h
    · refine V_aload dX6_first_79 rfl rfl ?_
      refine V_aload_n dX6_first_81 rfl rfl rfl ?_
      refine F_getR dX6_first_82 fl_X6_10 ly_0 rfl rfl ?_
      refine F_getR dX6_first_85 fl_X6_122 ly_1 rfl rfl ?_
      refine V_iload_n dX6_first_88 rfl rfl rfl ?_
      refine A_ldR (t := 5) dX6_first_89 rfl h fun v1 h => ?_
      refine A_callV (ci := 4) eU dX6_first_90 cl_X6_205 (by decide) rfl (As := [.ref v1]) (st := []) rfl rfl (Nat.le_of_ble_eq_true rfl) rfl h (fun _ _ h => cp_X4_copy (d := d + 2) h) fun _ F1 h => ?_
      refine V_aload dX6_first_93 rfl rfl ?_
      refine V_aload dX6_first_95 rfl rfl ?_
      refine V_iload dX6_first_97 rfl rfl ?_
      refine A_callV (ci := 4) eI dX6_first_99 cl_X6_154 (by decide) rfl (As := [.int l5]) (st := [.ref l4]) rfl rfl (Nat.le_of_ble_eq_true rfl) rfl h (fun _ _ h => cp_X4_find (d := d + 3) h) fun v2 F2 h => ?_
      refine V_iconst dX6_first_102 ci_0 rfl ?_
      refine A_callV (ci := 4) eU dX6_first_103 cl_X6_166 (by decide) rfl (As := [.int v2, .int 0]) (st := []) rfl rfl (Nat.le_of_ble_eq_true rfl) rfl h (fun _ _ h => cp_X4_shift (d := d + 3) h) fun _ F3 h => ?_
      refine V_aload_n dX6_first_106 rfl rfl rfl ?_
      refine F_getR dX6_first_107 fl_X6_50 ly_0 rfl rfl ?_
      refine V_iload dX6_first_110 rfl rfl ?_
      refine V_aload_n dX6_first_112 rfl rfl rfl ?_
      refine F_getR dX6_first_113 fl_X6_16 ly_0 rfl rfl ?_
      refine V_iload_n dX6_first_116 rfl rfl rfl ?_
      refine V_iload_n dX6_first_117 rfl rfl rfl ?_
      refine V_aload_n dX6_first_118 rfl rfl rfl ?_
      refine F_getR dX6_first_119 fl_X6_50 ly_0 rfl rfl ?_
      refine F_getI dX6_first_122 fl_X6_222 ly_40 rfl rfl ?_
      refine A_callC (ci := 0) eI dX6_first_125 cl_X6_191 (by decide) rfl rfl (As := [.int l1, .int l2, .int (F3 40 1)]) (st := [.int l5, .ref 40]) rfl rfl (Nat.le_of_ble_eq_true rfl) rfl h (fun _ _ h => cp_X0_paidBy (d := d) h) fun v3 F4 h => ?_
      refine A_callC (ci := 1) eU dX6_first_128 cl_X6_131 (by decide) rfl rfl (As := [.int l5, .int v3]) (st := []) rfl rfl (Nat.le_of_ble_eq_true rfl) rfl h (fun _ _ h => cp_X1_offer (d := d + 3) h) fun _ F5 h => ?_
      refine V_iinc dX6_first_131 (v := l5 + 1) rfl (by rw [ci_1]) rfl (ls' := [.ref 0, .int l1, .int l2, .int l3, .ref l4, .int (l5 + 1)]) rfl rfl ?_
      refine V_goto dX6_first_134 rfl ?_
      exact ih (l5 + 1) F5 h
theorem okX6_first {N d : Nat} {l1 : Int32} {l2 : Int32} {l3 : Int32} {F : FF} {res : Int32 × FF} (h : fX6_first N l1 l2 l3 F = some res) : FV cX6_first 6 RX6 (d + 4) (some .int) none 0 [.ref 0, .int l1, .int l2, .int l3, .null, .null] [] F (RI res) := by
  unfold fX6_first at h
  refine V_aload_n dX6_first_0 rfl rfl rfl ?_
  refine F_getR dX6_first_1 fl_X6_10 ly_0 rfl rfl ?_
  refine V_iload_n dX6_first_4 rfl rfl rfl ?_
  refine P_callV (ci := 0) dX6_first_5 cl_X6_138 (by decide) rfl rfl (cq_X0_hasShelf (d := d + 3) rfl) (As := [.int l1]) (st := []) rfl rfl (Nat.le_of_ble_eq_true rfl) rfl ?_
  refine A_if_eq dX6_first_8 rfl rfl h (fun h => ?_) (fun h => ?_)
  · refine V_iconst dX6_first_31 ci_m1 rfl ?_
    exact A_ireturn dX6_first_32 rfl h
  · refine V_iload_n dX6_first_11 rfl rfl rfl ?_
    refine V_iconst dX6_first_12 ci_0 rfl ?_
    refine V_sipush dX6_first_13 cs_200 rfl ?_
    refine P_callS dX6_first_16 cl_X6_69 (cq_X6_within (d := d + 3)) (As := [.int l2, .int 0, .int 200]) (st := []) rfl rfl (Nat.le_of_ble_eq_true rfl) rfl ?_
    refine A_if_eq dX6_first_19 rfl rfl h (fun h => ?_) (fun h => ?_)
    · refine V_iconst dX6_first_31 ci_m1 rfl ?_
      exact A_ireturn dX6_first_32 rfl h
    · refine V_iload_n dX6_first_22 rfl rfl rfl ?_
      refine V_iconst dX6_first_23 ci_0 rfl ?_
      refine V_iconst dX6_first_24 ci_1 rfl ?_
      refine P_callS dX6_first_25 cl_X6_69 (cq_X6_within (d := d + 3)) (As := [.int l3, .int 0, .int 1]) (st := []) rfl rfl (Nat.le_of_ble_eq_true rfl) rfl ?_
      refine A_if_ne dX6_first_28 rfl rfl h (fun h => ?_) (fun h => ?_)
      · refine V_aload_n dX6_first_33 rfl rfl rfl ?_
        refine F_getR dX6_first_34 fl_X6_16 ly_0 rfl rfl ?_
        refine V_aload_n dX6_first_37 rfl rfl rfl ?_
        refine F_getR dX6_first_38 fl_X6_10 ly_0 rfl rfl ?_
        refine A_callC (ci := 0) eU dX6_first_41 cl_X6_90 (by decide) rfl rfl (As := [.ref 1]) (st := []) rfl rfl (Nat.le_of_ble_eq_true rfl) rfl h (fun _ _ h => cp_X0_copy (d := d + 1) h) fun _ F1 h => ?_
        refine V_aload_n dX6_first_44 rfl rfl rfl ?_
        refine F_getR dX6_first_45 fl_X6_16 ly_0 rfl rfl ?_
        refine F_getR dX6_first_48 fl_X6_122 ly_16 rfl rfl ?_
        refine V_iload_n dX6_first_51 rfl rfl rfl ?_
        refine A_ldR (t := 5) dX6_first_52 rfl h fun v1 h => ?_
        refine V_astore dX6_first_53 (by decide) rfl (ls' := [.ref 0, .int l1, .int l2, .int l3, .ref v1, .null]) rfl rfl ?_
        refine V_aload_n dX6_first_55 rfl rfl rfl ?_
        refine F_getR dX6_first_56 fl_X6_50 ly_0 rfl rfl ?_
        refine V_ldc dX6_first_59 kc_X6_117 rfl ?_
        refine A_callC (ci := 1) eU dX6_first_61 cl_X6_118 (by decide) rfl rfl (As := [.int 1000000000]) (st := []) rfl rfl (Nat.le_of_ble_eq_true rfl) rfl h (fun _ _ h => cp_X1_reset (d := d + 3) h) fun _ F2 h => ?_
        refine V_iconst dX6_first_64 ci_0 rfl ?_
        refine V_istore dX6_first_65 (by decide) rfl (ls' := [.ref 0, .int l1, .int l2, .int l3, .ref v1, .int 0]) rfl rfl ?_
        exact okX6_first_L67 _ _ _ h
      · refine V_iconst dX6_first_31 ci_m1 rfl ?_
        exact A_ireturn dX6_first_32 rfl h
theorem cp_X6_first {N d : Nat} {l1 : Int32} {l2 : Int32} {l3 : Int32} {F F' : FF} {r : Int32} (h : fX6_first N l1 l2 l3 F = some (r, F')) : CP (d + 4) mX6_first [.ref 0, .int l1, .int l2, .int l3] F (fun r' F'' => r' = eI r ∧ F'' = F') := CP_I rfl (Nat.le_of_ble_eq_true rfl) (okX6_first h)
theorem okX6_resetToPaidNow {N d : Nat} {l1 : Int32} {F : FF} {res : Unit × FF} (h : fX6_resetToPaidNow N l1 F = some res) : FV cX6_resetToPaidNow 2 RX6 (d + 5) none none 0 [.ref 0, .int l1] [] F (RU res) := by
  unfold fX6_resetToPaidNow at h
  refine V_aload_n dX6_resetToPaidNow_0 rfl rfl rfl ?_
  refine F_getR dX6_resetToPaidNow_1 fl_X6_16 ly_0 rfl rfl ?_
  refine V_aload_n dX6_resetToPaidNow_4 rfl rfl rfl ?_
  refine F_getR dX6_resetToPaidNow_5 fl_X6_10 ly_0 rfl rfl ?_
  refine A_callC (ci := 0) eU dX6_resetToPaidNow_8 cl_X6_90 (by decide) rfl rfl (As := [.ref 1]) (st := []) rfl rfl (Nat.le_of_ble_eq_true rfl) rfl h (fun _ _ h => cp_X0_copy (d := d + 2) h) fun _ F1 h => ?_
  refine V_aload_n dX6_resetToPaidNow_11 rfl rfl rfl ?_
  refine F_getR dX6_resetToPaidNow_12 fl_X6_50 ly_0 rfl rfl ?_
  refine V_aload_n dX6_resetToPaidNow_15 rfl rfl rfl ?_
  refine F_getR dX6_resetToPaidNow_16 fl_X6_16 ly_0 rfl rfl ?_
  refine V_iload_n dX6_resetToPaidNow_19 rfl rfl rfl ?_
  refine V_ldc dX6_resetToPaidNow_20 kc_X6_117 rfl ?_
  refine A_callC (ci := 0) eI dX6_resetToPaidNow_22 cl_X6_178 (by decide) rfl rfl (As := [.int l1, .int 1000000000]) (st := [.ref 40]) rfl rfl (Nat.le_of_ble_eq_true rfl) rfl h (fun _ _ h => cp_X0_paidByAll (d := d) h) fun v1 F2 h => ?_
  refine A_callC (ci := 1) eU dX6_resetToPaidNow_25 cl_X6_118 (by decide) rfl rfl (As := [.int v1]) (st := []) rfl rfl (Nat.le_of_ble_eq_true rfl) rfl h (fun _ _ h => cp_X1_reset (d := d + 4) h) fun _ F3 h => ?_
  exact A_return dX6_resetToPaidNow_28 rfl h
theorem cp_X6_resetToPaidNow {N d : Nat} {l1 : Int32} {F F' : FF} {r : Unit} (h : fX6_resetToPaidNow N l1 F = some (r, F')) : CP (d + 5) mX6_resetToPaidNow [.ref 0, .int l1] F (fun r' F'' => r' = eU r ∧ F'' = F') := CP_U rfl (Nat.le_of_ble_eq_true rfl) (okX6_resetToPaidNow h)
theorem okX6_swap_b132 {N d : Nat} {k45 : Int32 → FF → Option (Int32 × FF)} {l1 : Int32} {l2 : Int32} {l3 : Int32} {l4 : Int32} {F : FF} {res : Int32 × FF} (hk45 : ∀ (x4 : Int32) (F : FF), k45 x4 F = some res → FV cX6_swap 5 RX6 (d + 6) (some .int) none 45 [.ref 0, .int l1, .int l2, .int l3, .int x4] [] F (RI res)) (h : fX6_swap_b132 N k45 l1 l2 l3 l4 F = some res) : FV cX6_swap 5 RX6 (d + 6) (some .int) none 132 [.ref 0, .int l1, .int l2, .int l3, .int l4] [] F (RI res) := by
  unfold fX6_swap_b132 at h
  refine V_iinc dX6_swap_132 (v := l4 + 1) rfl (by rw [ci_1]) rfl (ls' := [.ref 0, .int l1, .int l2, .int l3, .int (l4 + 1)]) rfl rfl ?_
  refine V_goto dX6_swap_135 rfl ?_
  exact hk45 (l4 + 1) F h
theorem okX6_swap_L45 {N d : Nat} {k29 : Int32 → FF → Option (Int32 × FF)} {l1 : Int32} {l2 : Int32} {l3 : Int32} {res : Int32 × FF} (hk29 : ∀ (x3 : Int32) (F : FF), k29 x3 F = some res → FV cX6_swap 5 RX6 (d + 6) (some .int) none 29 [.ref 0, .int l1, .int l2, .int x3, .null] [] F (RI res)) : ∀ (n : Nat) (l4 : Int32) (F : FF), fX6_swap_L45 N k29 l1 l2 l3 n l4 F = some res → FV cX6_swap 5 RX6 (d + 6) (some .int) none 45 [.ref 0, .int l1, .int l2, .int l3, .int l4] [] F (RI res) := by
  intro n
  induction n with
  | zero =>
    intro l4 F h
    rw [fX6_swap_L45.eq_1] at h
    cases h
  | succ n ih =>
    intro l4 F h
    rw [fX6_swap_L45.eq_2] at h
    refine V_iload dX6_swap_45 rfl rfl ?_
    refine V_aload_n dX6_swap_47 rfl rfl rfl ?_
    refine F_getR dX6_swap_48 fl_X6_10 ly_0 rfl rfl ?_
    refine F_getI dX6_swap_51 fl_X6_103 ly_1 rfl rfl ?_
    refine A_icmp_ge dX6_swap_54 rfl rfl h (fun h => ?_) (fun h => ?_)
    · refine V_iinc dX6_swap_138 (v := l3 + 1) rfl (by rw [ci_1]) rfl (ls' := [.ref 0, .int l1, .int l2, .int (l3 + 1), .int l4]) rfl rfl ?_
      refine V_goto dX6_swap_141 rfl ?_
      refine V_weak [true, true, true, true, false] rfl ?_
      exact hk29 (l3 + 1) F h
    · refine V_aload_n dX6_swap_57 rfl rfl rfl ?_
      refine F_getR dX6_swap_58 fl_X6_10 ly_0 rfl rfl ?_
      refine F_getR dX6_swap_61 fl_X6_160 ly_1 rfl rfl ?_
      refine V_iload_n dX6_swap_64 rfl rfl rfl ?_
      refine A_ld0 dX6_swap_65 rfl h fun v1 h => ?_
      refine V_aload_n dX6_swap_66 rfl rfl rfl ?_
      refine F_getR dX6_swap_67 fl_X6_10 ly_0 rfl rfl ?_
      refine F_getR dX6_swap_70 fl_X6_160 ly_1 rfl rfl ?_
      refine V_iload dX6_swap_73 rfl rfl ?_
      refine A_ld0 dX6_swap_75 rfl h fun v2 h => ?_
      refine A_icmp_eq dX6_swap_76 rfl rfl h (fun h => ?_) (fun h => ?_)
      · exact okX6_swap_b132 (fun x4 F h => ih x4 F h) h
      · refine V_aload_n dX6_swap_79 rfl rfl rfl ?_
        refine F_getR dX6_swap_80 fl_X6_16 ly_0 rfl rfl ?_
        refine V_aload_n dX6_swap_83 rfl rfl rfl ?_
        refine F_getR dX6_swap_84 fl_X6_10 ly_0 rfl rfl ?_
        refine A_callC (ci := 0) eU dX6_swap_87 cl_X6_90 (by decide) rfl rfl (As := [.ref 1]) (st := []) rfl rfl (Nat.le_of_ble_eq_true rfl) rfl h (fun _ _ h => cp_X0_copy (d := d + 3) h) fun _ F1 h => ?_
        refine V_aload_n dX6_swap_90 rfl rfl rfl ?_
        refine F_getR dX6_swap_91 fl_X6_16 ly_0 rfl rfl ?_
        refine F_getR dX6_swap_94 fl_X6_160 ly_16 rfl rfl ?_
        refine V_iload_n dX6_swap_97 rfl rfl rfl ?_
        refine V_iload dX6_swap_98 rfl rfl ?_
        refine A_callS eU dX6_swap_100 cl_X6_218 (As := [.ref 18, .int l3, .int l4]) (st := []) rfl rfl (Nat.le_of_ble_eq_true rfl) rfl h (fun _ _ h => cp_X6_exchange (d := d + 5) h) fun _ F2 h => ?_
        refine V_aload_n dX6_swap_103 rfl rfl rfl ?_
        refine F_getR dX6_swap_104 fl_X6_50 ly_0 rfl rfl ?_
        refine V_bipush dX6_swap_107 cb_100 rfl ?_
        refine V_iload_n dX6_swap_109 rfl rfl rfl ?_
        refine V_imul dX6_swap_110 rfl ?_
        refine V_iload dX6_swap_111 rfl rfl ?_
        refine V_iadd dX6_swap_113 rfl ?_
        refine V_aload_n dX6_swap_114 rfl rfl rfl ?_
        refine F_getR dX6_swap_115 fl_X6_16 ly_0 rfl rfl ?_
        refine V_iload_n dX6_swap_118 rfl rfl rfl ?_
        refine V_aload_n dX6_swap_119 rfl rfl rfl ?_
        refine F_getR dX6_swap_120 fl_X6_50 ly_0 rfl rfl ?_
        refine F_getI dX6_swap_123 fl_X6_222 ly_40 rfl rfl ?_
        refine A_callC (ci := 0) eI dX6_swap_126 cl_X6_178 (by decide) rfl rfl (As := [.int l1, .int (F2 40 1)]) (st := [.int ((100 * l3) + l4), .ref 40]) rfl rfl (Nat.le_of_ble_eq_true rfl) rfl h (fun _ _ h => cp_X0_paidByAll (d := d + 1) h) fun v3 F3 h => ?_
        refine A_callC (ci := 1) eU dX6_swap_129 cl_X6_131 (by decide) rfl rfl (As := [.int ((100 * l3) + l4), .int v3]) (st := []) rfl rfl (Nat.le_of_ble_eq_true rfl) rfl h (fun _ _ h => cp_X1_offer (d := d + 5) h) fun _ F4 h => ?_
        exact okX6_swap_b132 (fun x4 F h => ih x4 F h) h
theorem okX6_swap_L29 {N d : Nat} {l1 : Int32} {l2 : Int32} {res : Int32 × FF} : ∀ (n : Nat) (l3 : Int32) (F : FF), fX6_swap_L29 N l1 l2 n l3 F = some res → FV cX6_swap 5 RX6 (d + 6) (some .int) none 29 [.ref 0, .int l1, .int l2, .int l3, .null] [] F (RI res) := by
  intro n
  induction n with
  | zero =>
    intro l3 F h
    rw [fX6_swap_L29.eq_1] at h
    cases h
  | succ n ih =>
    intro l3 F h
    rw [fX6_swap_L29.eq_2] at h
    refine V_iload_n dX6_swap_29 rfl rfl rfl ?_
    refine V_aload_n dX6_swap_30 rfl rfl rfl ?_
    refine F_getR dX6_swap_31 fl_X6_10 ly_0 rfl rfl ?_
    refine F_getI dX6_swap_34 fl_X6_103 ly_1 rfl rfl ?_
    refine A_icmp_ge dX6_swap_37 rfl rfl h (fun h => ?_) (fun h => ?_)
    · refine V_aload_n dX6_swap_144 rfl rfl rfl ?_
      refine F_getR dX6_swap_145 fl_X6_50 ly_0 rfl rfl ?_
      refine V_iload_n dX6_swap_148 rfl rfl rfl ?_
      refine P_callV (ci := 1) dX6_swap_149 cl_X6_225 (by decide) rfl rfl (cq_X1_answer (d := d + 5)) (As := [.int l2]) (st := []) rfl rfl (Nat.le_of_ble_eq_true rfl) rfl ?_
      exact A_ireturn dX6_swap_152 rfl h
    · refine V_iload_n dX6_swap_40 rfl rfl rfl ?_
      refine V_iconst dX6_swap_41 ci_1 rfl ?_
      refine V_iadd dX6_swap_42 rfl ?_
      refine V_istore dX6_swap_43 (by decide) rfl (ls' := [.ref 0, .int l1, .int l2, .int l3, .int (l3 + 1)]) rfl rfl ?_
      exact okX6_swap_L45 (fun x3 F h => ih x3 F h) _ _ _ h
theorem okX6_swap {N d : Nat} {l1 : Int32} {l2 : Int32} {F : FF} {res : Int32 × FF} (h : fX6_swap N l1 l2 F = some res) : FV cX6_swap 5 RX6 (d + 6) (some .int) none 0 [.ref 0, .int l1, .int l2, .null, .null] [] F (RI res) := by
  unfold fX6_swap at h
  refine V_iload_n dX6_swap_0 rfl rfl rfl ?_
  refine V_iconst dX6_swap_1 ci_0 rfl ?_
  refine V_sipush dX6_swap_2 cs_200 rfl ?_
  refine P_callS dX6_swap_5 cl_X6_69 (cq_X6_within (d := d + 5)) (As := [.int l1, .int 0, .int 200]) (st := []) rfl rfl (Nat.le_of_ble_eq_true rfl) rfl ?_
  refine A_if_eq dX6_swap_8 rfl rfl h (fun h => ?_) (fun h => ?_)
  · refine V_iconst dX6_swap_20 ci_m1 rfl ?_
    exact A_ireturn dX6_swap_21 rfl h
  · refine V_iload_n dX6_swap_11 rfl rfl rfl ?_
    refine V_iconst dX6_swap_12 ci_0 rfl ?_
    refine V_iconst dX6_swap_13 ci_1 rfl ?_
    refine P_callS dX6_swap_14 cl_X6_69 (cq_X6_within (d := d + 5)) (As := [.int l2, .int 0, .int 1]) (st := []) rfl rfl (Nat.le_of_ble_eq_true rfl) rfl ?_
    refine A_if_ne dX6_swap_17 rfl rfl h (fun h => ?_) (fun h => ?_)
    · refine V_aload_n dX6_swap_22 rfl rfl rfl ?_
      refine V_iload_n dX6_swap_23 rfl rfl rfl ?_
      refine A_callC (ci := 6) eU dX6_swap_24 cl_X6_228 (by decide) rfl rfl (As := [.int l1]) (st := []) rfl rfl (Nat.le_of_ble_eq_true rfl) rfl h (fun _ _ h => cp_X6_resetToPaidNow (d := d) h) fun _ F1 h => ?_
      refine V_iconst dX6_swap_27 ci_0 rfl ?_
      refine V_istore_n dX6_swap_28 rfl (by decide) rfl (ls' := [.ref 0, .int l1, .int l2, .int 0, .null]) rfl rfl ?_
      exact okX6_swap_L29 _ _ _ h
    · refine V_iconst dX6_swap_20 ci_m1 rfl ?_
      exact A_ireturn dX6_swap_21 rfl h
theorem cp_X6_swap {N d : Nat} {l1 : Int32} {l2 : Int32} {F F' : FF} {r : Int32} (h : fX6_swap N l1 l2 F = some (r, F')) : CP (d + 6) mX6_swap [.ref 0, .int l1, .int l2] F (fun r' F'' => r' = eI r ∧ F'' = F') := CP_I rfl (Nat.le_of_ble_eq_true rfl) (okX6_swap h)
theorem okX6_lose_L29 {N d : Nat} {l1 : Int32} {l2 : Int32} {res : Int32 × FF} : ∀ (n : Nat) (l3 : Int32) (F : FF), fX6_lose_L29 N l1 l2 n l3 F = some res → FV cX6_lose 4 RX6 (d + 6) (some .int) none 29 [.ref 0, .int l1, .int l2, .int l3] [] F (RI res) := by
  intro n
  induction n with
  | zero =>
    intro l3 F h
    rw [fX6_lose_L29.eq_1] at h
    cases h
  | succ n ih =>
    intro l3 F h
    rw [fX6_lose_L29.eq_2] at h
    refine V_iload_n dX6_lose_29 rfl rfl rfl ?_
    refine V_aload_n dX6_lose_30 rfl rfl rfl ?_
    refine F_getR dX6_lose_31 fl_X6_10 ly_0 rfl rfl ?_
    refine F_getI dX6_lose_34 fl_X6_103 ly_1 rfl rfl ?_
    refine A_icmp_ge dX6_lose_37 rfl rfl h (fun h => ?_) (fun h => ?_)
    · refine V_aload_n dX6_lose_90 rfl rfl rfl ?_
      refine F_getR dX6_lose_91 fl_X6_50 ly_0 rfl rfl ?_
      refine V_iload_n dX6_lose_94 rfl rfl rfl ?_
      refine P_callV (ci := 1) dX6_lose_95 cl_X6_225 (by decide) rfl rfl (cq_X1_answer (d := d + 5)) (As := [.int l2]) (st := []) rfl rfl (Nat.le_of_ble_eq_true rfl) rfl ?_
      exact A_ireturn dX6_lose_98 rfl h
    · refine V_aload_n dX6_lose_40 rfl rfl rfl ?_
      refine F_getR dX6_lose_41 fl_X6_16 ly_0 rfl rfl ?_
      refine V_aload_n dX6_lose_44 rfl rfl rfl ?_
      refine F_getR dX6_lose_45 fl_X6_10 ly_0 rfl rfl ?_
      refine A_callC (ci := 0) eU dX6_lose_48 cl_X6_90 (by decide) rfl rfl (As := [.ref 1]) (st := []) rfl rfl (Nat.le_of_ble_eq_true rfl) rfl h (fun _ _ h => cp_X0_copy (d := d + 3) h) fun _ F1 h => ?_
      refine V_aload_n dX6_lose_51 rfl rfl rfl ?_
      refine F_getR dX6_lose_52 fl_X6_16 ly_0 rfl rfl ?_
      refine F_getR dX6_lose_55 fl_X6_160 ly_16 rfl rfl ?_
      refine V_iload_n dX6_lose_58 rfl rfl rfl ?_
      refine V_iconst dX6_lose_59 ci_m1 rfl ?_
      refine A_st0 dX6_lose_60 rfl h fun F2 h => ?_
      refine V_aload_n dX6_lose_61 rfl rfl rfl ?_
      refine F_getR dX6_lose_62 fl_X6_50 ly_0 rfl rfl ?_
      refine V_iload_n dX6_lose_65 rfl rfl rfl ?_
      refine V_aload_n dX6_lose_66 rfl rfl rfl ?_
      refine F_getR dX6_lose_67 fl_X6_16 ly_0 rfl rfl ?_
      refine V_iload_n dX6_lose_70 rfl rfl rfl ?_
      refine V_aload_n dX6_lose_71 rfl rfl rfl ?_
      refine F_getR dX6_lose_72 fl_X6_50 ly_0 rfl rfl ?_
      refine F_getI dX6_lose_75 fl_X6_222 ly_40 rfl rfl ?_
      refine A_callC (ci := 0) eI dX6_lose_78 cl_X6_178 (by decide) rfl rfl (As := [.int l1, .int (F2 40 1)]) (st := [.int l3, .ref 40]) rfl rfl (Nat.le_of_ble_eq_true rfl) rfl h (fun _ _ h => cp_X0_paidByAll (d := d + 1) h) fun v1 F3 h => ?_
      refine A_callC (ci := 1) eU dX6_lose_81 cl_X6_131 (by decide) rfl rfl (As := [.int l3, .int v1]) (st := []) rfl rfl (Nat.le_of_ble_eq_true rfl) rfl h (fun _ _ h => cp_X1_offer (d := d + 5) h) fun _ F4 h => ?_
      refine V_iinc dX6_lose_84 (v := l3 + 1) rfl (by rw [ci_1]) rfl (ls' := [.ref 0, .int l1, .int l2, .int (l3 + 1)]) rfl rfl ?_
      refine V_goto dX6_lose_87 rfl ?_
      exact ih (l3 + 1) F4 h
theorem okX6_lose {N d : Nat} {l1 : Int32} {l2 : Int32} {F : FF} {res : Int32 × FF} (h : fX6_lose N l1 l2 F = some res) : FV cX6_lose 4 RX6 (d + 6) (some .int) none 0 [.ref 0, .int l1, .int l2, .null] [] F (RI res) := by
  unfold fX6_lose at h
  refine V_iload_n dX6_lose_0 rfl rfl rfl ?_
  refine V_iconst dX6_lose_1 ci_0 rfl ?_
  refine V_sipush dX6_lose_2 cs_200 rfl ?_
  refine P_callS dX6_lose_5 cl_X6_69 (cq_X6_within (d := d + 5)) (As := [.int l1, .int 0, .int 200]) (st := []) rfl rfl (Nat.le_of_ble_eq_true rfl) rfl ?_
  refine A_if_eq dX6_lose_8 rfl rfl h (fun h => ?_) (fun h => ?_)
  · refine V_iconst dX6_lose_20 ci_m1 rfl ?_
    exact A_ireturn dX6_lose_21 rfl h
  · refine V_iload_n dX6_lose_11 rfl rfl rfl ?_
    refine V_iconst dX6_lose_12 ci_0 rfl ?_
    refine V_iconst dX6_lose_13 ci_1 rfl ?_
    refine P_callS dX6_lose_14 cl_X6_69 (cq_X6_within (d := d + 5)) (As := [.int l2, .int 0, .int 1]) (st := []) rfl rfl (Nat.le_of_ble_eq_true rfl) rfl ?_
    refine A_if_ne dX6_lose_17 rfl rfl h (fun h => ?_) (fun h => ?_)
    · refine V_aload_n dX6_lose_22 rfl rfl rfl ?_
      refine V_iload_n dX6_lose_23 rfl rfl rfl ?_
      refine A_callC (ci := 6) eU dX6_lose_24 cl_X6_228 (by decide) rfl rfl (As := [.int l1]) (st := []) rfl rfl (Nat.le_of_ble_eq_true rfl) rfl h (fun _ _ h => cp_X6_resetToPaidNow (d := d) h) fun _ F1 h => ?_
      refine V_iconst dX6_lose_27 ci_0 rfl ?_
      refine V_istore_n dX6_lose_28 rfl (by decide) rfl (ls' := [.ref 0, .int l1, .int l2, .int 0]) rfl rfl ?_
      exact okX6_lose_L29 _ _ _ h
    · refine V_iconst dX6_lose_20 ci_m1 rfl ?_
      exact A_ireturn dX6_lose_21 rfl h
theorem cp_X6_lose {N d : Nat} {l1 : Int32} {l2 : Int32} {F F' : FF} {r : Int32} (h : fX6_lose N l1 l2 F = some (r, F')) : CP (d + 6) mX6_lose [.ref 0, .int l1, .int l2] F (fun r' F'' => r' = eI r ∧ F'' = F') := CP_I rfl (Nat.le_of_ble_eq_true rfl) (okX6_lose h)
theorem okX6_areOdds {N d : Nat} {l0 : Int32} {l1 : Int32} {l2 : Int32} {F : FF} {res : Int32 × FF} (h : fX6_areOdds N l0 l1 l2 F = some res) : FV cX6_areOdds 3 RX6 (d + 1) (some .boolean) none 0 [.int l0, .int l1, .int l2] [] F (RI res) := by
  unfold fX6_areOdds at h
  refine V_iload_n dX6_areOdds_0 rfl rfl rfl ?_
  refine V_iconst dX6_areOdds_1 ci_0 rfl ?_
  refine V_bipush dX6_areOdds_2 cb_10 rfl ?_
  refine P_callS dX6_areOdds_4 cl_X6_69 (cq_X6_within (d := d)) (As := [.int l0, .int 0, .int 10]) (st := []) rfl rfl (Nat.le_of_ble_eq_true rfl) rfl ?_
  refine V_midI (q := 34) ((if (pX6_within l0 0 10 F) = 0 then 0 else (if (pX6_within l1 0 8 F) = 0 then 0 else (if (pX6_within l2 0 1 F) = 0 then 0 else 1)) : Int32)) [] (fun yJ hy hJ => ?_) ?_
  · refine V_if_eq dX6_areOdds_7 rfl rfl (fun c => ?_) (fun c => ?_)
    · rw [if_pos c] at hy
      refine V_iconst dX6_areOdds_33 ci_0 rfl ?_
      rw [hy] at hJ
      exact hJ
    · rw [if_neg c] at hy
      refine V_iload_n dX6_areOdds_10 rfl rfl rfl ?_
      refine V_iconst dX6_areOdds_11 ci_0 rfl ?_
      refine V_bipush dX6_areOdds_12 cb_8 rfl ?_
      refine P_callS dX6_areOdds_14 cl_X6_69 (cq_X6_within (d := d)) (As := [.int l1, .int 0, .int 8]) (st := []) rfl rfl (Nat.le_of_ble_eq_true rfl) rfl ?_
      refine V_if_eq dX6_areOdds_17 rfl rfl (fun c => ?_) (fun c => ?_)
      · rw [if_pos c] at hy
        refine V_iconst dX6_areOdds_33 ci_0 rfl ?_
        rw [hy] at hJ
        exact hJ
      · rw [if_neg c] at hy
        refine V_iload_n dX6_areOdds_20 rfl rfl rfl ?_
        refine V_iconst dX6_areOdds_21 ci_0 rfl ?_
        refine V_iconst dX6_areOdds_22 ci_1 rfl ?_
        refine P_callS dX6_areOdds_23 cl_X6_69 (cq_X6_within (d := d)) (As := [.int l2, .int 0, .int 1]) (st := []) rfl rfl (Nat.le_of_ble_eq_true rfl) rfl ?_
        refine V_if_eq dX6_areOdds_26 rfl rfl (fun c => ?_) (fun c => ?_)
        · rw [if_pos c] at hy
          refine V_iconst dX6_areOdds_33 ci_0 rfl ?_
          rw [hy] at hJ
          exact hJ
        · rw [if_neg c] at hy
          refine V_iconst dX6_areOdds_29 ci_1 rfl ?_
          refine V_goto dX6_areOdds_30 rfl ?_
          rw [hy] at hJ
          exact hJ
  · exact A_creturn dX6_areOdds_34 rfl (by repeat' (first | exact Or.inl rfl | exact Or.inr rfl | split)) h
theorem cp_X6_areOdds {N d : Nat} {l0 : Int32} {l1 : Int32} {l2 : Int32} {F F' : FF} {r : Int32} (h : fX6_areOdds N l0 l1 l2 F = some (r, F')) : CP (d + 1) mX6_areOdds [.int l0, .int l1, .int l2] F (fun r' F'' => r' = eI r ∧ F'' = F') := CP_I rfl (Nat.le_of_ble_eq_true rfl) (okX6_areOdds h)
theorem pe_X6_areOdds {N : Nat} {l0 : Int32} {l1 : Int32} {l2 : Int32} {F : FF} : fX6_areOdds N l0 l1 l2 F = some (pX6_areOdds l0 l1 l2 F, F) := by
  simp only [fX6_areOdds, pX6_areOdds]
  repeat (first | rfl | split)
theorem cq_X6_areOdds {d : Nat} {l0 : Int32} {l1 : Int32} {l2 : Int32} {F : FF} : CP (d + 1) mX6_areOdds [.int l0, .int l1, .int l2] F (fun r' F'' => r' = eI (pX6_areOdds l0 l1 l2 F) ∧ F'' = F) := cp_X6_areOdds (N := 0) (pe_X6_areOdds)
theorem okJ6_bitCount_0f7a4 {N d : Nat} {l0 : Int32} {F : FF} {res : Int32 × FF} (h : fJ6_bitCount_0f7a4 N l0 F = some res) : FV cJ6_bitCount_0f7a4 1 RJ6 (d) (some .int) none 0 [.int l0] [] F (RI res) := by
  unfold fJ6_bitCount_0f7a4 at h
  refine V_iload_n dJ6_bitCount_0f7a4_0 rfl rfl rfl ?_
  refine V_iload_n dJ6_bitCount_0f7a4_1 rfl rfl rfl ?_
  refine V_iconst dJ6_bitCount_0f7a4_2 ci_1 rfl ?_
  refine U_iushr dJ6_bitCount_0f7a4_3 rfl ?_
  refine V_ldcw dJ6_bitCount_0f7a4_4 kc_J6_265 rfl ?_
  refine V_iand dJ6_bitCount_0f7a4_7 rfl ?_
  refine V_isub dJ6_bitCount_0f7a4_8 rfl ?_
  refine V_istore_n dJ6_bitCount_0f7a4_9 rfl (by decide) rfl (ls' := [.int (l0 - ((iushr l0 1) &&& 1431655765))]) rfl rfl ?_
  refine V_iload_n dJ6_bitCount_0f7a4_10 rfl rfl rfl ?_
  refine V_ldcw dJ6_bitCount_0f7a4_11 kc_J6_266 rfl ?_
  refine V_iand dJ6_bitCount_0f7a4_14 rfl ?_
  refine V_iload_n dJ6_bitCount_0f7a4_15 rfl rfl rfl ?_
  refine V_iconst dJ6_bitCount_0f7a4_16 ci_2 rfl ?_
  refine U_iushr dJ6_bitCount_0f7a4_17 rfl ?_
  refine V_ldcw dJ6_bitCount_0f7a4_18 kc_J6_266 rfl ?_
  refine V_iand dJ6_bitCount_0f7a4_21 rfl ?_
  refine V_iadd dJ6_bitCount_0f7a4_22 rfl ?_
  refine V_istore_n dJ6_bitCount_0f7a4_23 rfl (by decide) rfl (ls' := [.int (((l0 - ((iushr l0 1) &&& 1431655765)) &&& 858993459) + ((iushr (l0 - ((iushr l0 1) &&& 1431655765)) 2) &&& 858993459))]) rfl rfl ?_
  refine V_iload_n dJ6_bitCount_0f7a4_24 rfl rfl rfl ?_
  refine V_iload_n dJ6_bitCount_0f7a4_25 rfl rfl rfl ?_
  refine V_iconst dJ6_bitCount_0f7a4_26 ci_4 rfl ?_
  refine U_iushr dJ6_bitCount_0f7a4_27 rfl ?_
  refine V_iadd dJ6_bitCount_0f7a4_28 rfl ?_
  refine V_ldcw dJ6_bitCount_0f7a4_29 kc_J6_267 rfl ?_
  refine V_iand dJ6_bitCount_0f7a4_32 rfl ?_
  refine V_istore_n dJ6_bitCount_0f7a4_33 rfl (by decide) rfl (ls' := [.int (((((l0 - ((iushr l0 1) &&& 1431655765)) &&& 858993459) + ((iushr (l0 - ((iushr l0 1) &&& 1431655765)) 2) &&& 858993459)) + (iushr (((l0 - ((iushr l0 1) &&& 1431655765)) &&& 858993459) + ((iushr (l0 - ((iushr l0 1) &&& 1431655765)) 2) &&& 858993459)) 4)) &&& 252645135)]) rfl rfl ?_
  refine V_iload_n dJ6_bitCount_0f7a4_34 rfl rfl rfl ?_
  refine V_iload_n dJ6_bitCount_0f7a4_35 rfl rfl rfl ?_
  refine V_bipush dJ6_bitCount_0f7a4_36 cb_8 rfl ?_
  refine U_iushr dJ6_bitCount_0f7a4_38 rfl ?_
  refine V_iadd dJ6_bitCount_0f7a4_39 rfl ?_
  refine V_istore_n dJ6_bitCount_0f7a4_40 rfl (by decide) rfl (ls' := [.int ((((((l0 - ((iushr l0 1) &&& 1431655765)) &&& 858993459) + ((iushr (l0 - ((iushr l0 1) &&& 1431655765)) 2) &&& 858993459)) + (iushr (((l0 - ((iushr l0 1) &&& 1431655765)) &&& 858993459) + ((iushr (l0 - ((iushr l0 1) &&& 1431655765)) 2) &&& 858993459)) 4)) &&& 252645135) + (iushr (((((l0 - ((iushr l0 1) &&& 1431655765)) &&& 858993459) + ((iushr (l0 - ((iushr l0 1) &&& 1431655765)) 2) &&& 858993459)) + (iushr (((l0 - ((iushr l0 1) &&& 1431655765)) &&& 858993459) + ((iushr (l0 - ((iushr l0 1) &&& 1431655765)) 2) &&& 858993459)) 4)) &&& 252645135) 8))]) rfl rfl ?_
  refine V_iload_n dJ6_bitCount_0f7a4_41 rfl rfl rfl ?_
  refine V_iload_n dJ6_bitCount_0f7a4_42 rfl rfl rfl ?_
  refine V_bipush dJ6_bitCount_0f7a4_43 cb_16 rfl ?_
  refine U_iushr dJ6_bitCount_0f7a4_45 rfl ?_
  refine V_iadd dJ6_bitCount_0f7a4_46 rfl ?_
  refine V_istore_n dJ6_bitCount_0f7a4_47 rfl (by decide) rfl (ls' := [.int (((((((l0 - ((iushr l0 1) &&& 1431655765)) &&& 858993459) + ((iushr (l0 - ((iushr l0 1) &&& 1431655765)) 2) &&& 858993459)) + (iushr (((l0 - ((iushr l0 1) &&& 1431655765)) &&& 858993459) + ((iushr (l0 - ((iushr l0 1) &&& 1431655765)) 2) &&& 858993459)) 4)) &&& 252645135) + (iushr (((((l0 - ((iushr l0 1) &&& 1431655765)) &&& 858993459) + ((iushr (l0 - ((iushr l0 1) &&& 1431655765)) 2) &&& 858993459)) + (iushr (((l0 - ((iushr l0 1) &&& 1431655765)) &&& 858993459) + ((iushr (l0 - ((iushr l0 1) &&& 1431655765)) 2) &&& 858993459)) 4)) &&& 252645135) 8)) + (iushr ((((((l0 - ((iushr l0 1) &&& 1431655765)) &&& 858993459) + ((iushr (l0 - ((iushr l0 1) &&& 1431655765)) 2) &&& 858993459)) + (iushr (((l0 - ((iushr l0 1) &&& 1431655765)) &&& 858993459) + ((iushr (l0 - ((iushr l0 1) &&& 1431655765)) 2) &&& 858993459)) 4)) &&& 252645135) + (iushr (((((l0 - ((iushr l0 1) &&& 1431655765)) &&& 858993459) + ((iushr (l0 - ((iushr l0 1) &&& 1431655765)) 2) &&& 858993459)) + (iushr (((l0 - ((iushr l0 1) &&& 1431655765)) &&& 858993459) + ((iushr (l0 - ((iushr l0 1) &&& 1431655765)) 2) &&& 858993459)) 4)) &&& 252645135) 8)) 16))]) rfl rfl ?_
  refine V_iload_n dJ6_bitCount_0f7a4_48 rfl rfl rfl ?_
  refine V_bipush dJ6_bitCount_0f7a4_49 cb_63 rfl ?_
  refine V_iand dJ6_bitCount_0f7a4_51 rfl ?_
  exact A_ireturn dJ6_bitCount_0f7a4_52 rfl h
theorem cp_J6_bitCount_0f7a4 {N d : Nat} {l0 : Int32} {F F' : FF} {r : Int32} (h : fJ6_bitCount_0f7a4 N l0 F = some (r, F')) : CP (d) mJ6_bitCount_0f7a4 [.int l0] F (fun r' F'' => r' = eI r ∧ F'' = F') := CP_I rfl (Nat.le_of_ble_eq_true rfl) (okJ6_bitCount_0f7a4 h)
theorem pe_J6_bitCount_0f7a4 {N : Nat} {l0 : Int32} {F : FF} : fJ6_bitCount_0f7a4 N l0 F = some (pJ6_bitCount_0f7a4 l0 F, F) := by
  simp only [fJ6_bitCount_0f7a4, pJ6_bitCount_0f7a4]
  repeat (first | rfl | split)
theorem cq_J6_bitCount_0f7a4 {d : Nat} {l0 : Int32} {F : FF} : CP (d) mJ6_bitCount_0f7a4 [.int l0] F (fun r' F'' => r' = eI (pJ6_bitCount_0f7a4 l0 F) ∧ F'' = F) := cp_J6_bitCount_0f7a4 (N := 0) (pe_J6_bitCount_0f7a4)
theorem okX6_power_L5 {N d : Nat} {l0 : Int32} {l1 : Int32} {res : Int64 × FF} : ∀ (n : Nat) (l2 : Int64) (l4 : Int32) (F : FF), fX6_power_L5 N l0 l1 n l2 l4 F = some res → FV cX6_power 5 RX6 (d) (some .long) none 5 [.int l0, .int l1, .long l2, .null, .int l4] [] F (RJ res) := by
  intro n
  induction n with
  | zero =>
    intro l2 l4 F h
    rw [fX6_power_L5.eq_1] at h
    cases h
  | succ n ih =>
    intro l2 l4 F h
    rw [fX6_power_L5.eq_2] at h
    refine V_iload dX6_power_5 rfl rfl ?_
    refine V_iload_n dX6_power_7 rfl rfl rfl ?_
    refine A_icmp_ge dX6_power_8 rfl rfl h (fun h => ?_) (fun h => ?_)
    · refine V_lload_n dX6_power_22 rfl rfl rfl ?_
      exact A_lreturn dX6_power_23 rfl h
    · refine V_lload_n dX6_power_11 rfl rfl rfl ?_
      refine V_iload_n dX6_power_12 rfl rfl rfl ?_
      refine V_i2l dX6_power_13 rfl ?_
      refine V_lmul dX6_power_14 rfl ?_
      refine V_lstore_n dX6_power_15 rfl (by decide) rfl (ls' := [.int l0, .int l1, .long (l2 * l0.toInt64), .null, .int l4]) rfl rfl ?_
      refine V_iinc dX6_power_16 (v := l4 + 1) rfl (by rw [ci_1]) rfl (ls' := [.int l0, .int l1, .long (l2 * l0.toInt64), .null, .int (l4 + 1)]) rfl rfl ?_
      refine V_goto dX6_power_19 rfl ?_
      exact ih (l2 * l0.toInt64) (l4 + 1) F h
theorem okX6_power {N d : Nat} {l0 : Int32} {l1 : Int32} {F : FF} {res : Int64 × FF} (h : fX6_power N l0 l1 F = some res) : FV cX6_power 5 RX6 (d) (some .long) none 0 [.int l0, .int l1, .null, .null, .null] [] F (RJ res) := by
  unfold fX6_power at h
  refine V_lconst dX6_power_0 cl_1 rfl ?_
  refine V_lstore_n dX6_power_1 rfl (by decide) rfl (ls' := [.int l0, .int l1, .long 1, .null, .null]) rfl rfl ?_
  refine V_iconst dX6_power_2 ci_0 rfl ?_
  refine V_istore dX6_power_3 (by decide) rfl (ls' := [.int l0, .int l1, .long 1, .null, .int 0]) rfl rfl ?_
  exact okX6_power_L5 _ _ _ _ h
theorem cp_X6_power {N d : Nat} {l0 : Int32} {l1 : Int32} {F F' : FF} {r : Int64} (h : fX6_power N l0 l1 F = some (r, F')) : CP (d) mX6_power [.int l0, .int l1] F (fun r' F'' => r' = eJ r ∧ F'' = F') := CP_J rfl (Nat.le_of_ble_eq_true rfl) (okX6_power h)
