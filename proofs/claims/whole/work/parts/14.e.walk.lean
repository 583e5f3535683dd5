theorem okX7_asksOn_L5 {N d : Nat} {l1 : Int32} {l2 : Int32} {res : Int32 × FF} : ∀ (n : Nat) (l3 : Int32) (l4 : Int32) (F : FF), fX7_asksOn_L5 N l1 l2 n l3 l4 F = some res → FV cX7_asksOn 10 RX7 (d + 1) (some .int) none 5 [.ref 82, .int l1, .int l2, .int l3, .int l4, .null, .null, .null, .null, .null] [] F (RI res) := by
  intro n
  induction n with
  | zero =>
    intro l3 l4 F h
    rw [fX7_asksOn_L5.eq_1] at h
    cases h
  | succ n ih =>
    intro l3 l4 F h
    rw [fX7_asksOn_L5.eq_2] at h
    refine V_iload dX7_asksOn_5 rfl rfl ?_
    refine V_aload_n dX7_asksOn_7 rfl rfl rfl ?_
    refine F_getR dX7_asksOn_8 fl_X7_7 ly_82 rfl rfl ?_
    refine V_iload_n dX7_asksOn_11 rfl rfl rfl ?_
    refine V_bipush dX7_asksOn_12 cb_8 rfl ?_
    refine V_iadd dX7_asksOn_14 rfl ?_
    refine A_ld0 dX7_asksOn_15 rfl h fun v1 h => ?_
    refine A_icmp_ge dX7_asksOn_16 rfl rfl h (fun h => ?_) (fun h => ?_)
    · refine V_iload_n dX7_asksOn_229 rfl rfl rfl ?_
      exact A_ireturn dX7_asksOn_230 rfl h
    · refine V_aload_n dX7_asksOn_19 rfl rfl rfl ?_
      refine V_iload_n dX7_asksOn_20 rfl rfl rfl ?_
      refine V_iload dX7_asksOn_21 rfl rfl ?_
      refine V_iload_n dX7_asksOn_23 rfl rfl rfl ?_
      refine A_callC (ci := 7) eI dX7_asksOn_24 cl_X7_144 (by decide) rfl rfl (As := [.int l1, .int l4, .int l2]) (st := []) rfl rfl (Nat.le_of_ble_eq_true rfl) rfl h (fun _ _ h => cp_X7_placeOn (d := d) h) fun v2 F1 h => ?_
      refine V_istore dX7_asksOn_27 (by decide) rfl (ls' := [.ref 82, .int l1, .int l2, .int l3, .int l4, .int v2, .null, .null, .null, .null]) rfl rfl ?_
      refine V_iload dX7_asksOn_29 rfl rfl ?_
      refine V_iconst dX7_asksOn_31 ci_1 rfl ?_
      refine V_iadd dX7_asksOn_32 rfl ?_
      refine V_aload_n dX7_asksOn_33 rfl rfl rfl ?_
      refine F_getR dX7_asksOn_34 fl_X7_7 ly_82 rfl rfl ?_
      refine V_iload_n dX7_asksOn_37 rfl rfl rfl ?_
      refine V_iload dX7_asksOn_38 rfl rfl ?_
      refine V_iadd dX7_asksOn_40 rfl ?_
      refine A_ld0 dX7_asksOn_41 rfl h fun v3 h => ?_
      refine V_iconst dX7_asksOn_42 ci_2 rfl ?_
      refine V_midI (q := 56) ((if ¬ v3 = 2 then 0 else (if v2 ≤ 0 then 0 else 1) : Int32)) [.int (v2 + 1)] (fun yJ hy hJ => ?_) ?_
      · refine V_icmp_ne dX7_asksOn_43 rfl rfl (fun c => ?_) (fun c => ?_)
        · rw [if_pos c] at hy
          refine V_iconst dX7_asksOn_55 ci_0 rfl ?_
          rw [hy] at hJ
          exact hJ
        · rw [if_neg (fun z => z c)] at hy
          refine V_iload dX7_asksOn_46 rfl rfl ?_
          refine V_if_le dX7_asksOn_48 rfl rfl (fun c => ?_) (fun c => ?_)
          · rw [if_pos c] at hy
            refine V_iconst dX7_asksOn_55 ci_0 rfl ?_
            rw [hy] at hJ
            exact hJ
          · rw [if_neg c] at hy
            refine V_iconst dX7_asksOn_51 ci_1 rfl ?_
            refine V_goto dX7_asksOn_52 rfl ?_
            rw [hy] at hJ
            exact hJ
      · refine V_iadd dX7_asksOn_56 rfl ?_
        refine V_istore dX7_asksOn_57 (by decide) rfl (ls' := [.ref 82, .int l1, .int l2, .int l3, .int l4, .int v2, .int ((v2 + 1) + ((if ¬ v3 = 2 then 0 else (if v2 ≤ 0 then 0 else 1) : Int32))), .null, .null, .null]) rfl rfl ?_
        refine V_aload_n dX7_asksOn_59 rfl rfl rfl ?_
        refine F_getR dX7_asksOn_60 fl_X7_7 ly_82 rfl rfl ?_
        refine V_iload_n dX7_asksOn_63 rfl rfl rfl ?_
        refine V_iconst dX7_asksOn_64 ci_4 rfl ?_
        refine V_iadd dX7_asksOn_65 rfl ?_
        refine V_iload dX7_asksOn_66 rfl rfl ?_
        refine V_iadd dX7_asksOn_68 rfl ?_
        refine A_ld0 dX7_asksOn_69 rfl h fun v4 h => ?_
        refine V_iload dX7_asksOn_70 rfl rfl ?_
        refine V_iadd dX7_asksOn_72 rfl ?_
        refine V_istore dX7_asksOn_73 (by decide) rfl (ls' := [.ref 82, .int l1, .int l2, .int l3, .int l4, .int v2, .int ((v2 + 1) + ((if ¬ v3 = 2 then 0 else (if v2 ≤ 0 then 0 else 1) : Int32))), .int (v4 + ((v2 + 1) + ((if ¬ v3 = 2 then 0 else (if v2 ≤ 0 then 0 else 1) : Int32)))), .null, .null]) rfl rfl ?_
        refine V_aload_n dX7_asksOn_75 rfl rfl rfl ?_
        refine F_getR dX7_asksOn_76 fl_X7_7 ly_82 rfl rfl ?_
        refine V_iload_n dX7_asksOn_79 rfl rfl rfl ?_
        refine V_iconst dX7_asksOn_80 ci_4 rfl ?_
        refine V_iadd dX7_asksOn_81 rfl ?_
        refine V_iload dX7_asksOn_82 rfl rfl ?_
        refine V_iadd dX7_asksOn_84 rfl ?_
        refine V_iload dX7_asksOn_85 rfl rfl ?_
        refine V_ldc dX7_asksOn_87 kc_X7_148 rfl ?_
        refine V_midI (q := 99) ((if (v4 + ((v2 + 1) + ((if ¬ v3 = 2 then 0 else (if v2 ≤ 0 then 0 else 1) : Int32)))) ≤ 99999 then (v4 + ((v2 + 1) + ((if ¬ v3 = 2 then 0 else (if v2 ≤ 0 then 0 else 1) : Int32)))) else 99999 : Int32)) [.int ((l1 + 4) + l4), .ref 83] (fun yJ hy hJ => ?_) ?_
        · refine V_icmp_le dX7_asksOn_89 rfl rfl (fun c => ?_) (fun c => ?_)
          · rw [if_pos c] at hy
            refine V_iload dX7_asksOn_97 rfl rfl ?_
            rw [hy] at hJ
            exact hJ
          · rw [if_neg c] at hy
            refine V_ldc dX7_asksOn_92 kc_X7_148 rfl ?_
            refine V_goto dX7_asksOn_94 rfl ?_
            rw [hy] at hJ
            exact hJ
        · refine A_st0 dX7_asksOn_99 rfl h fun F2 h => ?_
          refine V_iload_n dX7_asksOn_100 rfl rfl rfl ?_
          refine V_bipush dX7_asksOn_101 cb_51 rfl ?_
          refine V_iadd dX7_asksOn_103 rfl ?_
          refine V_bipush dX7_asksOn_104 cb_6 rfl ?_
          refine V_iload dX7_asksOn_106 rfl rfl ?_
          refine V_imul dX7_asksOn_108 rfl ?_
          refine V_iadd dX7_asksOn_109 rfl ?_
          refine V_iload_n dX7_asksOn_110 rfl rfl rfl ?_
          refine V_iadd dX7_asksOn_111 rfl ?_
          refine V_istore dX7_asksOn_112 (by decide) rfl (ls' := [.ref 82, .int l1, .int l2, .int l3, .int l4, .int v2, .int ((v2 + 1) + ((if ¬ v3 = 2 then 0 else (if v2 ≤ 0 then 0 else 1) : Int32))), .int (v4 + ((v2 + 1) + ((if ¬ v3 = 2 then 0 else (if v2 ≤ 0 then 0 else 1) : Int32)))), .int (((l1 + 51) + (6 * l4)) + l2), .null]) rfl rfl ?_
          refine V_aload_n dX7_asksOn_114 rfl rfl rfl ?_
          refine F_getR dX7_asksOn_115 fl_X7_7 ly_82 rfl rfl ?_
          refine V_iload dX7_asksOn_118 rfl rfl ?_
          refine V_dup2 dX7_asksOn_120 rfl rfl rfl ?_
          refine A_ld0 dX7_asksOn_121 rfl h fun v5 h => ?_
          refine V_aload_n dX7_asksOn_122 rfl rfl rfl ?_
          refine F_getR dX7_asksOn_123 fl_X7_7 ly_82 rfl rfl ?_
          refine V_iload dX7_asksOn_126 rfl rfl ?_
          refine A_ld0 dX7_asksOn_128 rfl h fun v6 h => ?_
          refine V_bipush dX7_asksOn_129 cb_99 rfl ?_
          refine V_midI (q := 139) ((if 99 ≤ v6 then 0 else 1 : Int32)) [.int v5, .int (((l1 + 51) + (6 * l4)) + l2), .ref 83] (fun yJ hy hJ => ?_) ?_
          · refine V_icmp_ge dX7_asksOn_131 rfl rfl (fun c => ?_) (fun c => ?_)
            · rw [if_pos c] at hy
              refine V_iconst dX7_asksOn_138 ci_0 rfl ?_
              rw [hy] at hJ
              exact hJ
            · rw [if_neg c] at hy
              refine V_iconst dX7_asksOn_134 ci_1 rfl ?_
              refine V_goto dX7_asksOn_135 rfl ?_
              rw [hy] at hJ
              exact hJ
          · refine V_iadd dX7_asksOn_139 rfl ?_
            refine A_st0 dX7_asksOn_140 rfl h fun F3 h => ?_
            refine V_aload_n dX7_asksOn_141 rfl rfl rfl ?_
            refine V_iload_n dX7_asksOn_142 rfl rfl rfl ?_
            refine V_iload dX7_asksOn_143 rfl rfl ?_
            refine V_iload dX7_asksOn_145 rfl rfl ?_
            refine A_callC (ci := 7) eI dX7_asksOn_147 cl_X7_149 (by decide) rfl rfl (As := [.int l1, .int l4, .int v2]) (st := []) rfl rfl (Nat.le_of_ble_eq_true rfl) rfl h (fun _ _ h => cp_X7_goalOn (d := d) h) fun v7 F4 h => ?_
            refine V_istore dX7_asksOn_150 (by decide) rfl (ls' := [.ref 82, .int l1, .int l2, .int l3, .int l4, .int v2, .int ((v2 + 1) + ((if ¬ v3 = 2 then 0 else (if v2 ≤ 0 then 0 else 1) : Int32))), .int (v4 + ((v2 + 1) + ((if ¬ v3 = 2 then 0 else (if v2 ≤ 0 then 0 else 1) : Int32)))), .int (((l1 + 51) + (6 * l4)) + l2), .int v7]) rfl rfl ?_
            refine V_aload_n dX7_asksOn_152 rfl rfl rfl ?_
            refine V_iload_n dX7_asksOn_153 rfl rfl rfl ?_
            refine V_iload dX7_asksOn_154 rfl rfl ?_
            refine V_iload dX7_asksOn_156 rfl rfl ?_
            refine V_iload dX7_asksOn_158 rfl rfl ?_
            refine A_callC (ci := 7) eU dX7_asksOn_160 cl_X7_152 (by decide) rfl rfl (As := [.int l1, .int l4, .int v2, .int v7]) (st := []) rfl rfl (Nat.le_of_ble_eq_true rfl) rfl h (fun _ _ h => cp_X7_standsOn (d := d) h) fun _ F5 h => ?_
            refine V_aload_n dX7_asksOn_163 rfl rfl rfl ?_
            refine F_getR dX7_asksOn_164 fl_X7_29 ly_82 rfl rfl ?_
            refine V_iload dX7_asksOn_167 rfl rfl ?_
            refine V_dup2 dX7_asksOn_169 rfl rfl rfl ?_
            refine A_ld0 dX7_asksOn_170 rfl h fun v8 h => ?_
            refine V_iload dX7_asksOn_171 rfl rfl ?_
            refine V_iadd dX7_asksOn_173 rfl ?_
            refine A_st0 dX7_asksOn_174 rfl h fun F6 h => ?_
            refine V_aload_n dX7_asksOn_175 rfl rfl rfl ?_
            refine V_iload dX7_asksOn_176 rfl rfl ?_
            refine V_aload_n dX7_asksOn_178 rfl rfl rfl ?_
            refine F_getI dX7_asksOn_179 fl_X7_138 ly_82 rfl rfl ?_
            refine V_midI (q := 194) ((if ((v2 + 1) + ((if ¬ v3 = 2 then 0 else (if v2 ≤ 0 then 0 else 1) : Int32))) ≤ (F6 82 18) then (F6 82 18) else ((v2 + 1) + ((if ¬ v3 = 2 then 0 else (if v2 ≤ 0 then 0 else 1) : Int32))) : Int32)) [.ref 82] (fun yJ hy hJ => ?_) ?_
            · refine V_icmp_le dX7_asksOn_182 rfl rfl (fun c => ?_) (fun c => ?_)
              · rw [if_pos c] at hy
                refine V_aload_n dX7_asksOn_190 rfl rfl rfl ?_
                refine F_getI dX7_asksOn_191 fl_X7_138 ly_82 rfl rfl ?_
                rw [hy] at hJ
                exact hJ
              · rw [if_neg c] at hy
                refine V_iload dX7_asksOn_185 rfl rfl ?_
                refine V_goto dX7_asksOn_187 rfl ?_
                rw [hy] at hJ
                exact hJ
            · refine A_pn dX7_asksOn_194 fl_X7_138 rfl (Or.inl rfl) ly_82 rfl rfl h fun F7 h => ?_
              refine V_aload_n dX7_asksOn_197 rfl rfl rfl ?_
              refine V_dup dX7_asksOn_198 rfl rfl ?_
              refine F_getI dX7_asksOn_199 fl_X7_141 ly_82 rfl rfl ?_
              refine V_iload dX7_asksOn_202 rfl rfl ?_
              refine V_iload dX7_asksOn_204 rfl rfl ?_
              refine V_midI (q := 214) ((if ¬ v7 = v2 then 1 else 0 : Int32)) [.int (F7 82 19), .ref 82] (fun yJ hy hJ => ?_) ?_
              · refine V_icmp_ne dX7_asksOn_206 rfl rfl (fun c => ?_) (fun c => ?_)
                · rw [if_pos c] at hy
                  refine V_iconst dX7_asksOn_213 ci_1 rfl ?_
                  rw [hy] at hJ
                  exact hJ
                · rw [if_neg (fun z => z c)] at hy
                  refine V_iconst dX7_asksOn_209 ci_0 rfl ?_
                  refine V_goto dX7_asksOn_210 rfl ?_
                  rw [hy] at hJ
                  exact hJ
              · refine V_iadd dX7_asksOn_214 rfl ?_
                refine A_pn dX7_asksOn_215 fl_X7_141 rfl (Or.inl rfl) ly_82 rfl rfl h fun F8 h => ?_
                refine V_iload_n dX7_asksOn_218 rfl rfl rfl ?_
                refine V_iload dX7_asksOn_219 rfl rfl ?_
                refine V_iadd dX7_asksOn_221 rfl ?_
                refine V_istore_n dX7_asksOn_222 rfl (by decide) rfl (ls' := [.ref 82, .int l1, .int l2, .int (l3 + ((v2 + 1) + ((if ¬ v3 = 2 then 0 else (if v2 ≤ 0 then 0 else 1) : Int32)))), .int l4, .int v2, .int ((v2 + 1) + ((if ¬ v3 = 2 then 0 else (if v2 ≤ 0 then 0 else 1) : Int32))), .int (v4 + ((v2 + 1) + ((if ¬ v3 = 2 then 0 else (if v2 ≤ 0 then 0 else 1) : Int32)))), .int (((l1 + 51) + (6 * l4)) + l2), .int v7]) rfl rfl ?_
                refine V_iinc dX7_asksOn_223 (v := l4 + 1) rfl (by rw [ci_1]) rfl (ls' := [.ref 82, .int l1, .int l2, .int (l3 + ((v2 + 1) + ((if ¬ v3 = 2 then 0 else (if v2 ≤ 0 then 0 else 1) : Int32)))), .int (l4 + 1), .int v2, .int ((v2 + 1) + ((if ¬ v3 = 2 then 0 else (if v2 ≤ 0 then 0 else 1) : Int32))), .int (v4 + ((v2 + 1) + ((if ¬ v3 = 2 then 0 else (if v2 ≤ 0 then 0 else 1) : Int32)))), .int (((l1 + 51) + (6 * l4)) + l2), .int v7]) rfl rfl ?_
                refine V_goto dX7_asksOn_226 rfl ?_
                refine V_weak [true, true, true, true, true, false, false, false, false, false] rfl ?_
                exact ih (l3 + ((v2 + 1) + ((if ¬ v3 = 2 then 0 else (if v2 ≤ 0 then 0 else 1) : Int32)))) (l4 + 1) F8 h
theorem okX7_asksOn {N d : Nat} {l1 : Int32} {l2 : Int32} {F : FF} {res : Int32 × FF} (h : fX7_asksOn N l1 l2 F = some res) : FV cX7_asksOn 10 RX7 (d + 1) (some .int) none 0 [.ref 82, .int l1, .int l2, .null, .null, .null, .null, .null, .null, .null] [] F (RI res) := by
  unfold fX7_asksOn at h
  refine V_iconst dX7_asksOn_0 ci_0 rfl ?_
  refine V_istore_n dX7_asksOn_1 rfl (by decide) rfl (ls' := [.ref 82, .int l1, .int l2, .int 0, .null, .null, .null, .null, .null, .null]) rfl rfl ?_
  refine V_iconst dX7_asksOn_2 ci_0 rfl ?_
  refine V_istore dX7_asksOn_3 (by decide) rfl (ls' := [.ref 82, .int l1, .int l2, .int 0, .int 0, .null, .null, .null, .null, .null]) rfl rfl ?_
  exact okX7_asksOn_L5 _ _ _ _ h
theorem cp_X7_asksOn {N d : Nat} {l1 : Int32} {l2 : Int32} {F F' : FF} {r : Int32} (h : fX7_asksOn N l1 l2 F = some (r, F')) : CP (d + 1) mX7_asksOn [.ref 82, .int l1, .int l2] F (fun r' F'' => r' = eI r ∧ F'' = F') := CP_I rfl (Nat.le_of_ble_eq_true rfl) (okX7_asksOn h)
theorem okX7_take {N d : Nat} {l1 : Int32} {F : FF} {res : Int32 × FF} (h : fX7_take N l1 F = some res) : FV cX7_take 2 RX7 (d + 2) (some .int) none 0 [.ref 82, .int l1] [] F (RI res) := by
  unfold fX7_take at h
  refine V_aload_n dX7_take_0 rfl rfl rfl ?_
  refine V_iload_n dX7_take_1 rfl rfl rfl ?_
  refine A_callC (ci := 7) eI dX7_take_2 cl_X7_166 (by decide) rfl rfl (As := [.int l1]) (st := []) rfl rfl (Nat.le_of_ble_eq_true rfl) rfl h (fun _ _ h => cp_X7_isBook (d := d) h) fun v1 F1 h => ?_
  refine A_if_eq dX7_take_5 rfl rfl h (fun h => ?_) (fun h => ?_)
  · refine V_iconst dX7_take_17 ci_m1 rfl ?_
    exact A_ireturn dX7_take_18 rfl h
  · refine V_aload_n dX7_take_8 rfl rfl rfl ?_
    refine V_iconst dX7_take_9 ci_0 rfl ?_
    refine V_iload_n dX7_take_10 rfl rfl rfl ?_
    refine A_callC (ci := 7) eI dX7_take_11 cl_X7_159 (by decide) rfl rfl (As := [.int 0, .int l1]) (st := []) rfl rfl (Nat.le_of_ble_eq_true rfl) rfl h (fun _ _ h => cp_X7_asksOn (d := d) h) fun v2 F2 h => ?_
    refine V_goto dX7_take_14 rfl ?_
    exact A_ireturn dX7_take_18 rfl h
theorem cp_X7_take {N d : Nat} {l1 : Int32} {F F' : FF} {r : Int32} (h : fX7_take N l1 F = some (r, F')) : CP (d + 2) mX7_take [.ref 82, .int l1] F (fun r' F'' => r' = eI r ∧ F'' = F') := CP_I rfl (Nat.le_of_ble_eq_true rfl) (okX7_take h)
theorem okX7_starts_L2 {N d : Nat} {res : Unit × FF} : ∀ (n : Nat) (l1 : Int32) (F : FF), fX7_starts_L2 N n l1 F = some res → FV cX7_starts 2 RX7 (d) none none 2 [.ref 82, .int l1] [] F (RU res) := by
  intro n
  induction n with
  | zero =>
    intro l1 F h
    rw [fX7_starts_L2.eq_1] at h
    cases h
  | succ n ih =>
    intro l1 F h
    rw [fX7_starts_L2.eq_2] at h
    refine V_iload_n dX7_starts_2 rfl rfl rfl ?_
    refine V_iconst dX7_starts_3 ci_4 rfl ?_
    refine A_icmp_ge dX7_starts_4 rfl rfl h (fun h => ?_) (fun h => ?_)
    · refine V_aload_n dX7_starts_20 rfl rfl rfl ?_
      refine V_iconst dX7_starts_21 ci_0 rfl ?_
      refine A_pn dX7_starts_22 fl_X7_138 rfl (Or.inl rfl) ly_82 rfl rfl h fun F1 h => ?_
      refine V_aload_n dX7_starts_25 rfl rfl rfl ?_
      refine V_iconst dX7_starts_26 ci_0 rfl ?_
      refine A_pn dX7_starts_27 fl_X7_141 rfl (Or.inl rfl) ly_82 rfl rfl h fun F2 h => ?_
      exact A_return dX7_starts_30 rfl h
    · refine V_aload_n dX7_starts_7 rfl rfl rfl ?_
      refine F_getR dX7_starts_8 fl_X7_29 ly_82 rfl rfl ?_
      refine V_iload_n dX7_starts_11 rfl rfl rfl ?_
      refine V_iconst dX7_starts_12 ci_0 rfl ?_
      refine A_st0 dX7_starts_13 rfl h fun F3 h => ?_
      refine V_iinc dX7_starts_14 (v := l1 + 1) rfl (by rw [ci_1]) rfl (ls' := [.ref 82, .int (l1 + 1)]) rfl rfl ?_
      refine V_goto dX7_starts_17 rfl ?_
      exact ih (l1 + 1) F3 h
theorem okX7_starts {N d : Nat} {F : FF} {res : Unit × FF} (h : fX7_starts N F = some res) : FV cX7_starts 2 RX7 (d) none none 0 [.ref 82, .null] [] F (RU res) := by
  unfold fX7_starts at h
  refine V_iconst dX7_starts_0 ci_0 rfl ?_
  refine V_istore_n dX7_starts_1 rfl (by decide) rfl (ls' := [.ref 82, .int 0]) rfl rfl ?_
  exact okX7_starts_L2 _ _ _ h
theorem cp_X7_starts {N d : Nat} {F F' : FF} {r : Unit} (h : fX7_starts N F = some (r, F')) : CP (d) mX7_starts [.ref 82] F (fun r' F'' => r' = eU r ∧ F'' = F') := CP_U rfl (Nat.le_of_ble_eq_true rfl) (okX7_starts h)
theorem okX7_stepOn_b41 {N d : Nat} {l1 : Int32} {F : FF} {res : Unit × FF} (h : fX7_stepOn_b41 N l1 F = some res) : FV cX7_stepOn 4 RX7 (d + 2) none none 41 [.ref 82, .int l1, .null, .null] [] F (RU res) := by
  unfold fX7_stepOn_b41 at h
  refine V_aload_n dX7_stepOn_41 rfl rfl rfl ?_
  refine F_getR dX7_stepOn_42 fl_X7_7 ly_82 rfl rfl ?_
  refine V_iload_n dX7_stepOn_45 rfl rfl rfl ?_
  refine V_bipush dX7_stepOn_46 cb_26 rfl ?_
  refine V_iadd dX7_stepOn_48 rfl ?_
  refine V_dup2 dX7_stepOn_49 rfl rfl rfl ?_
  refine A_ld0 dX7_stepOn_50 rfl h fun v1 h => ?_
  refine V_iconst dX7_stepOn_51 ci_1 rfl ?_
  refine V_iadd dX7_stepOn_52 rfl ?_
  refine A_st0 dX7_stepOn_53 rfl h fun F1 h => ?_
  exact A_return dX7_stepOn_54 rfl h
theorem okX7_stepOn {N d : Nat} {l1 : Int32} {l2 : Int32} {F : FF} {res : Unit × FF} (h : fX7_stepOn N l1 l2 F = some res) : FV cX7_stepOn 4 RX7 (d + 2) none none 0 [.ref 82, .int l1, .int l2, .null] [] F (RU res) := by
  unfold fX7_stepOn at h
  refine V_aload_n dX7_stepOn_0 rfl rfl rfl ?_
  refine V_iload_n dX7_stepOn_1 rfl rfl rfl ?_
  refine A_callC (ci := 7) eI dX7_stepOn_2 cl_X7_156 (by decide) rfl rfl (As := [.int l1]) (st := []) rfl rfl (Nat.le_of_ble_eq_true rfl) rfl h (fun _ _ h => cp_X7_turnOn (d := d + 1) h) fun v1 F1 h => ?_
  refine V_istore_n dX7_stepOn_5 rfl (by decide) rfl (ls' := [.ref 82, .int l1, .int l2, .int v1]) rfl rfl ?_
  refine V_iload_n dX7_stepOn_6 rfl rfl rfl ?_
  refine V_bipush dX7_stepOn_7 cb_m4 rfl ?_
  refine A_icmp_eq dX7_stepOn_9 rfl rfl h (fun h => ?_) (fun h => ?_)
  · refine V_weak [true, true, false, false] rfl ?_
    exact okX7_stepOn_b41 h
  · refine V_iload_n dX7_stepOn_12 rfl rfl rfl ?_
    refine V_aload_n dX7_stepOn_13 rfl rfl rfl ?_
    refine F_getI dX7_stepOn_14 fl_X7_32 ly_82 rfl rfl ?_
    refine A_icmp_eq dX7_stepOn_17 rfl rfl h (fun h => ?_) (fun h => ?_)
    · refine V_weak [true, true, false, false] rfl ?_
      exact okX7_stepOn_b41 h
    · refine V_iload_n dX7_stepOn_20 rfl rfl rfl ?_
      refine A_if_ne dX7_stepOn_21 rfl rfl h (fun h => ?_) (fun h => ?_)
      · refine V_weak [true, true, false, false] rfl ?_
        exact okX7_stepOn_b41 h
      · refine V_aload_n dX7_stepOn_24 rfl rfl rfl ?_
        refine V_iload_n dX7_stepOn_25 rfl rfl rfl ?_
        refine V_aload_n dX7_stepOn_26 rfl rfl rfl ?_
        refine F_getR dX7_stepOn_27 fl_X7_7 ly_82 rfl rfl ?_
        refine V_iload_n dX7_stepOn_30 rfl rfl rfl ?_
        refine V_bipush dX7_stepOn_31 cb_9 rfl ?_
        refine V_iadd dX7_stepOn_33 rfl ?_
        refine V_iload_n dX7_stepOn_34 rfl rfl rfl ?_
        refine V_iadd dX7_stepOn_35 rfl ?_
        refine A_ld0 dX7_stepOn_36 rfl h fun v2 h => ?_
        refine A_callC (ci := 7) eI dX7_stepOn_37 cl_X7_159 (by decide) rfl rfl (As := [.int l1, .int v2]) (st := []) rfl rfl (Nat.le_of_ble_eq_true rfl) rfl h (fun _ _ h => cp_X7_asksOn (d := d) h) fun v3 F2 h => ?_
        refine V_pop dX7_stepOn_40 rfl rfl ?_
        refine V_weak [true, true, false, false] rfl ?_
        exact okX7_stepOn_b41 h
theorem cp_X7_stepOn {N d : Nat} {l1 : Int32} {l2 : Int32} {F F' : FF} {r : Unit} (h : fX7_stepOn N l1 l2 F = some (r, F')) : CP (d + 2) mX7_stepOn [.ref 82, .int l1, .int l2] F (fun r' F'' => r' = eU r ∧ F'' = F') := CP_U rfl (Nat.le_of_ble_eq_true rfl) (okX7_stepOn h)
theorem okX7_paidAll_L4 {N d : Nat} {res : Int32 × FF} : ∀ (n : Nat) (l1 : Int32) (l2 : Int32) (F : FF), fX7_paidAll_L4 N n l1 l2 F = some res → FV cX7_paidAll 3 RX7 (d) (some .int) none 4 [.ref 82, .int l1, .int l2] [] F (RI res) := by
  intro n
  induction n with
  | zero =>
    intro l1 l2 F h
    rw [fX7_paidAll_L4.eq_1] at h
    cases h
  | succ n ih =>
    intro l1 l2 F h
    rw [fX7_paidAll_L4.eq_2] at h
    refine V_iload_n dX7_paidAll_4 rfl rfl rfl ?_
    refine V_iconst dX7_paidAll_5 ci_4 rfl ?_
    refine A_icmp_ge dX7_paidAll_6 rfl rfl h (fun h => ?_) (fun h => ?_)
    · refine V_iload_n dX7_paidAll_24 rfl rfl rfl ?_
      exact A_ireturn dX7_paidAll_25 rfl h
    · refine V_iload_n dX7_paidAll_9 rfl rfl rfl ?_
      refine V_aload_n dX7_paidAll_10 rfl rfl rfl ?_
      refine F_getR dX7_paidAll_11 fl_X7_29 ly_82 rfl rfl ?_
      refine V_iload_n dX7_paidAll_14 rfl rfl rfl ?_
      refine A_ld0 dX7_paidAll_15 rfl h fun v1 h => ?_
      refine V_iadd dX7_paidAll_16 rfl ?_
      refine V_istore_n dX7_paidAll_17 rfl (by decide) rfl (ls' := [.ref 82, .int (l1 + v1), .int l2]) rfl rfl ?_
      refine V_iinc dX7_paidAll_18 (v := l2 + 1) rfl (by rw [ci_1]) rfl (ls' := [.ref 82, .int (l1 + v1), .int (l2 + 1)]) rfl rfl ?_
      refine V_goto dX7_paidAll_21 rfl ?_
      exact ih (l1 + v1) (l2 + 1) F h
theorem okX7_paidAll {N d : Nat} {F : FF} {res : Int32 × FF} (h : fX7_paidAll N F = some res) : FV cX7_paidAll 3 RX7 (d) (some .int) none 0 [.ref 82, .null, .null] [] F (RI res) := by
  unfold fX7_paidAll at h
  refine V_iconst dX7_paidAll_0 ci_0 rfl ?_
  refine V_istore_n dX7_paidAll_1 rfl (by decide) rfl (ls' := [.ref 82, .int 0, .null]) rfl rfl ?_
  refine V_iconst dX7_paidAll_2 ci_0 rfl ?_
  refine V_istore_n dX7_paidAll_3 rfl (by decide) rfl (ls' := [.ref 82, .int 0, .int 0]) rfl rfl ?_
  exact okX7_paidAll_L4 _ _ _ _ h
theorem cp_X7_paidAll {N d : Nat} {F F' : FF} {r : Int32} (h : fX7_paidAll N F = some (r, F')) : CP (d) mX7_paidAll [.ref 82] F (fun r' F'' => r' = eI r ∧ F'' = F') := CP_I rfl (Nat.le_of_ble_eq_true rfl) (okX7_paidAll h)
theorem okX7_steps_L38 {N d : Nat} {l1 : Int32} {res : Int32 × FF} : ∀ (n : Nat) (l2 : Int32) (F : FF), fX7_steps_L38 N l1 n l2 F = some res → FV cX7_steps 3 RX7 (d + 3) (some .int) none 38 [.ref 82, .int l1, .int l2] [] F (RI res) := by
  intro n
  induction n with
  | zero =>
    intro l2 F h
    rw [fX7_steps_L38.eq_1] at h
    cases h
  | succ n ih =>
    intro l2 F h
    rw [fX7_steps_L38.eq_2] at h
    refine V_iload_n dX7_steps_38 rfl rfl rfl ?_
    refine V_iload_n dX7_steps_39 rfl rfl rfl ?_
    refine A_icmp_ge dX7_steps_40 rfl rfl h (fun h => ?_) (fun h => ?_)
    · refine V_aload_n dX7_steps_55 rfl rfl rfl ?_
      refine A_callC (ci := 7) eI dX7_steps_56 cl_X7_190 (by decide) rfl rfl (As := []) (st := []) rfl rfl (Nat.le_of_ble_eq_true rfl) rfl h (fun _ _ h => cp_X7_paidAll (d := d + 2) h) fun v1 F1 h => ?_
      exact A_ireturn dX7_steps_59 rfl h
    · refine V_aload_n dX7_steps_43 rfl rfl rfl ?_
      refine V_iconst dX7_steps_44 ci_0 rfl ?_
      refine V_iconst dX7_steps_45 ci_0 rfl ?_
      refine A_callC (ci := 7) eU dX7_steps_46 cl_X7_186 (by decide) rfl rfl (As := [.int 0, .int 0]) (st := []) rfl rfl (Nat.le_of_ble_eq_true rfl) rfl h (fun _ _ h => cp_X7_stepOn (d := d) h) fun _ F2 h => ?_
      refine V_iinc dX7_steps_49 (v := l2 + 1) rfl (by rw [ci_1]) rfl (ls' := [.ref 82, .int l1, .int (l2 + 1)]) rfl rfl ?_
      refine V_goto dX7_steps_52 rfl ?_
      exact ih (l2 + 1) F2 h
theorem okX7_steps {N d : Nat} {l1 : Int32} {F : FF} {res : Int32 × FF} (h : fX7_steps N l1 F = some res) : FV cX7_steps 3 RX7 (d + 3) (some .int) none 0 [.ref 82, .int l1, .null] [] F (RI res) := by
  unfold fX7_steps at h
  refine V_iload_n dX7_steps_0 rfl rfl rfl ?_
  refine V_i2l dX7_steps_1 rfl ?_
  refine V_lconst dX7_steps_2 cl_0 rfl ?_
  refine V_ldc2 dX7_steps_3 kc_X7_181 rfl ?_
  refine P_callS dX7_steps_6 cl_X7_56 (cq_X7_in (d := d + 2)) (As := [.long l1.toInt64, .long 0, .long 100]) (st := []) rfl rfl (Nat.le_of_ble_eq_true rfl) rfl ?_
  refine A_if_ne dX7_steps_9 rfl rfl h (fun h => ?_) (fun h => ?_)
  · refine V_aload_n dX7_steps_14 rfl rfl rfl ?_
    refine F_getR dX7_steps_15 fl_X7_7 ly_82 rfl rfl ?_
    refine V_bipush dX7_steps_18 cb_26 rfl ?_
    refine F_iald dX7_steps_20 ly_83 (j := 26) (by decide) (by decide) (by decide) rfl ?_
    refine V_iload_n dX7_steps_21 rfl rfl rfl ?_
    refine V_iadd dX7_steps_22 rfl ?_
    refine V_sipush dX7_steps_23 cs_9999 rfl ?_
    refine A_icmp_le dX7_steps_26 rfl rfl h (fun h => ?_) (fun h => ?_)
    · refine V_aload_n dX7_steps_32 rfl rfl rfl ?_
      refine A_callC (ci := 7) eU dX7_steps_33 cl_X7_183 (by decide) rfl rfl (As := []) (st := []) rfl rfl (Nat.le_of_ble_eq_true rfl) rfl h (fun _ _ h => cp_X7_starts (d := d + 2) h) fun _ F1 h => ?_
      refine V_iconst dX7_steps_36 ci_0 rfl ?_
      refine V_istore_n dX7_steps_37 rfl (by decide) rfl (ls' := [.ref 82, .int l1, .int 0]) rfl rfl ?_
      exact okX7_steps_L38 _ _ _ h
    · refine V_bipush dX7_steps_29 cb_m3 rfl ?_
      exact A_ireturn dX7_steps_31 rfl h
  · refine V_iconst dX7_steps_12 ci_m1 rfl ?_
    exact A_ireturn dX7_steps_13 rfl h
theorem cp_X7_steps {N d : Nat} {l1 : Int32} {F F' : FF} {r : Int32} (h : fX7_steps N l1 F = some (r, F')) : CP (d + 3) mX7_steps [.ref 82, .int l1] F (fun r' F'' => r' = eI r ∧ F'' = F') := CP_I rfl (Nat.le_of_ble_eq_true rfl) (okX7_steps h)
theorem okX7_copies_L2 {N d : Nat} {l1 : Int32} {l2 : Int32} {res : Unit × FF} : ∀ (n : Nat) (l3 : Int32) (F : FF), fX7_copies_L2 N l1 l2 n l3 F = some res → FV cX7_copies 4 RX7 (d) none none 2 [.ref 82, .int l1, .int l2, .int l3] [] F (RU res) := by
  intro n
  induction n with
  | zero =>
    intro l3 F h
    rw [fX7_copies_L2.eq_1] at h
    cases h
  | succ n ih =>
    intro l3 F h
    rw [fX7_copies_L2.eq_2] at h
    refine V_iload_n dX7_copies_2 rfl rfl rfl ?_
    refine V_bipush dX7_copies_3 cb_75 rfl ?_
    refine A_icmp_ge dX7_copies_5 rfl rfl h (fun h => ?_) (fun h => ?_)
    · exact A_return dX7_copies_30 rfl h
    · refine V_aload_n dX7_copies_8 rfl rfl rfl ?_
      refine F_getR dX7_copies_9 fl_X7_7 ly_82 rfl rfl ?_
      refine V_iload_n dX7_copies_12 rfl rfl rfl ?_
      refine V_iload_n dX7_copies_13 rfl rfl rfl ?_
      refine V_iadd dX7_copies_14 rfl ?_
      refine V_aload_n dX7_copies_15 rfl rfl rfl ?_
      refine F_getR dX7_copies_16 fl_X7_7 ly_82 rfl rfl ?_
      refine V_iload_n dX7_copies_19 rfl rfl rfl ?_
      refine V_iload_n dX7_copies_20 rfl rfl rfl ?_
      refine V_iadd dX7_copies_21 rfl ?_
      refine A_ld0 dX7_copies_22 rfl h fun v1 h => ?_
      refine A_st0 dX7_copies_23 rfl h fun F1 h => ?_
      refine V_iinc dX7_copies_24 (v := l3 + 1) rfl (by rw [ci_1]) rfl (ls' := [.ref 82, .int l1, .int l2, .int (l3 + 1)]) rfl rfl ?_
      refine V_goto dX7_copies_27 rfl ?_
      exact ih (l3 + 1) F1 h
theorem okX7_copies {N d : Nat} {l1 : Int32} {l2 : Int32} {F : FF} {res : Unit × FF} (h : fX7_copies N l1 l2 F = some res) : FV cX7_copies 4 RX7 (d) none none 0 [.ref 82, .int l1, .int l2, .null] [] F (RU res) := by
  unfold fX7_copies at h
  refine V_iconst dX7_copies_0 ci_0 rfl ?_
  refine V_istore_n dX7_copies_1 rfl (by decide) rfl (ls' := [.ref 82, .int l1, .int l2, .int 0]) rfl rfl ?_
  exact okX7_copies_L2 _ _ _ h
theorem cp_X7_copies {N d : Nat} {l1 : Int32} {l2 : Int32} {F F' : FF} {r : Unit} (h : fX7_copies N l1 l2 F = some (r, F')) : CP (d) mX7_copies [.ref 82, .int l1, .int l2] F (fun r' F'' => r' = eU r ∧ F'' = F') := CP_U rfl (Nat.le_of_ble_eq_true rfl) (okX7_copies h)
theorem okX7_stepsGo_L14 {N d : Nat} {l2 : Int32} {res : Int32 × FF} : ∀ (n : Nat) (l3 : Int32) (F : FF), fX7_stepsGo_L14 N l2 n l3 F = some res → FV cX7_stepsGo 4 RX7 (d + 3) (some .int) none 14 [.ref 82, .null, .int l2, .int l3] [] F (RI res) := by
  intro n
  induction n with
  | zero =>
    intro l3 F h
    rw [fX7_stepsGo_L14.eq_1] at h
    cases h
  | succ n ih =>
    intro l3 F h
    rw [fX7_stepsGo_L14.eq_2] at h
    refine V_iload_n dX7_stepsGo_14 rfl rfl rfl ?_
    refine V_iload_n dX7_stepsGo_15 rfl rfl rfl ?_
    refine A_icmp_ge dX7_stepsGo_16 rfl rfl h (fun h => ?_) (fun h => ?_)
    · refine V_aload_n dX7_stepsGo_33 rfl rfl rfl ?_
      refine A_callC (ci := 7) eI dX7_stepsGo_34 cl_X7_190 (by decide) rfl rfl (As := []) (st := []) rfl rfl (Nat.le_of_ble_eq_true rfl) rfl h (fun _ _ h => cp_X7_paidAll (d := d + 2) h) fun v1 F1 h => ?_
      exact A_ireturn dX7_stepsGo_37 rfl h
    · refine V_aload_n dX7_stepsGo_19 rfl rfl rfl ?_
      refine V_sipush dX7_stepsGo_20 cs_300 rfl ?_
      refine V_iconst dX7_stepsGo_23 ci_0 rfl ?_
      refine A_callC (ci := 7) eU dX7_stepsGo_24 cl_X7_186 (by decide) rfl rfl (As := [.int 300, .int 0]) (st := []) rfl rfl (Nat.le_of_ble_eq_true rfl) rfl h (fun _ _ h => cp_X7_stepOn (d := d) h) fun _ F2 h => ?_
      refine V_iinc dX7_stepsGo_27 (v := l3 + 1) rfl (by rw [ci_1]) rfl (ls' := [.ref 82, .null, .int l2, .int (l3 + 1)]) rfl rfl ?_
      refine V_goto dX7_stepsGo_30 rfl ?_
      exact ih (l3 + 1) F2 h
theorem okX7_stepsGo {N d : Nat} {l1 : Int32} {l2 : Int32} {F : FF} {res : Int32 × FF} (h : fX7_stepsGo N l1 l2 F = some res) : FV cX7_stepsGo 4 RX7 (d + 3) (some .int) none 0 [.ref 82, .int l1, .int l2, .null] [] F (RI res) := by
  unfold fX7_stepsGo at h
  refine V_aload_n dX7_stepsGo_0 rfl rfl rfl ?_
  refine V_iload_n dX7_stepsGo_1 rfl rfl rfl ?_
  refine V_sipush dX7_stepsGo_2 cs_300 rfl ?_
  refine A_callC (ci := 7) eU dX7_stepsGo_5 cl_X7_193 (by decide) rfl rfl (As := [.int l1, .int 300]) (st := []) rfl rfl (Nat.le_of_ble_eq_true rfl) rfl h (fun _ _ h => cp_X7_copies (d := d + 2) h) fun _ F1 h => ?_
  refine V_aload_n dX7_stepsGo_8 rfl rfl rfl ?_
  refine A_callC (ci := 7) eU dX7_stepsGo_9 cl_X7_183 (by decide) rfl rfl (As := []) (st := []) rfl rfl (Nat.le_of_ble_eq_true rfl) rfl h (fun _ _ h => cp_X7_starts (d := d + 2) h) fun _ F2 h => ?_
  refine V_iconst dX7_stepsGo_12 ci_0 rfl ?_
  refine V_istore_n dX7_stepsGo_13 rfl (by decide) rfl (ls' := [.ref 82, .int l1, .int l2, .int 0]) rfl rfl ?_
  refine V_weak [true, false, true, true] rfl ?_
  exact okX7_stepsGo_L14 _ _ _ h
theorem cp_X7_stepsGo {N d : Nat} {l1 : Int32} {l2 : Int32} {F F' : FF} {r : Int32} (h : fX7_stepsGo N l1 l2 F = some (r, F')) : CP (d + 3) mX7_stepsGo [.ref 82, .int l1, .int l2] F (fun r' F'' => r' = eI r ∧ F'' = F') := CP_I rfl (Nat.le_of_ble_eq_true rfl) (okX7_stepsGo h)
theorem okX7_cheapest_b42 {N d : Nat} {k5 : Int32 → Int32 → FF → Option (Int32 × FF)} {l2 : Int32} {s0 : Int32} {F : FF} {res : Int32 × FF} (hk5 : ∀ (x1 : Int32) (x2 : Int32) (F : FF), k5 x1 x2 F = some res → FV cX7_cheapest 3 RX7 (d) (some .int) none 5 [.ref 82, .int x1, .int x2] [] F (RI res)) (h : fX7_cheapest_b42 N k5 l2 s0 F = some res) : FV cX7_cheapest 3 RX7 (d) (some .int) none 42 [.ref 82, .null, .int l2] [.int s0] F (RI res) := by
  unfold fX7_cheapest_b42 at h
  refine V_istore_n dX7_cheapest_42 rfl (by decide) rfl (ls' := [.ref 82, .int s0, .int l2]) rfl rfl ?_
  refine V_iinc dX7_cheapest_43 (v := l2 + 1) rfl (by rw [ci_1]) rfl (ls' := [.ref 82, .int s0, .int (l2 + 1)]) rfl rfl ?_
  refine V_goto dX7_cheapest_46 rfl ?_
  exact hk5 s0 (l2 + 1) F h
theorem okX7_cheapest_b37 {N d : Nat} {k5 : Int32 → Int32 → FF → Option (Int32 × FF)} {l2 : Int32} {F : FF} {res : Int32 × FF} (hk5 : ∀ (x1 : Int32) (x2 : Int32) (F : FF), k5 x1 x2 F = some res → FV cX7_cheapest 3 RX7 (d) (some .int) none 5 [.ref 82, .int x1, .int x2] [] F (RI res)) (h : fX7_cheapest_b37 N k5 l2 F = some res) : FV cX7_cheapest 3 RX7 (d) (some .int) none 37 [.ref 82, .null, .int l2] [] F (RI res) := by
  unfold fX7_cheapest_b37 at h
  refine V_iload_n dX7_cheapest_37 rfl rfl rfl ?_
  refine V_goto dX7_cheapest_38 rfl ?_
  exact okX7_cheapest_b42 hk5 h
theorem okX7_cheapest_L5 {N d : Nat} {res : Int32 × FF} : ∀ (n : Nat) (l1 : Int32) (l2 : Int32) (F : FF), fX7_cheapest_L5 N n l1 l2 F = some res → FV cX7_cheapest 3 RX7 (d) (some .int) none 5 [.ref 82, .int l1, .int l2] [] F (RI res) := by
  intro n
  induction n with
  | zero =>
    intro l1 l2 F h
    rw [fX7_cheapest_L5.eq_1] at h
    cases h
  | succ n ih =>
    intro l1 l2 F h
    rw [fX7_cheapest_L5.eq_2] at h
    refine V_iload_n dX7_cheapest_5 rfl rfl rfl ?_
    refine V_aload_n dX7_cheapest_6 rfl rfl rfl ?_
    refine F_getR dX7_cheapest_7 fl_X7_7 ly_82 rfl rfl ?_
    refine V_bipush dX7_cheapest_10 cb_8 rfl ?_
    refine F_iald dX7_cheapest_12 ly_83 (j := 8) (by decide) (by decide) (by decide) rfl ?_
    refine A_icmp_ge dX7_cheapest_13 rfl rfl h (fun h => ?_) (fun h => ?_)
    · refine V_iload_n dX7_cheapest_49 rfl rfl rfl ?_
      exact A_ireturn dX7_cheapest_50 rfl h
    · refine V_iload_n dX7_cheapest_16 rfl rfl rfl ?_
      refine V_bipush dX7_cheapest_17 cb_m4 rfl ?_
      refine A_icmp_eq dX7_cheapest_19 rfl rfl h (fun h => ?_) (fun h => ?_)
      · refine V_weak [true, false, true] rfl ?_
        exact okX7_cheapest_b37 (fun x1 x2 F h => ih x1 x2 F h) h
      · refine V_aload_n dX7_cheapest_22 rfl rfl rfl ?_
        refine F_getR dX7_cheapest_23 fl_X7_29 ly_82 rfl rfl ?_
        refine V_iload_n dX7_cheapest_26 rfl rfl rfl ?_
        refine A_ld0 dX7_cheapest_27 rfl h fun v1 h => ?_
        refine V_aload_n dX7_cheapest_28 rfl rfl rfl ?_
        refine F_getR dX7_cheapest_29 fl_X7_29 ly_82 rfl rfl ?_
        refine V_iload_n dX7_cheapest_32 rfl rfl rfl ?_
        refine A_ld0 dX7_cheapest_33 rfl h fun v2 h => ?_
        refine V_midI (q := 42) ((if v2 ≤ v1 then l1 else l2 : Int32)) [] (fun yJ hy hJ => ?_) ?_
        · refine V_icmp_ge dX7_cheapest_34 rfl rfl (fun c => ?_) (fun c => ?_)
          · rw [if_pos c] at hy
            refine V_iload_n dX7_cheapest_41 rfl rfl rfl ?_
            rw [hy] at hJ
            exact hJ
          · rw [if_neg c] at hy
            refine V_iload_n dX7_cheapest_37 rfl rfl rfl ?_
            refine V_goto dX7_cheapest_38 rfl ?_
            rw [hy] at hJ
            exact hJ
        · refine V_istore_n dX7_cheapest_42 rfl (by decide) rfl (ls' := [.ref 82, .int ((if v2 ≤ v1 then l1 else l2 : Int32)), .int l2]) rfl rfl ?_
          refine V_iinc dX7_cheapest_43 (v := l2 + 1) rfl (by rw [ci_1]) rfl (ls' := [.ref 82, .int ((if v2 ≤ v1 then l1 else l2 : Int32)), .int (l2 + 1)]) rfl rfl ?_
          refine V_goto dX7_cheapest_46 rfl ?_
          exact ih ((if v2 ≤ v1 then l1 else l2 : Int32)) (l2 + 1) F h
theorem okX7_cheapest {N d : Nat} {F : FF} {res : Int32 × FF} (h : fX7_cheapest N F = some res) : FV cX7_cheapest 3 RX7 (d) (some .int) none 0 [.ref 82, .null, .null] [] F (RI res) := by
  unfold fX7_cheapest at h
  refine V_bipush dX7_cheapest_0 cb_m4 rfl ?_
  refine V_istore_n dX7_cheapest_2 rfl (by decide) rfl (ls' := [.ref 82, .int ((-4)), .null]) rfl rfl ?_
  refine V_iconst dX7_cheapest_3 ci_0 rfl ?_
  refine V_istore_n dX7_cheapest_4 rfl (by decide) rfl (ls' := [.ref 82, .int ((-4)), .int 0]) rfl rfl ?_
  exact okX7_cheapest_L5 _ _ _ _ h
theorem cp_X7_cheapest {N d : Nat} {F F' : FF} {r : Int32} (h : fX7_cheapest N F = some (r, F')) : CP (d) mX7_cheapest [.ref 82] F (fun r' F'' => r' = eI r ∧ F'' = F') := CP_I rfl (Nat.le_of_ble_eq_true rfl) (okX7_cheapest h)
theorem okX7_runs {N d : Nat} {l1 : Int32} {l2 : Int32} {F : FF} {res : Int32 × FF} (h : fX7_runs N l1 l2 F = some res) : FV cX7_runs 4 RX7 (d + 4) (some .int) none 0 [.ref 82, .int l1, .int l2, .null] [] F (RI res) := by
  unfold fX7_runs at h
  refine V_iload_n dX7_runs_0 rfl rfl rfl ?_
  refine V_i2l dX7_runs_1 rfl ?_
  refine V_lconst dX7_runs_2 cl_0 rfl ?_
  refine V_ldc2 dX7_runs_3 kc_X7_197 rfl ?_
  refine P_callS dX7_runs_6 cl_X7_56 (cq_X7_in (d := d + 3)) (As := [.long l1.toInt64, .long 0, .long 200]) (st := []) rfl rfl (Nat.le_of_ble_eq_true rfl) rfl ?_
  refine A_if_eq dX7_runs_9 rfl rfl h (fun h => ?_) (fun h => ?_)
  · refine V_iconst dX7_runs_24 ci_m1 rfl ?_
    exact A_ireturn dX7_runs_25 rfl h
  · refine V_iload_n dX7_runs_12 rfl rfl rfl ?_
    refine V_i2l dX7_runs_13 rfl ?_
    refine V_lconst dX7_runs_14 cl_0 rfl ?_
    refine V_ldc2 dX7_runs_15 kc_X7_172 rfl ?_
    refine P_callS dX7_runs_18 cl_X7_56 (cq_X7_in (d := d + 3)) (As := [.long l2.toInt64, .long 0, .long 3]) (st := []) rfl rfl (Nat.le_of_ble_eq_true rfl) rfl ?_
    refine A_if_ne dX7_runs_21 rfl rfl h (fun h => ?_) (fun h => ?_)
    · refine V_aload_n dX7_runs_26 rfl rfl rfl ?_
      refine V_iconst dX7_runs_27 ci_0 rfl ?_
      refine V_iload_n dX7_runs_28 rfl rfl rfl ?_
      refine A_callC (ci := 7) eI dX7_runs_29 cl_X7_199 (by decide) rfl rfl (As := [.int 0, .int l1]) (st := []) rfl rfl (Nat.le_of_ble_eq_true rfl) rfl h (fun _ _ h => cp_X7_stepsGo (d := d) h) fun v1 F1 h => ?_
      refine V_istore_n dX7_runs_32 rfl (by decide) rfl (ls' := [.ref 82, .int l1, .int l2, .int v1]) rfl rfl ?_
      refine V_iload_n dX7_runs_33 rfl rfl rfl ?_
      refine A_if_ne dX7_runs_34 rfl rfl h (fun h => ?_) (fun h => ?_)
      · refine V_iload_n dX7_runs_41 rfl rfl rfl ?_
        refine V_iconst dX7_runs_42 ci_1 rfl ?_
        refine A_icmp_ne dX7_runs_43 rfl rfl h (fun h => ?_) (fun h => ?_)
        · refine V_iload_n dX7_runs_53 rfl rfl rfl ?_
          refine V_iconst dX7_runs_54 ci_2 rfl ?_
          refine V_midI (q := 69) ((if ¬ l2 = 2 then (F1 82 19) else (F1 82 18) : Int32)) [] (fun yJ hy hJ => ?_) ?_
          · refine V_icmp_ne dX7_runs_55 rfl rfl (fun c => ?_) (fun c => ?_)
            · rw [if_pos c] at hy
              refine V_aload_n dX7_runs_65 rfl rfl rfl ?_
              refine F_getI dX7_runs_66 fl_X7_141 ly_82 rfl rfl ?_
              rw [hy] at hJ
              exact hJ
            · rw [if_neg (fun z => z c)] at hy
              refine V_aload_n dX7_runs_58 rfl rfl rfl ?_
              refine F_getI dX7_runs_59 fl_X7_138 ly_82 rfl rfl ?_
              refine V_goto dX7_runs_62 rfl ?_
              rw [hy] at hJ
              exact hJ
          · exact A_ireturn dX7_runs_69 rfl h
        · refine V_aload_n dX7_runs_46 rfl rfl rfl ?_
          refine A_callC (ci := 7) eI dX7_runs_47 cl_X7_202 (by decide) rfl rfl (As := []) (st := []) rfl rfl (Nat.le_of_ble_eq_true rfl) rfl h (fun _ _ h => cp_X7_cheapest (d := d + 3) h) fun v2 F2 h => ?_
          refine V_goto dX7_runs_50 rfl ?_
          exact A_ireturn dX7_runs_69 rfl h
      · refine V_iload_n dX7_runs_37 rfl rfl rfl ?_
        refine V_goto dX7_runs_38 rfl ?_
        exact A_ireturn dX7_runs_69 rfl h
    · refine V_iconst dX7_runs_24 ci_m1 rfl ?_
      exact A_ireturn dX7_runs_25 rfl h
theorem cp_X7_runs {N d : Nat} {l1 : Int32} {l2 : Int32} {F F' : FF} {r : Int32} (h : fX7_runs N l1 l2 F = some (r, F')) : CP (d + 4) mX7_runs [.ref 82, .int l1, .int l2] F (fun r' F'' => r' = eI r ∧ F'' = F') := CP_I rfl (Nat.le_of_ble_eq_true rfl) (okX7_runs h)
theorem okX7_paid {N d : Nat} {l1 : Int32} {l2 : Int32} {F : FF} {res : Int32 × FF} (h : fX7_paid N l1 l2 F = some res) : FV cX7_paid 3 RX7 (d + 4) (some .int) none 0 [.ref 82, .int l1, .int l2] [] F (RI res) := by
  unfold fX7_paid at h
  refine V_aload_n dX7_paid_0 rfl rfl rfl ?_
  refine V_iload_n dX7_paid_1 rfl rfl rfl ?_
  refine A_callC (ci := 7) eI dX7_paid_2 cl_X7_162 (by decide) rfl rfl (As := [.int l1]) (st := []) rfl rfl (Nat.le_of_ble_eq_true rfl) rfl h (fun _ _ h => cp_X7_isShelf (d := d + 2) h) fun v1 F1 h => ?_
  refine A_if_eq dX7_paid_5 rfl rfl h (fun h => ?_) (fun h => ?_)
  · refine V_iconst dX7_paid_20 ci_m1 rfl ?_
    exact A_ireturn dX7_paid_21 rfl h
  · refine V_iload_n dX7_paid_8 rfl rfl rfl ?_
    refine V_i2l dX7_paid_9 rfl ?_
    refine V_lconst dX7_paid_10 cl_0 rfl ?_
    refine V_ldc2 dX7_paid_11 kc_X7_197 rfl ?_
    refine P_callS dX7_paid_14 cl_X7_56 (cq_X7_in (d := d + 3)) (As := [.long l2.toInt64, .long 0, .long 200]) (st := []) rfl rfl (Nat.le_of_ble_eq_true rfl) rfl ?_
    refine A_if_ne dX7_paid_17 rfl rfl h (fun h => ?_) (fun h => ?_)
    · refine V_aload_n dX7_paid_22 rfl rfl rfl ?_
      refine V_iconst dX7_paid_23 ci_0 rfl ?_
      refine V_iload_n dX7_paid_24 rfl rfl rfl ?_
      refine A_callC (ci := 7) eI dX7_paid_25 cl_X7_199 (by decide) rfl rfl (As := [.int 0, .int l2]) (st := []) rfl rfl (Nat.le_of_ble_eq_true rfl) rfl h (fun _ _ h => cp_X7_stepsGo (d := d) h) fun v2 F2 h => ?_
      refine V_pop dX7_paid_28 rfl rfl ?_
      refine V_aload_n dX7_paid_29 rfl rfl rfl ?_
      refine F_getR dX7_paid_30 fl_X7_29 ly_82 rfl rfl ?_
      refine V_iload_n dX7_paid_33 rfl rfl rfl ?_
      refine A_ld0 dX7_paid_34 rfl h fun v3 h => ?_
      exact A_ireturn dX7_paid_35 rfl h
    · refine V_iconst dX7_paid_20 ci_m1 rfl ?_
      exact A_ireturn dX7_paid_21 rfl h
theorem cp_X7_paid {N d : Nat} {l1 : Int32} {l2 : Int32} {F F' : FF} {r : Int32} (h : fX7_paid N l1 l2 F = some (r, F')) : CP (d + 4) mX7_paid [.ref 82, .int l1, .int l2] F (fun r' F'' => r' = eI r ∧ F'' = F') := CP_I rfl (Nat.le_of_ble_eq_true rfl) (okX7_paid h)
theorem okX7_ahead {N d : Nat} {l1 : Int32} {l2 : Int32} {l3 : Int32} {F : FF} {res : Int32 × FF} (h : fX7_ahead N l1 l2 l3 F = some res) : FV cX7_ahead 4 RX7 (d + 4) (some .int) none 0 [.ref 82, .int l1, .int l2, .int l3] [] F (RI res) := by
  unfold fX7_ahead at h
  refine V_aload_n dX7_ahead_0 rfl rfl rfl ?_
  refine V_iload_n dX7_ahead_1 rfl rfl rfl ?_
  refine A_callC (ci := 7) eI dX7_ahead_2 cl_X7_162 (by decide) rfl rfl (As := [.int l1]) (st := []) rfl rfl (Nat.le_of_ble_eq_true rfl) rfl h (fun _ _ h => cp_X7_isShelf (d := d + 2) h) fun v1 F1 h => ?_
  refine A_if_eq dX7_ahead_5 rfl rfl h (fun h => ?_) (fun h => ?_)
  · refine V_iconst dX7_ahead_28 ci_m1 rfl ?_
    exact A_ireturn dX7_ahead_29 rfl h
  · refine V_iload_n dX7_ahead_8 rfl rfl rfl ?_
    refine V_i2l dX7_ahead_9 rfl ?_
    refine V_lconst dX7_ahead_10 cl_0 rfl ?_
    refine V_ldc2 dX7_ahead_11 kc_X7_197 rfl ?_
    refine P_callS dX7_ahead_14 cl_X7_56 (cq_X7_in (d := d + 3)) (As := [.long l2.toInt64, .long 0, .long 200]) (st := []) rfl rfl (Nat.le_of_ble_eq_true rfl) rfl ?_
    refine A_if_eq dX7_ahead_17 rfl rfl h (fun h => ?_) (fun h => ?_)
    · refine V_iconst dX7_ahead_28 ci_m1 rfl ?_
      exact A_ireturn dX7_ahead_29 rfl h
    · refine V_aload_n dX7_ahead_20 rfl rfl rfl ?_
      refine V_iload_n dX7_ahead_21 rfl rfl rfl ?_
      refine A_callC (ci := 7) eI dX7_ahead_22 cl_X7_166 (by decide) rfl rfl (As := [.int l3]) (st := []) rfl rfl (Nat.le_of_ble_eq_true rfl) rfl h (fun _ _ h => cp_X7_isBook (d := d + 2) h) fun v2 F2 h => ?_
      refine A_if_ne dX7_ahead_25 rfl rfl h (fun h => ?_) (fun h => ?_)
      · refine V_aload_n dX7_ahead_30 rfl rfl rfl ?_
        refine V_iconst dX7_ahead_31 ci_0 rfl ?_
        refine V_iload_n dX7_ahead_32 rfl rfl rfl ?_
        refine A_callC (ci := 7) eI dX7_ahead_33 cl_X7_199 (by decide) rfl rfl (As := [.int 0, .int l2]) (st := []) rfl rfl (Nat.le_of_ble_eq_true rfl) rfl h (fun _ _ h => cp_X7_stepsGo (d := d) h) fun v3 F3 h => ?_
        refine V_pop dX7_ahead_36 rfl rfl ?_
        refine V_aload_n dX7_ahead_37 rfl rfl rfl ?_
        refine F_getR dX7_ahead_38 fl_X7_7 ly_82 rfl rfl ?_
        refine V_sipush dX7_ahead_41 cs_327 rfl ?_
        refine V_bipush dX7_ahead_44 cb_6 rfl ?_
        refine V_iload_n dX7_ahead_46 rfl rfl rfl ?_
        refine V_imul dX7_ahead_47 rfl ?_
        refine V_iadd dX7_ahead_48 rfl ?_
        refine V_iload_n dX7_ahead_49 rfl rfl rfl ?_
        refine V_iadd dX7_ahead_50 rfl ?_
        refine A_ld0 dX7_ahead_51 rfl h fun v4 h => ?_
        exact A_ireturn dX7_ahead_52 rfl h
      · refine V_iconst dX7_ahead_28 ci_m1 rfl ?_
        exact A_ireturn dX7_ahead_29 rfl h
theorem cp_X7_ahead {N d : Nat} {l1 : Int32} {l2 : Int32} {l3 : Int32} {F F' : FF} {r : Int32} (h : fX7_ahead N l1 l2 l3 F = some (r, F')) : CP (d + 4) mX7_ahead [.ref 82, .int l1, .int l2, .int l3] F (fun r' F'' => r' = eI r ∧ F'' = F') := CP_I rfl (Nat.le_of_ble_eq_true rfl) (okX7_ahead h)
theorem okX7_when_L28 {N d : Nat} {l1 : Int32} {l2 : Int32} {res : Int32 × FF} : ∀ (n : Nat) (l3 : Int32) (F : FF), fX7_when_L28 N l1 l2 n l3 F = some res → FV cX7_when 4 RX7 (d + 3) (some .int) none 28 [.ref 82, .int l1, .int l2, .int l3] [] F (RI res) := by
  intro n
  induction n with
  | zero =>
    intro l3 F h
    rw [fX7_when_L28.eq_1] at h
    cases h
  | succ n ih =>
    intro l3 F h
    rw [fX7_when_L28.eq_2] at h
    refine V_iload_n dX7_when_28 rfl rfl rfl ?_
    refine V_sipush dX7_when_29 cs_200 rfl ?_
    refine A_icmp_gt dX7_when_32 rfl rfl h (fun h => ?_) (fun h => ?_)
    · refine V_bipush dX7_when_68 cb_m4 rfl ?_
      exact A_ireturn dX7_when_70 rfl h
    · refine V_aload_n dX7_when_35 rfl rfl rfl ?_
      refine F_getR dX7_when_36 fl_X7_7 ly_82 rfl rfl ?_
      refine V_sipush dX7_when_39 cs_327 rfl ?_
      refine V_bipush dX7_when_42 cb_6 rfl ?_
      refine V_iload_n dX7_when_44 rfl rfl rfl ?_
      refine V_imul dX7_when_45 rfl ?_
      refine V_iadd dX7_when_46 rfl ?_
      refine A_ld0 dX7_when_47 rfl h fun v1 h => ?_
      refine V_iload_n dX7_when_48 rfl rfl rfl ?_
      refine A_icmp_ne dX7_when_49 rfl rfl h (fun h => ?_) (fun h => ?_)
      · refine V_aload_n dX7_when_54 rfl rfl rfl ?_
        refine V_sipush dX7_when_55 cs_300 rfl ?_
        refine V_iconst dX7_when_58 ci_0 rfl ?_
        refine A_callC (ci := 7) eU dX7_when_59 cl_X7_186 (by decide) rfl rfl (As := [.int 300, .int 0]) (st := []) rfl rfl (Nat.le_of_ble_eq_true rfl) rfl h (fun _ _ h => cp_X7_stepOn (d := d) h) fun _ F1 h => ?_
        refine V_iinc dX7_when_62 (v := l3 + 1) rfl (by rw [ci_1]) rfl (ls' := [.ref 82, .int l1, .int l2, .int (l3 + 1)]) rfl rfl ?_
        refine V_goto dX7_when_65 rfl ?_
        exact ih (l3 + 1) F1 h
      · refine V_iload_n dX7_when_52 rfl rfl rfl ?_
        exact A_ireturn dX7_when_53 rfl h
theorem okX7_when {N d : Nat} {l1 : Int32} {l2 : Int32} {F : FF} {res : Int32 × FF} (h : fX7_when N l1 l2 F = some res) : FV cX7_when 4 RX7 (d + 3) (some .int) none 0 [.ref 82, .int l1, .int l2, .null] [] F (RI res) := by
  unfold fX7_when at h
  refine V_aload_n dX7_when_0 rfl rfl rfl ?_
  refine V_iload_n dX7_when_1 rfl rfl rfl ?_
  refine A_callC (ci := 7) eI dX7_when_2 cl_X7_162 (by decide) rfl rfl (As := [.int l1]) (st := []) rfl rfl (Nat.le_of_ble_eq_true rfl) rfl h (fun _ _ h => cp_X7_isShelf (d := d + 1) h) fun v1 F1 h => ?_
  refine A_if_eq dX7_when_5 rfl rfl h (fun h => ?_) (fun h => ?_)
  · refine V_iconst dX7_when_16 ci_m1 rfl ?_
    exact A_ireturn dX7_when_17 rfl h
  · refine V_aload_n dX7_when_8 rfl rfl rfl ?_
    refine V_iload_n dX7_when_9 rfl rfl rfl ?_
    refine A_callC (ci := 7) eI dX7_when_10 cl_X7_166 (by decide) rfl rfl (As := [.int l2]) (st := []) rfl rfl (Nat.le_of_ble_eq_true rfl) rfl h (fun _ _ h => cp_X7_isBook (d := d + 1) h) fun v2 F2 h => ?_
    refine A_if_ne dX7_when_13 rfl rfl h (fun h => ?_) (fun h => ?_)
    · refine V_aload_n dX7_when_18 rfl rfl rfl ?_
      refine V_iconst dX7_when_19 ci_0 rfl ?_
      refine V_sipush dX7_when_20 cs_300 rfl ?_
      refine A_callC (ci := 7) eU dX7_when_23 cl_X7_193 (by decide) rfl rfl (As := [.int 0, .int 300]) (st := []) rfl rfl (Nat.le_of_ble_eq_true rfl) rfl h (fun _ _ h => cp_X7_copies (d := d + 2) h) fun _ F3 h => ?_
      refine V_iconst dX7_when_26 ci_0 rfl ?_
      refine V_istore_n dX7_when_27 rfl (by decide) rfl (ls' := [.ref 82, .int l1, .int l2, .int 0]) rfl rfl ?_
      exact okX7_when_L28 _ _ _ h
    · refine V_iconst dX7_when_16 ci_m1 rfl ?_
      exact A_ireturn dX7_when_17 rfl h
theorem cp_X7_when {N d : Nat} {l1 : Int32} {l2 : Int32} {F F' : FF} {r : Int32} (h : fX7_when N l1 l2 F = some (r, F')) : CP (d + 3) mX7_when [.ref 82, .int l1, .int l2] F (fun r' F'' => r' = eI r ∧ F'' = F') := CP_I rfl (Nat.le_of_ble_eq_true rfl) (okX7_when h)
theorem okX7_again_b119 {N d : Nat} {k67 : Int32 → Int32 → FF → Option (Int32 × FF)} {l1 : Int32} {l2 : Int32} {l4 : Int32} {l5 : Int32} {s0 : Int32} {F : FF} {res : Int32 × FF} (hk67 : ∀ (x3 : Int32) (x5 : Int32) (F : FF), k67 x3 x5 F = some res → FV cX7_again 7 RX7 (d + 3) (some .int) none 67 [.ref 82, .int l1, .int l2, .int x3, .int l4, .int x5, .null] [] F (RI res)) (h : fX7_again_b119 N k67 l1 l2 l4 l5 s0 F = some res) : FV cX7_again 7 RX7 (d + 3) (some .int) none 119 [.ref 82, .int l1, .int l2, .null, .int l4, .int l5, .null] [.int s0] F (RI res) := by
  unfold fX7_again_b119 at h
  refine V_istore_n dX7_again_119 rfl (by decide) rfl (ls' := [.ref 82, .int l1, .int l2, .int s0, .int l4, .int l5, .null]) rfl rfl ?_
  refine V_iinc dX7_again_120 (v := l5 + 1) rfl (by rw [ci_1]) rfl (ls' := [.ref 82, .int l1, .int l2, .int s0, .int l4, .int (l5 + 1), .null]) rfl rfl ?_
  refine V_goto dX7_again_123 rfl ?_
  exact hk67 s0 (l5 + 1) F h
theorem okX7_again_b118 {N d : Nat} {k67 : Int32 → Int32 → FF → Option (Int32 × FF)} {l1 : Int32} {l2 : Int32} {l4 : Int32} {l5 : Int32} {F : FF} {res : Int32 × FF} (hk67 : ∀ (x3 : Int32) (x5 : Int32) (F : FF), k67 x3 x5 F = some res → FV cX7_again 7 RX7 (d + 3) (some .int) none 67 [.ref 82, .int l1, .int l2, .int x3, .int l4, .int x5, .null] [] F (RI res)) (h : fX7_again_b118 N k67 l1 l2 l4 l5 F = some res) : FV cX7_again 7 RX7 (d + 3) (some .int) none 118 [.ref 82, .int l1, .int l2, .null, .int l4, .int l5, .null] [] F (RI res) := by
  unfold fX7_again_b118 at h
  refine V_iconst dX7_again_118 ci_0 rfl ?_
  exact okX7_again_b119 hk67 h
theorem okX7_again_L67 {N d : Nat} {k52 : Int32 → Int32 → FF → Option (Int32 × FF)} {l1 : Int32} {l2 : Int32} {l4 : Int32} {res : Int32 × FF} (hk52 : ∀ (x3 : Int32) (x4 : Int32) (F : FF), k52 x3 x4 F = some res → FV cX7_again 7 RX7 (d + 3) (some .int) none 52 [.ref 82, .int l1, .int l2, .int x3, .int x4, .null, .null] [] F (RI res)) : ∀ (n : Nat) (l3 : Int32) (l5 : Int32) (F : FF), fX7_again_L67 N k52 l1 l2 l4 n l3 l5 F = some res → FV cX7_again 7 RX7 (d + 3) (some .int) none 67 [.ref 82, .int l1, .int l2, .int l3, .int l4, .int l5, .null] [] F (RI res) := by
  intro n
  induction n with
  | zero =>
    intro l3 l5 F h
    rw [fX7_again_L67.eq_1] at h
    cases h
  | succ n ih =>
    intro l3 l5 F h
    rw [fX7_again_L67.eq_2] at h
    refine V_iload dX7_again_67 rfl rfl ?_
    refine V_aload_n dX7_again_69 rfl rfl rfl ?_
    refine F_getI dX7_again_70 fl_X7_13 ly_82 rfl rfl ?_
    refine A_icmp_ge dX7_again_73 rfl rfl h (fun h => ?_) (fun h => ?_)
    · refine V_iinc dX7_again_126 (v := l4 + 1) rfl (by rw [ci_1]) rfl (ls' := [.ref 82, .int l1, .int l2, .int l3, .int (l4 + 1), .int l5, .null]) rfl rfl ?_
      refine V_goto dX7_again_129 rfl ?_
      refine V_weak [true, true, true, true, true, false, false] rfl ?_
      exact hk52 l3 (l4 + 1) F h
    · refine V_bipush dX7_again_76 cb_27 rfl ?_
      refine V_bipush dX7_again_78 cb_6 rfl ?_
      refine V_iload dX7_again_80 rfl rfl ?_
      refine V_imul dX7_again_82 rfl ?_
      refine V_iadd dX7_again_83 rfl ?_
      refine V_iload dX7_again_84 rfl rfl ?_
      refine V_iadd dX7_again_86 rfl ?_
      refine V_istore dX7_again_87 (by decide) rfl (ls' := [.ref 82, .int l1, .int l2, .int l3, .int l4, .int l5, .int ((27 + (6 * l4)) + l5)]) rfl rfl ?_
      refine V_iload_n dX7_again_89 rfl rfl rfl ?_
      refine A_if_eq dX7_again_90 rfl rfl h (fun h => ?_) (fun h => ?_)
      · refine V_weak [true, true, true, false, true, true, false] rfl ?_
        exact okX7_again_b118 (fun x3 x5 F h => ih x3 x5 F h) h
      · refine V_aload_n dX7_again_93 rfl rfl rfl ?_
        refine F_getR dX7_again_94 fl_X7_7 ly_82 rfl rfl ?_
        refine V_sipush dX7_again_97 cs_300 rfl ?_
        refine V_iload dX7_again_100 rfl rfl ?_
        refine V_iadd dX7_again_102 rfl ?_
        refine A_ld0 dX7_again_103 rfl h fun v1 h => ?_
        refine V_aload_n dX7_again_104 rfl rfl rfl ?_
        refine F_getR dX7_again_105 fl_X7_7 ly_82 rfl rfl ?_
        refine V_iload dX7_again_108 rfl rfl ?_
        refine A_ld0 dX7_again_110 rfl h fun v2 h => ?_
        refine V_midI (q := 119) ((if ¬ v1 = v2 then 0 else 1 : Int32)) [] (fun yJ hy hJ => ?_) ?_
        · refine V_icmp_ne dX7_again_111 rfl rfl (fun c => ?_) (fun c => ?_)
          · rw [if_pos c] at hy
            refine V_iconst dX7_again_118 ci_0 rfl ?_
            rw [hy] at hJ
            exact hJ
          · rw [if_neg (fun z => z c)] at hy
            refine V_iconst dX7_again_114 ci_1 rfl ?_
            refine V_goto dX7_again_115 rfl ?_
            rw [hy] at hJ
            exact hJ
        · refine V_istore_n dX7_again_119 rfl (by decide) rfl (ls' := [.ref 82, .int l1, .int l2, .int ((if ¬ v1 = v2 then 0 else 1 : Int32)), .int l4, .int l5, .int ((27 + (6 * l4)) + l5)]) rfl rfl ?_
          refine V_iinc dX7_again_120 (v := l5 + 1) rfl (by rw [ci_1]) rfl (ls' := [.ref 82, .int l1, .int l2, .int ((if ¬ v1 = v2 then 0 else 1 : Int32)), .int l4, .int (l5 + 1), .int ((27 + (6 * l4)) + l5)]) rfl rfl ?_
          refine V_goto dX7_again_123 rfl ?_
          refine V_weak [true, true, true, true, true, true, false] rfl ?_
          exact ih ((if ¬ v1 = v2 then 0 else 1 : Int32)) (l5 + 1) F h
theorem okX7_again_L52 {N d : Nat} {k18 : Int32 → FF → Option (Int32 × FF)} {l1 : Int32} {l2 : Int32} {res : Int32 × FF} (hk18 : ∀ (x2 : Int32) (F : FF), k18 x2 F = some res → FV cX7_again 7 RX7 (d + 3) (some .int) none 18 [.ref 82, .int l1, .int x2, .null, .null, .null, .null] [] F (RI res)) : ∀ (n : Nat) (l3 : Int32) (l4 : Int32) (F : FF), fX7_again_L52 N k18 l1 l2 n l3 l4 F = some res → FV cX7_again 7 RX7 (d + 3) (some .int) none 52 [.ref 82, .int l1, .int l2, .int l3, .int l4, .null, .null] [] F (RI res) := by
  intro n
  induction n with
  | zero =>
    intro l3 l4 F h
    rw [fX7_again_L52.eq_1] at h
    cases h
  | succ n ih =>
    intro l3 l4 F h
    rw [fX7_again_L52.eq_2] at h
    refine V_iload dX7_again_52 rfl rfl ?_
    refine V_aload_n dX7_again_54 rfl rfl rfl ?_
    refine F_getR dX7_again_55 fl_X7_7 ly_82 rfl rfl ?_
    refine V_bipush dX7_again_58 cb_8 rfl ?_
    refine F_iald dX7_again_60 ly_83 (j := 8) (by decide) (by decide) (by decide) rfl ?_
    refine A_icmp_ge dX7_again_61 rfl rfl h (fun h => ?_) (fun h => ?_)
    · refine V_iload_n dX7_again_132 rfl rfl rfl ?_
      refine A_if_eq dX7_again_133 rfl rfl h (fun h => ?_) (fun h => ?_)
      · refine V_iinc dX7_again_138 (v := l2 + 1) rfl (by rw [ci_1]) rfl (ls' := [.ref 82, .int l1, .int (l2 + 1), .int l3, .int l4, .null, .null]) rfl rfl ?_
        refine V_goto dX7_again_141 rfl ?_
        refine V_weak [true, true, true, false, false, false, false] rfl ?_
        exact hk18 (l2 + 1) F h
      · refine V_iload_n dX7_again_136 rfl rfl rfl ?_
        exact A_ireturn dX7_again_137 rfl h
    · refine V_iconst dX7_again_64 ci_0 rfl ?_
      refine V_istore dX7_again_65 (by decide) rfl (ls' := [.ref 82, .int l1, .int l2, .int l3, .int l4, .int 0, .null]) rfl rfl ?_
      exact okX7_again_L67 (fun x3 x4 F h => ih x3 x4 F h) _ _ _ _ h
theorem okX7_again_b48 {N d : Nat} {k18 : Int32 → FF → Option (Int32 × FF)} {l1 : Int32} {l2 : Int32} {s0 : Int32} {F : FF} {res : Int32 × FF} (hk18 : ∀ (x2 : Int32) (F : FF), k18 x2 F = some res → FV cX7_again 7 RX7 (d + 3) (some .int) none 18 [.ref 82, .int l1, .int x2, .null, .null, .null, .null] [] F (RI res)) (h : fX7_again_b48 N k18 l1 l2 s0 F = some res) : FV cX7_again 7 RX7 (d + 3) (some .int) none 48 [.ref 82, .int l1, .int l2, .null, .null, .null, .null] [.int s0] F (RI res) := by
  unfold fX7_again_b48 at h
  refine V_istore_n dX7_again_48 rfl (by decide) rfl (ls' := [.ref 82, .int l1, .int l2, .int s0, .null, .null, .null]) rfl rfl ?_
  refine V_iconst dX7_again_49 ci_0 rfl ?_
  refine V_istore dX7_again_50 (by decide) rfl (ls' := [.ref 82, .int l1, .int l2, .int s0, .int 0, .null, .null]) rfl rfl ?_
  exact okX7_again_L52 hk18 _ _ _ _ h
theorem okX7_again_b43 {N d : Nat} {k18 : Int32 → FF → Option (Int32 × FF)} {l1 : Int32} {l2 : Int32} {F : FF} {res : Int32 × FF} (hk18 : ∀ (x2 : Int32) (F : FF), k18 x2 F = some res → FV cX7_again 7 RX7 (d + 3) (some .int) none 18 [.ref 82, .int l1, .int x2, .null, .null, .null, .null] [] F (RI res)) (h : fX7_again_b43 N k18 l1 l2 F = some res) : FV cX7_again 7 RX7 (d + 3) (some .int) none 43 [.ref 82, .int l1, .int l2, .null, .null, .null, .null] [] F (RI res) := by
  unfold fX7_again_b43 at h
  refine V_iconst dX7_again_43 ci_1 rfl ?_
  refine V_goto dX7_again_44 rfl ?_
  exact okX7_again_b48 hk18 h
theorem okX7_again_L18 {N d : Nat} {l1 : Int32} {res : Int32 × FF} : ∀ (n : Nat) (l2 : Int32) (F : FF), fX7_again_L18 N l1 n l2 F = some res → FV cX7_again 7 RX7 (d + 3) (some .int) none 18 [.ref 82, .int l1, .int l2, .null, .null, .null, .null] [] F (RI res) := by
  intro n
  induction n with
  | zero =>
    intro l2 F h
    rw [fX7_again_L18.eq_1] at h
    cases h
  | succ n ih =>
    intro l2 F h
    rw [fX7_again_L18.eq_2] at h
    refine V_iload_n dX7_again_18 rfl rfl rfl ?_
    refine V_sipush dX7_again_19 cs_200 rfl ?_
    refine A_icmp_gt dX7_again_22 rfl rfl h (fun h => ?_) (fun h => ?_)
    · refine V_bipush dX7_again_144 cb_m4 rfl ?_
      exact A_ireturn dX7_again_146 rfl h
    · refine V_aload_n dX7_again_25 rfl rfl rfl ?_
      refine V_sipush dX7_again_26 cs_300 rfl ?_
      refine V_iconst dX7_again_29 ci_0 rfl ?_
      refine A_callC (ci := 7) eU dX7_again_30 cl_X7_186 (by decide) rfl rfl (As := [.int 300, .int 0]) (st := []) rfl rfl (Nat.le_of_ble_eq_true rfl) rfl h (fun _ _ h => cp_X7_stepOn (d := d) h) fun _ F1 h => ?_
      refine V_iload_n dX7_again_33 rfl rfl rfl ?_
      refine A_if_eq dX7_again_34 rfl rfl h (fun h => ?_) (fun h => ?_)
      · exact okX7_again_b43 (fun x2 F h => ih x2 F h) h
      · refine V_iload_n dX7_again_37 rfl rfl rfl ?_
        refine V_iload_n dX7_again_38 rfl rfl rfl ?_
        refine A_dv h fun hy h => ?_
        refine U_irem dX7_again_39 hy rfl ?_
        refine V_midI (q := 48) ((if ¬ (irem l2 l1) = 0 then 0 else 1 : Int32)) [] (fun yJ hy hJ => ?_) ?_
        · refine V_if_ne dX7_again_40 rfl rfl (fun c => ?_) (fun c => ?_)
          · rw [if_pos c] at hy
            refine V_iconst dX7_again_47 ci_0 rfl ?_
            rw [hy] at hJ
            exact hJ
          · rw [if_neg (fun z => z c)] at hy
            refine V_iconst dX7_again_43 ci_1 rfl ?_
            refine V_goto dX7_again_44 rfl ?_
            rw [hy] at hJ
            exact hJ
        · refine V_istore_n dX7_again_48 rfl (by decide) rfl (ls' := [.ref 82, .int l1, .int l2, .int ((if ¬ (irem l2 l1) = 0 then 0 else 1 : Int32)), .null, .null, .null]) rfl rfl ?_
          refine V_iconst dX7_again_49 ci_0 rfl ?_
          refine V_istore dX7_again_50 (by decide) rfl (ls' := [.ref 82, .int l1, .int l2, .int ((if ¬ (irem l2 l1) = 0 then 0 else 1 : Int32)), .int 0, .null, .null]) rfl rfl ?_
          exact okX7_again_L52 (fun x2 F h => ih x2 F h) _ _ _ _ h
theorem okX7_again {N d : Nat} {F : FF} {res : Int32 × FF} (h : fX7_again N F = some res) : FV cX7_again 7 RX7 (d + 3) (some .int) none 0 [.ref 82, .null, .null, .null, .null, .null, .null] [] F (RI res) := by
  unfold fX7_again at h
  refine V_aload_n dX7_again_0 rfl rfl rfl ?_
  refine V_iconst dX7_again_1 ci_0 rfl ?_
  refine V_sipush dX7_again_2 cs_300 rfl ?_
  refine A_callC (ci := 7) eU dX7_again_5 cl_X7_193 (by decide) rfl rfl (As := [.int 0, .int 300]) (st := []) rfl rfl (Nat.le_of_ble_eq_true rfl) rfl h (fun _ _ h => cp_X7_copies (d := d + 2) h) fun _ F1 h => ?_
  refine V_aload_n dX7_again_8 rfl rfl rfl ?_
  refine F_getR dX7_again_9 fl_X7_7 ly_82 rfl rfl ?_
  refine V_bipush dX7_again_12 cb_25 rfl ?_
  refine F_iald dX7_again_14 ly_83 (j := 25) (by decide) (by decide) (by decide) rfl ?_
  refine V_istore_n dX7_again_15 rfl (by decide) rfl (ls' := [.ref 82, .int (F1 83 25), .null, .null, .null, .null, .null]) rfl rfl ?_
  refine V_iconst dX7_again_16 ci_1 rfl ?_
  refine V_istore_n dX7_again_17 rfl (by decide) rfl (ls' := [.ref 82, .int (F1 83 25), .int 1, .null, .null, .null, .null]) rfl rfl ?_
  exact okX7_again_L18 _ _ _ h
theorem cp_X7_again {N d : Nat} {F F' : FF} {r : Int32} (h : fX7_again N F = some (r, F')) : CP (d + 3) mX7_again [.ref 82] F (fun r' F'' => r' = eI r ∧ F'' = F') := CP_I rfl (Nat.le_of_ble_eq_true rfl) (okX7_again h)
theorem okX7_isRow_L7 {N d : Nat} {res : Int32 × FF} : ∀ (n : Nat) (l2 : Int32) (l3 : Int32) (l4 : Int32) (F : FF), fX7_isRow_L7 N n l2 l3 l4 F = some res → FV cX7_isRow 5 RX7 (d) (some .boolean) none 7 [.ref 82, .null, .int l2, .int l3, .int l4] [] F (RI res) := by
  intro n
  induction n with
  | zero =>
    intro l2 l3 l4 F h
    rw [fX7_isRow_L7.eq_1] at h
    cases h
  | succ n ih =>
    intro l2 l3 l4 F h
    rw [fX7_isRow_L7.eq_2] at h
    refine V_iload dX7_isRow_7 rfl rfl ?_
    refine V_aload_n dX7_isRow_9 rfl rfl rfl ?_
    refine F_getI dX7_isRow_10 fl_X7_13 ly_82 rfl rfl ?_
    refine A_icmp_ge dX7_isRow_13 rfl rfl h (fun h => ?_) (fun h => ?_)
    · refine V_iload_n dX7_isRow_40 rfl rfl rfl ?_
      refine V_iconst dX7_isRow_41 ci_1 rfl ?_
      refine V_aload_n dX7_isRow_42 rfl rfl rfl ?_
      refine F_getI dX7_isRow_43 fl_X7_13 ly_82 rfl rfl ?_
      refine V_ishl dX7_isRow_46 rfl ?_
      refine V_iconst dX7_isRow_47 ci_1 rfl ?_
      refine V_isub dX7_isRow_48 rfl ?_
      refine V_midI (q := 57) ((if ¬ l2 = ((1 <<< ((F 82 1) &&& 31)) - 1) then 0 else 1 : Int32)) [] (fun yJ hy hJ => ?_) ?_
      · refine V_icmp_ne dX7_isRow_49 rfl rfl (fun c => ?_) (fun c => ?_)
        · rw [if_pos c] at hy
          refine V_iconst dX7_isRow_56 ci_0 rfl ?_
          rw [hy] at hJ
          exact hJ
        · rw [if_neg (fun z => z c)] at hy
          refine V_iconst dX7_isRow_52 ci_1 rfl ?_
          refine V_goto dX7_isRow_53 rfl ?_
          rw [hy] at hJ
          exact hJ
      · exact A_creturn dX7_isRow_57 rfl (by repeat' (first | exact Or.inl rfl | exact Or.inr rfl | split)) h
    · refine V_iload_n dX7_isRow_16 rfl rfl rfl ?_
      refine V_iconst dX7_isRow_17 ci_1 rfl ?_
      refine V_iload_n dX7_isRow_18 rfl rfl rfl ?_
      refine V_aload_n dX7_isRow_19 rfl rfl rfl ?_
      refine F_getI dX7_isRow_20 fl_X7_13 ly_82 rfl rfl ?_
      refine A_dv h fun hy h => ?_
      refine U_irem dX7_isRow_23 hy rfl ?_
      refine V_ishl dX7_isRow_24 rfl ?_
      refine V_ior dX7_isRow_25 rfl ?_
      refine V_istore_n dX7_isRow_26 rfl (by decide) rfl (ls' := [.ref 82, .null, .int (l2 ||| (1 <<< ((irem l3 (F 82 1)) &&& 31))), .int l3, .int l4]) rfl rfl ?_
      refine V_iload_n dX7_isRow_27 rfl rfl rfl ?_
      refine V_aload_n dX7_isRow_28 rfl rfl rfl ?_
      refine F_getI dX7_isRow_29 fl_X7_13 ly_82 rfl rfl ?_
      refine A_dv h fun hy h => ?_
      refine V_idiv dX7_isRow_32 hy rfl ?_
      refine V_istore_n dX7_isRow_33 rfl (by decide) rfl (ls' := [.ref 82, .null, .int (l2 ||| (1 <<< ((irem l3 (F 82 1)) &&& 31))), .int (l3 / (F 82 1)), .int l4]) rfl rfl ?_
      refine V_iinc dX7_isRow_34 (v := l4 + 1) rfl (by rw [ci_1]) rfl (ls' := [.ref 82, .null, .int (l2 ||| (1 <<< ((irem l3 (F 82 1)) &&& 31))), .int (l3 / (F 82 1)), .int (l4 + 1)]) rfl rfl ?_
      refine V_goto dX7_isRow_37 rfl ?_
      exact ih (l2 ||| (1 <<< ((irem l3 (F 82 1)) &&& 31))) (l3 / (F 82 1)) (l4 + 1) F h
theorem okX7_isRow {N d : Nat} {l1 : Int32} {F : FF} {res : Int32 × FF} (h : fX7_isRow N l1 F = some res) : FV cX7_isRow 5 RX7 (d) (some .boolean) none 0 [.ref 82, .int l1, .null, .null, .null] [] F (RI res) := by
  unfold fX7_isRow at h
  refine V_iconst dX7_isRow_0 ci_0 rfl ?_
  refine V_istore_n dX7_isRow_1 rfl (by decide) rfl (ls' := [.ref 82, .int l1, .int 0, .null, .null]) rfl rfl ?_
  refine V_iload_n dX7_isRow_2 rfl rfl rfl ?_
  refine V_istore_n dX7_isRow_3 rfl (by decide) rfl (ls' := [.ref 82, .int l1, .int 0, .int l1, .null]) rfl rfl ?_
  refine V_iconst dX7_isRow_4 ci_0 rfl ?_
  refine V_istore dX7_isRow_5 (by decide) rfl (ls' := [.ref 82, .int l1, .int 0, .int l1, .int 0]) rfl rfl ?_
  refine V_weak [true, false, true, true, true] rfl ?_
  exact okX7_isRow_L7 _ _ _ _ _ h
theorem cp_X7_isRow {N d : Nat} {l1 : Int32} {F F' : FF} {r : Int32} (h : fX7_isRow N l1 F = some (r, F')) : CP (d) mX7_isRow [.ref 82, .int l1] F (fun r' F'' => r' = eI r ∧ F'' = F') := CP_I rfl (Nat.le_of_ble_eq_true rfl) (okX7_isRow h)
theorem okX7_ordered_L21 {N d : Nat} {l1 : Int32} {res : Int32 × FF} : ∀ (n : Nat) (l3 : Int32) (l4 : Int32) (l5 : Int32) (F : FF), fX7_ordered_L21 N l1 n l3 l4 l5 F = some res → FV cX7_ordered 6 RX7 (d + 1) (some .boolean) none 21 [.ref 82, .int l1, .null, .int l3, .int l4, .int l5] [] F (RI res) := by
  intro n
  induction n with
  | zero =>
    intro l3 l4 l5 F h
    rw [fX7_ordered_L21.eq_1] at h
    cases h
  | succ n ih =>
    intro l3 l4 l5 F h
    rw [fX7_ordered_L21.eq_2] at h
    refine V_iload dX7_ordered_21 rfl rfl ?_
    refine A_if_lt dX7_ordered_23 rfl rfl h (fun h => ?_) (fun h => ?_)
    · refine V_iload_n dX7_ordered_76 rfl rfl rfl ?_
      refine V_iconst dX7_ordered_77 ci_1 rfl ?_
      refine V_aload_n dX7_ordered_78 rfl rfl rfl ?_
      refine F_getI dX7_ordered_79 fl_X7_13 ly_82 rfl rfl ?_
      refine V_ishl dX7_ordered_82 rfl ?_
      refine V_iconst dX7_ordered_83 ci_1 rfl ?_
      refine V_isub dX7_ordered_84 rfl ?_
      refine V_midI (q := 93) ((if ¬ l3 = ((1 <<< ((F 82 1) &&& 31)) - 1) then 0 else 1 : Int32)) [] (fun yJ hy hJ => ?_) ?_
      · refine V_icmp_ne dX7_ordered_85 rfl rfl (fun c => ?_) (fun c => ?_)
        · rw [if_pos c] at hy
          refine V_iconst dX7_ordered_92 ci_0 rfl ?_
          rw [hy] at hJ
          exact hJ
        · rw [if_neg (fun z => z c)] at hy
          refine V_iconst dX7_ordered_88 ci_1 rfl ?_
          refine V_goto dX7_ordered_89 rfl ?_
          rw [hy] at hJ
          exact hJ
      · exact A_creturn dX7_ordered_93 rfl (by repeat' (first | exact Or.inl rfl | exact Or.inr rfl | split)) h
    · refine V_iload_n dX7_ordered_26 rfl rfl rfl ?_
      refine V_iconst dX7_ordered_27 ci_1 rfl ?_
      refine V_iload dX7_ordered_28 rfl rfl ?_
      refine V_aload_n dX7_ordered_30 rfl rfl rfl ?_
      refine F_getI dX7_ordered_31 fl_X7_13 ly_82 rfl rfl ?_
      refine A_dv h fun hy h => ?_
      refine U_irem dX7_ordered_34 hy rfl ?_
      refine V_ishl dX7_ordered_35 rfl ?_
      refine V_ior dX7_ordered_36 rfl ?_
      refine V_istore_n dX7_ordered_37 rfl (by decide) rfl (ls' := [.ref 82, .int l1, .null, .int (l3 ||| (1 <<< ((irem l4 (F 82 1)) &&& 31))), .int l4, .int l5]) rfl rfl ?_
      refine V_aload_n dX7_ordered_38 rfl rfl rfl ?_
      refine F_getR dX7_ordered_39 fl_X7_7 ly_82 rfl rfl ?_
      refine V_sipush dX7_ordered_42 cs_402 rfl ?_
      refine V_bipush dX7_ordered_45 cb_6 rfl ?_
      refine V_iload_n dX7_ordered_47 rfl rfl rfl ?_
      refine V_imul dX7_ordered_48 rfl ?_
      refine V_iadd dX7_ordered_49 rfl ?_
      refine V_iload dX7_ordered_50 rfl rfl ?_
      refine V_iadd dX7_ordered_52 rfl ?_
      refine V_iload dX7_ordered_53 rfl rfl ?_
      refine V_aload_n dX7_ordered_55 rfl rfl rfl ?_
      refine F_getI dX7_ordered_56 fl_X7_13 ly_82 rfl rfl ?_
      refine A_dv h fun hy h => ?_
      refine U_irem dX7_ordered_59 hy rfl ?_
      refine A_st0 dX7_ordered_60 rfl h fun F1 h => ?_
      refine V_iload dX7_ordered_61 rfl rfl ?_
      refine V_aload_n dX7_ordered_63 rfl rfl rfl ?_
      refine F_getI dX7_ordered_64 fl_X7_13 ly_82 rfl rfl ?_
      refine A_dv h fun hy h => ?_
      refine V_idiv dX7_ordered_67 hy rfl ?_
      refine V_istore dX7_ordered_68 (by decide) rfl (ls' := [.ref 82, .int l1, .null, .int (l3 ||| (1 <<< ((irem l4 (F 82 1)) &&& 31))), .int (l4 / (F1 82 1)), .int l5]) rfl rfl ?_
      refine V_iinc dX7_ordered_70 (v := l5 + ((-1))) rfl (by rw [ci_m1]) rfl (ls' := [.ref 82, .int l1, .null, .int (l3 ||| (1 <<< ((irem l4 (F 82 1)) &&& 31))), .int (l4 / (F1 82 1)), .int (l5 + ((-1)))]) rfl rfl ?_
      refine V_goto dX7_ordered_73 rfl ?_
      exact ih (l3 ||| (1 <<< ((irem l4 (F 82 1)) &&& 31))) (l4 / (F1 82 1)) (l5 + ((-1))) F1 h
theorem okX7_ordered {N d : Nat} {l1 : Int32} {l2 : Int32} {F : FF} {res : Int32 × FF} (h : fX7_ordered N l1 l2 F = some res) : FV cX7_ordered 6 RX7 (d + 1) (some .boolean) none 0 [.ref 82, .int l1, .int l2, .null, .null, .null] [] F (RI res) := by
  unfold fX7_ordered at h
  refine V_iconst dX7_ordered_0 ci_0 rfl ?_
  refine V_istore_n dX7_ordered_1 rfl (by decide) rfl (ls' := [.ref 82, .int l1, .int l2, .int 0, .null, .null]) rfl rfl ?_
  refine V_iload_n dX7_ordered_2 rfl rfl rfl ?_
  refine V_istore dX7_ordered_3 (by decide) rfl (ls' := [.ref 82, .int l1, .int l2, .int 0, .int l2, .null]) rfl rfl ?_
  refine V_aload_n dX7_ordered_5 rfl rfl rfl ?_
  refine V_iconst dX7_ordered_6 ci_0 rfl ?_
  refine V_sipush dX7_ordered_7 cs_375 rfl ?_
  refine A_callC (ci := 7) eU dX7_ordered_10 cl_X7_193 (by decide) rfl rfl (As := [.int 0, .int 375]) (st := []) rfl rfl (Nat.le_of_ble_eq_true rfl) rfl h (fun _ _ h => cp_X7_copies (d := d) h) fun _ F1 h => ?_
  refine V_aload_n dX7_ordered_13 rfl rfl rfl ?_
  refine F_getI dX7_ordered_14 fl_X7_13 ly_82 rfl rfl ?_
  refine V_iconst dX7_ordered_17 ci_1 rfl ?_
  refine V_isub dX7_ordered_18 rfl ?_
  refine V_istore dX7_ordered_19 (by decide) rfl (ls' := [.ref 82, .int l1, .int l2, .int 0, .int l2, .int ((F1 82 1) - 1)]) rfl rfl ?_
  refine V_weak [true, true, false, true, true, true] rfl ?_
  exact okX7_ordered_L21 _ _ _ _ _ h
theorem cp_X7_ordered {N d : Nat} {l1 : Int32} {l2 : Int32} {F F' : FF} {r : Int32} (h : fX7_ordered N l1 l2 F = some (r, F')) : CP (d + 1) mX7_ordered [.ref 82, .int l1, .int l2] F (fun r' F'' => r' = eI r ∧ F'' = F') := CP_I rfl (Nat.le_of_ble_eq_true rfl) (okX7_ordered h)
theorem okX7_order_b188 {N d : Nat} {l2 : Int32} {l4 : Int32} {l5 : Int32} {F : FF} {res : Int32 × FF} (h : fX7_order_b188 N l2 l4 l5 F = some res) : FV cX7_order 7 RX7 (d + 4) (some .int) none 188 [.ref 82, .null, .int l2, .null, .int l4, .int l5, .null] [] F (RI res) := by
  unfold fX7_order_b188 at h
  refine V_iload_n dX7_order_188 rfl rfl rfl ?_
  refine A_if_ne dX7_order_189 rfl rfl h (fun h => ?_) (fun h => ?_)
  · refine V_iload dX7_order_197 rfl rfl ?_
    refine V_aload_n dX7_order_199 rfl rfl rfl ?_
    refine F_getI dX7_order_200 fl_X7_13 ly_82 rfl rfl ?_
    refine A_dv h fun hy h => ?_
    refine U_irem dX7_order_203 hy rfl ?_
    exact A_ireturn dX7_order_204 rfl h
  · refine V_iload dX7_order_192 rfl rfl ?_
    refine V_goto dX7_order_194 rfl ?_
    exact A_ireturn dX7_order_204 rfl h
theorem okX7_order_L160 {N d : Nat} {l2 : Int32} {l4 : Int32} {res : Int32 × FF} : ∀ (n : Nat) (l5 : Int32) (l6 : Int32) (F : FF), fX7_order_L160 N l2 l4 n l5 l6 F = some res → FV cX7_order 7 RX7 (d + 4) (some .int) none 160 [.ref 82, .null, .int l2, .null, .int l4, .int l5, .int l6] [] F (RI res) := by
  intro n
  induction n with
  | zero =>
    intro l5 l6 F h
    rw [fX7_order_L160.eq_1] at h
    cases h
  | succ n ih =>
    intro l5 l6 F h
    rw [fX7_order_L160.eq_2] at h
    refine V_iload dX7_order_160 rfl rfl ?_
    refine V_iload_n dX7_order_162 rfl rfl rfl ?_
    refine V_bipush dX7_order_163 cb_10 rfl ?_
    refine V_isub dX7_order_165 rfl ?_
    refine A_icmp_le dX7_order_166 rfl rfl h (fun h => ?_) (fun h => ?_)
    · refine V_weak [true, false, true, false, true, true, false] rfl ?_
      exact okX7_order_b188 h
    · refine V_iload_n dX7_order_169 rfl rfl rfl ?_
      refine A_if_le dX7_order_170 rfl rfl h (fun h => ?_) (fun h => ?_)
      · refine V_weak [true, false, true, false, true, true, false] rfl ?_
        exact okX7_order_b188 h
      · refine V_iload dX7_order_173 rfl rfl ?_
        refine V_aload_n dX7_order_175 rfl rfl rfl ?_
        refine F_getI dX7_order_176 fl_X7_13 ly_82 rfl rfl ?_
        refine A_dv h fun hy h => ?_
        refine V_idiv dX7_order_179 hy rfl ?_
        refine V_istore dX7_order_180 (by decide) rfl (ls' := [.ref 82, .null, .int l2, .null, .int l4, .int (l5 / (F 82 1)), .int l6]) rfl rfl ?_
        refine V_iinc dX7_order_182 (v := l6 + ((-1))) rfl (by rw [ci_m1]) rfl (ls' := [.ref 82, .null, .int l2, .null, .int l4, .int (l5 / (F 82 1)), .int (l6 + ((-1)))]) rfl rfl ?_
        refine V_goto dX7_order_185 rfl ?_
        exact ih (l5 / (F 82 1)) (l6 + ((-1))) F h
theorem okX7_order_b146 {N d : Nat} {k62 : Int32 → Int32 → Int32 → FF → Option (Int32 × FF)} {l1 : Int32} {l2 : Int32} {l3 : Int32} {l4 : Int32} {l5 : Int32} {l6 : Int32} {F : FF} {res : Int32 × FF} (hk62 : ∀ (x4 : Int32) (x5 : Int32) (x6 : Int32) (F : FF), k62 x4 x5 x6 F = some res → FV cX7_order 7 RX7 (d + 4) (some .int) none 62 [.ref 82, .int l1, .int l2, .int l3, .int x4, .int x5, .int x6] [] F (RI res)) (h : fX7_order_b146 N k62 l1 l2 l3 l4 l5 l6 F = some res) : FV cX7_order 7 RX7 (d + 4) (some .int) none 146 [.ref 82, .int l1, .int l2, .int l3, .int l4, .int l5, .int l6] [] F (RI res) := by
  unfold fX7_order_b146 at h
  refine V_iinc dX7_order_146 (v := l6 + 1) rfl (by rw [ci_1]) rfl (ls' := [.ref 82, .int l1, .int l2, .int l3, .int l4, .int l5, .int (l6 + 1)]) rfl rfl ?_
  refine V_goto dX7_order_149 rfl ?_
  exact hk62 l4 l5 (l6 + 1) F h
theorem okX7_order_b144 {N d : Nat} {k62 : Int32 → Int32 → Int32 → FF → Option (Int32 × FF)} {l1 : Int32} {l2 : Int32} {l3 : Int32} {l5 : Int32} {l6 : Int32} {s0 : Int32} {F : FF} {res : Int32 × FF} (hk62 : ∀ (x4 : Int32) (x5 : Int32) (x6 : Int32) (F : FF), k62 x4 x5 x6 F = some res → FV cX7_order 7 RX7 (d + 4) (some .int) none 62 [.ref 82, .int l1, .int l2, .int l3, .int x4, .int x5, .int x6] [] F (RI res)) (h : fX7_order_b144 N k62 l1 l2 l3 l5 l6 s0 F = some res) : FV cX7_order 7 RX7 (d + 4) (some .int) none 144 [.ref 82, .int l1, .int l2, .int l3, .null, .int l5, .int l6] [.int s0] F (RI res) := by
  unfold fX7_order_b144 at h
  refine V_istore dX7_order_144 (by decide) rfl (ls' := [.ref 82, .int l1, .int l2, .int l3, .int s0, .int l5, .int l6]) rfl rfl ?_
  exact okX7_order_b146 hk62 h
theorem okX7_order_L62 {N d : Nat} {l1 : Int32} {l2 : Int32} {l3 : Int32} {res : Int32 × FF} : ∀ (n : Nat) (l4 : Int32) (l5 : Int32) (l6 : Int32) (F : FF), fX7_order_L62 N l1 l2 l3 n l4 l5 l6 F = some res → FV cX7_order 7 RX7 (d + 4) (some .int) none 62 [.ref 82, .int l1, .int l2, .int l3, .int l4, .int l5, .int l6] [] F (RI res) := by
  intro n
  induction n with
  | zero =>
    intro l4 l5 l6 F h
    rw [fX7_order_L62.eq_1] at h
    cases h
  | succ n ih =>
    intro l4 l5 l6 F h
    rw [fX7_order_L62.eq_2] at h
    refine V_iload dX7_order_62 rfl rfl ?_
    refine V_iload_n dX7_order_64 rfl rfl rfl ?_
    refine A_icmp_ge dX7_order_65 rfl rfl h (fun h => ?_) (fun h => ?_)
    · refine V_aload_n dX7_order_152 rfl rfl rfl ?_
      refine F_getI dX7_order_153 fl_X7_13 ly_82 rfl rfl ?_
      refine V_iconst dX7_order_156 ci_1 rfl ?_
      refine V_isub dX7_order_157 rfl ?_
      refine V_istore dX7_order_158 (by decide) rfl (ls' := [.ref 82, .int l1, .int l2, .int l3, .int l4, .int l5, .int ((F 82 1) - 1)]) rfl rfl ?_
      refine V_weak [true, false, true, false, true, true, true] rfl ?_
      exact okX7_order_L160 _ _ _ _ h
    · refine V_aload_n dX7_order_68 rfl rfl rfl ?_
      refine V_iload dX7_order_69 rfl rfl ?_
      refine A_callC (ci := 7) eI dX7_order_71 cl_X7_206 (by decide) rfl rfl (As := [.int l6]) (st := []) rfl rfl (Nat.le_of_ble_eq_true rfl) rfl h (fun _ _ h => cp_X7_isRow (d := d + 3) h) fun v1 F1 h => ?_
      refine A_if_eq dX7_order_74 rfl rfl h (fun h => ?_) (fun h => ?_)
      · exact okX7_order_b146 (fun x4 x5 x6 F h => ih x4 x5 x6 F h) h
      · refine V_aload_n dX7_order_77 rfl rfl rfl ?_
        refine V_iload_n dX7_order_78 rfl rfl rfl ?_
        refine V_iload dX7_order_79 rfl rfl ?_
        refine A_callC (ci := 7) eI dX7_order_81 cl_X7_209 (by decide) rfl rfl (As := [.int l1, .int l6]) (st := []) rfl rfl (Nat.le_of_ble_eq_true rfl) rfl h (fun _ _ h => cp_X7_ordered (d := d + 2) h) fun v2 F2 h => ?_
        refine A_if_eq dX7_order_84 rfl rfl h (fun h => ?_) (fun h => ?_)
        · exact okX7_order_b146 (fun x4 x5 x6 F h => ih x4 x5 x6 F h) h
        · refine V_aload_n dX7_order_87 rfl rfl rfl ?_
          refine V_sipush dX7_order_88 cs_375 rfl ?_
          refine V_aload_n dX7_order_91 rfl rfl rfl ?_
          refine F_getR dX7_order_92 fl_X7_7 ly_82 rfl rfl ?_
          refine V_bipush dX7_order_95 cb_25 rfl ?_
          refine F_iald dX7_order_97 ly_83 (j := 25) (by decide) (by decide) (by decide) rfl ?_
          refine A_callC (ci := 7) eI dX7_order_98 cl_X7_199 (by decide) rfl rfl (As := [.int 375, .int (F2 83 25)]) (st := []) rfl rfl (Nat.le_of_ble_eq_true rfl) rfl h (fun _ _ h => cp_X7_stepsGo (d := d) h) fun v3 F3 h => ?_
          refine V_pop dX7_order_101 rfl rfl ?_
          refine V_aload_n dX7_order_102 rfl rfl rfl ?_
          refine F_getR dX7_order_103 fl_X7_29 ly_82 rfl rfl ?_
          refine V_iload_n dX7_order_106 rfl rfl rfl ?_
          refine A_ld0 dX7_order_107 rfl h fun v4 h => ?_
          refine V_iload dX7_order_108 rfl rfl ?_
          refine V_midI (q := 120) ((if l4 ≤ v4 then l5 else l6 : Int32)) [] (fun yJ hy hJ => ?_) ?_
          · refine V_icmp_ge dX7_order_110 rfl rfl (fun c => ?_) (fun c => ?_)
            · rw [if_pos c] at hy
              refine V_iload dX7_order_118 rfl rfl ?_
              rw [hy] at hJ
              exact hJ
            · rw [if_neg c] at hy
              refine V_iload dX7_order_113 rfl rfl ?_
              refine V_goto dX7_order_115 rfl ?_
              rw [hy] at hJ
              exact hJ
          · refine V_istore dX7_order_120 (by decide) rfl (ls' := [.ref 82, .int l1, .int l2, .int l3, .int l4, .int ((if l4 ≤ v4 then l5 else l6 : Int32)), .int l6]) rfl rfl ?_
            refine V_aload_n dX7_order_122 rfl rfl rfl ?_
            refine F_getR dX7_order_123 fl_X7_29 ly_82 rfl rfl ?_
            refine V_iload_n dX7_order_126 rfl rfl rfl ?_
            refine A_ld0 dX7_order_127 rfl h fun v5 h => ?_
            refine V_iload dX7_order_128 rfl rfl ?_
            refine A_icmp_ge dX7_order_130 rfl rfl h (fun h => ?_) (fun h => ?_)
            · refine V_iload dX7_order_142 rfl rfl ?_
              refine V_weak [true, true, true, true, false, true, true] rfl ?_
              exact okX7_order_b144 (fun x4 x5 x6 F h => ih x4 x5 x6 F h) h
            · refine V_aload_n dX7_order_133 rfl rfl rfl ?_
              refine F_getR dX7_order_134 fl_X7_29 ly_82 rfl rfl ?_
              refine V_iload_n dX7_order_137 rfl rfl rfl ?_
              refine A_ld0 dX7_order_138 rfl h fun v6 h => ?_
              refine V_goto dX7_order_139 rfl ?_
              refine V_weak [true, true, true, true, false, true, true] rfl ?_
              exact okX7_order_b144 (fun x4 x5 x6 F h => ih x4 x5 x6 F h) h
theorem okX7_order_L30 {N d : Nat} {l1 : Int32} {l2 : Int32} {res : Int32 × FF} : ∀ (n : Nat) (l3 : Int32) (l4 : Int32) (F : FF), fX7_order_L30 N l1 l2 n l3 l4 F = some res → FV cX7_order 7 RX7 (d + 4) (some .int) none 30 [.ref 82, .int l1, .int l2, .int l3, .int l4, .null, .null] [] F (RI res) := by
  intro n
  induction n with
  | zero =>
    intro l3 l4 F h
    rw [fX7_order_L30.eq_1] at h
    cases h
  | succ n ih =>
    intro l3 l4 F h
    rw [fX7_order_L30.eq_2] at h
    refine V_iload dX7_order_30 rfl rfl ?_
    refine V_aload_n dX7_order_32 rfl rfl rfl ?_
    refine F_getI dX7_order_33 fl_X7_13 ly_82 rfl rfl ?_
    refine A_icmp_ge dX7_order_36 rfl rfl h (fun h => ?_) (fun h => ?_)
    · refine V_ldc dX7_order_52 kc_X7_205 rfl ?_
      refine V_istore dX7_order_54 (by decide) rfl (ls' := [.ref 82, .int l1, .int l2, .int l3, .int 1000000, .null, .null]) rfl rfl ?_
      refine V_iconst dX7_order_56 ci_0 rfl ?_
      refine V_istore dX7_order_57 (by decide) rfl (ls' := [.ref 82, .int l1, .int l2, .int l3, .int 1000000, .int 0, .null]) rfl rfl ?_
      refine V_iconst dX7_order_59 ci_0 rfl ?_
      refine V_istore dX7_order_60 (by decide) rfl (ls' := [.ref 82, .int l1, .int l2, .int l3, .int 1000000, .int 0, .int 0]) rfl rfl ?_
      exact okX7_order_L62 _ _ _ _ _ h
    · refine V_iload_n dX7_order_39 rfl rfl rfl ?_
      refine V_aload_n dX7_order_40 rfl rfl rfl ?_
      refine F_getI dX7_order_41 fl_X7_13 ly_82 rfl rfl ?_
      refine V_imul dX7_order_44 rfl ?_
      refine V_istore_n dX7_order_45 rfl (by decide) rfl (ls' := [.ref 82, .int l1, .int l2, .int (l3 * (F 82 1)), .int l4, .null, .null]) rfl rfl ?_
      refine V_iinc dX7_order_46 (v := l4 + 1) rfl (by rw [ci_1]) rfl (ls' := [.ref 82, .int l1, .int l2, .int (l3 * (F 82 1)), .int (l4 + 1), .null, .null]) rfl rfl ?_
      refine V_goto dX7_order_49 rfl ?_
      exact ih (l3 * (F 82 1)) (l4 + 1) F h
theorem okX7_order_b25 {N d : Nat} {l1 : Int32} {l2 : Int32} {F : FF} {res : Int32 × FF} (h : fX7_order_b25 N l1 l2 F = some res) : FV cX7_order 7 RX7 (d + 4) (some .int) none 25 [.ref 82, .int l1, .int l2, .null, .null, .null, .null] [] F (RI res) := by
  unfold fX7_order_b25 at h
  refine V_iconst dX7_order_25 ci_1 rfl ?_
  refine V_istore_n dX7_order_26 rfl (by decide) rfl (ls' := [.ref 82, .int l1, .int l2, .int 1, .null, .null, .null]) rfl rfl ?_
  refine V_iconst dX7_order_27 ci_0 rfl ?_
  refine V_istore dX7_order_28 (by decide) rfl (ls' := [.ref 82, .int l1, .int l2, .int 1, .int 0, .null, .null]) rfl rfl ?_
  exact okX7_order_L30 _ _ _ _ h
theorem okX7_order {N d : Nat} {l1 : Int32} {l2 : Int32} {F : FF} {res : Int32 × FF} (h : fX7_order N l1 l2 F = some res) : FV cX7_order 7 RX7 (d + 4) (some .int) none 0 [.ref 82, .int l1, .int l2, .null, .null, .null, .null] [] F (RI res) := by
  unfold fX7_order at h
  refine V_aload_n dX7_order_0 rfl rfl rfl ?_
  refine V_iload_n dX7_order_1 rfl rfl rfl ?_
  refine A_callC (ci := 7) eI dX7_order_2 cl_X7_162 (by decide) rfl rfl (As := [.int l1]) (st := []) rfl rfl (Nat.le_of_ble_eq_true rfl) rfl h (fun _ _ h => cp_X7_isShelf (d := d + 2) h) fun v1 F1 h => ?_
  refine A_if_eq dX7_order_5 rfl rfl h (fun h => ?_) (fun h => ?_)
  · refine V_iconst dX7_order_23 ci_m1 rfl ?_
    exact A_ireturn dX7_order_24 rfl h
  · refine V_iload_n dX7_order_8 rfl rfl rfl ?_
    refine A_if_eq dX7_order_9 rfl rfl h (fun h => ?_) (fun h => ?_)
    · exact okX7_order_b25 h
    · refine V_aload_n dX7_order_12 rfl rfl rfl ?_
      refine V_iload_n dX7_order_13 rfl rfl rfl ?_
      refine V_bipush dX7_order_14 cb_10 rfl ?_
      refine V_isub dX7_order_16 rfl ?_
      refine A_callC (ci := 7) eI dX7_order_17 cl_X7_166 (by decide) rfl rfl (As := [.int (l2 - 10)]) (st := []) rfl rfl (Nat.le_of_ble_eq_true rfl) rfl h (fun _ _ h => cp_X7_isBook (d := d + 2) h) fun v2 F2 h => ?_
      refine A_if_ne dX7_order_20 rfl rfl h (fun h => ?_) (fun h => ?_)
      · exact okX7_order_b25 h
      · refine V_iconst dX7_order_23 ci_m1 rfl ?_
        exact A_ireturn dX7_order_24 rfl h
theorem cp_X7_order {N d : Nat} {l1 : Int32} {l2 : Int32} {F F' : FF} {r : Int32} (h : fX7_order N l1 l2 F = some (r, F')) : CP (d + 4) mX7_order [.ref 82, .int l1, .int l2] F (fun r' F'' => r' = eI r ∧ F'' = F') := CP_I rfl (Nat.le_of_ble_eq_true rfl) (okX7_order h)
theorem okX7_kind_b119 {N d : Nat} {k50 : Int32 → Int32 → Int32 → FF → Option (Int32 × FF)} {l1 : Int32} {l2 : Int32} {l3 : Int32} {l5 : Int32} {l6 : Int32} {s0 : Int32} {F : FF} {res : Int32 × FF} (hk50 : ∀ (x4 : Int32) (x5 : Int32) (x6 : Int32) (F : FF), k50 x4 x5 x6 F = some res → FV cX7_kind 7 RX7 (d + 4) (some .int) none 50 [.ref 82, .int l1, .int l2, .int l3, .int x4, .int x5, .int x6] [] F (RI res)) (h : fX7_kind_b119 N k50 l1 l2 l3 l5 l6 s0 F = some res) : FV cX7_kind 7 RX7 (d + 4) (some .int) none 119 [.ref 82, .int l1, .int l2, .int l3, .null, .int l5, .int l6] [.int s0] F (RI res) := by
  unfold fX7_kind_b119 at h
  refine V_istore dX7_kind_119 (by decide) rfl (ls' := [.ref 82, .int l1, .int l2, .int l3, .int s0, .int l5, .int l6]) rfl rfl ?_
  refine V_iinc dX7_kind_121 (v := l6 + 1) rfl (by rw [ci_1]) rfl (ls' := [.ref 82, .int l1, .int l2, .int l3, .int s0, .int l5, .int (l6 + 1)]) rfl rfl ?_
  refine V_goto dX7_kind_124 rfl ?_
  exact hk50 s0 l5 (l6 + 1) F h
theorem okX7_kind_L50 {N d : Nat} {l1 : Int32} {l2 : Int32} {l3 : Int32} {res : Int32 × FF} : ∀ (n : Nat) (l4 : Int32) (l5 : Int32) (l6 : Int32) (F : FF), fX7_kind_L50 N l1 l2 l3 n l4 l5 l6 F = some res → FV cX7_kind 7 RX7 (d + 4) (some .int) none 50 [.ref 82, .int l1, .int l2, .int l3, .int l4, .int l5, .int l6] [] F (RI res) := by
  intro n
  induction n with
  | zero =>
    intro l4 l5 l6 F h
    rw [fX7_kind_L50.eq_1] at h
    cases h
  | succ n ih =>
    intro l4 l5 l6 F h
    rw [fX7_kind_L50.eq_2] at h
    refine V_iload dX7_kind_50 rfl rfl ?_
    refine V_iconst dX7_kind_52 ci_4 rfl ?_
    refine A_icmp_ge dX7_kind_53 rfl rfl h (fun h => ?_) (fun h => ?_)
    · refine V_iload_n dX7_kind_127 rfl rfl rfl ?_
      refine V_midI (q := 138) ((if ¬ l3 = 0 then l4 else l5 : Int32)) [] (fun yJ hy hJ => ?_) ?_
      · refine V_if_ne dX7_kind_128 rfl rfl (fun c => ?_) (fun c => ?_)
        · rw [if_pos c] at hy
          refine V_iload dX7_kind_136 rfl rfl ?_
          rw [hy] at hJ
          exact hJ
        · rw [if_neg (fun z => z c)] at hy
          refine V_iload dX7_kind_131 rfl rfl ?_
          refine V_goto dX7_kind_133 rfl ?_
          rw [hy] at hJ
          exact hJ
      · exact A_ireturn dX7_kind_138 rfl h
    · refine V_aload_n dX7_kind_56 rfl rfl rfl ?_
      refine F_getR dX7_kind_57 fl_X7_7 ly_82 rfl rfl ?_
      refine V_sipush dX7_kind_60 cs_375 rfl ?_
      refine V_iload_n dX7_kind_63 rfl rfl rfl ?_
      refine V_iadd dX7_kind_64 rfl ?_
      refine V_iload dX7_kind_65 rfl rfl ?_
      refine A_st0 dX7_kind_67 rfl h fun F1 h => ?_
      refine V_aload_n dX7_kind_68 rfl rfl rfl ?_
      refine V_sipush dX7_kind_69 cs_375 rfl ?_
      refine V_iload_n dX7_kind_72 rfl rfl rfl ?_
      refine A_callC (ci := 7) eI dX7_kind_73 cl_X7_199 (by decide) rfl rfl (As := [.int 375, .int l2]) (st := []) rfl rfl (Nat.le_of_ble_eq_true rfl) rfl h (fun _ _ h => cp_X7_stepsGo (d := d) h) fun v1 F2 h => ?_
      refine V_pop dX7_kind_76 rfl rfl ?_
      refine V_aload_n dX7_kind_77 rfl rfl rfl ?_
      refine F_getR dX7_kind_78 fl_X7_29 ly_82 rfl rfl ?_
      refine V_iload_n dX7_kind_81 rfl rfl rfl ?_
      refine A_ld0 dX7_kind_82 rfl h fun v2 h => ?_
      refine V_iload dX7_kind_83 rfl rfl ?_
      refine V_midI (q := 95) ((if l4 ≤ v2 then l5 else l6 : Int32)) [] (fun yJ hy hJ => ?_) ?_
      · refine V_icmp_ge dX7_kind_85 rfl rfl (fun c => ?_) (fun c => ?_)
        · rw [if_pos c] at hy
          refine V_iload dX7_kind_93 rfl rfl ?_
          rw [hy] at hJ
          exact hJ
        · rw [if_neg c] at hy
          refine V_iload dX7_kind_88 rfl rfl ?_
          refine V_goto dX7_kind_90 rfl ?_
          rw [hy] at hJ
          exact hJ
      · refine V_istore dX7_kind_95 (by decide) rfl (ls' := [.ref 82, .int l1, .int l2, .int l3, .int l4, .int ((if l4 ≤ v2 then l5 else l6 : Int32)), .int l6]) rfl rfl ?_
        refine V_aload_n dX7_kind_97 rfl rfl rfl ?_
        refine F_getR dX7_kind_98 fl_X7_29 ly_82 rfl rfl ?_
        refine V_iload_n dX7_kind_101 rfl rfl rfl ?_
        refine A_ld0 dX7_kind_102 rfl h fun v3 h => ?_
        refine V_iload dX7_kind_103 rfl rfl ?_
        refine A_icmp_ge dX7_kind_105 rfl rfl h (fun h => ?_) (fun h => ?_)
        · refine V_iload dX7_kind_117 rfl rfl ?_
          refine V_weak [true, true, true, true, false, true, true] rfl ?_
          exact okX7_kind_b119 (fun x4 x5 x6 F h => ih x4 x5 x6 F h) h
        · refine V_aload_n dX7_kind_108 rfl rfl rfl ?_
          refine F_getR dX7_kind_109 fl_X7_29 ly_82 rfl rfl ?_
          refine V_iload_n dX7_kind_112 rfl rfl rfl ?_
          refine A_ld0 dX7_kind_113 rfl h fun v4 h => ?_
          refine V_goto dX7_kind_114 rfl ?_
          refine V_weak [true, true, true, true, false, true, true] rfl ?_
          exact okX7_kind_b119 (fun x4 x5 x6 F h => ih x4 x5 x6 F h) h
theorem okX7_kind {N d : Nat} {l1 : Int32} {l2 : Int32} {l3 : Int32} {F : FF} {res : Int32 × FF} (h : fX7_kind N l1 l2 l3 F = some res) : FV cX7_kind 7 RX7 (d + 4) (some .int) none 0 [.ref 82, .int l1, .int l2, .int l3, .null, .null, .null] [] F (RI res) := by
  unfold fX7_kind at h
  refine V_aload_n dX7_kind_0 rfl rfl rfl ?_
  refine V_iload_n dX7_kind_1 rfl rfl rfl ?_
  refine A_callC (ci := 7) eI dX7_kind_2 cl_X7_162 (by decide) rfl rfl (As := [.int l1]) (st := []) rfl rfl (Nat.le_of_ble_eq_true rfl) rfl h (fun _ _ h => cp_X7_isShelf (d := d + 2) h) fun v1 F1 h => ?_
  refine A_if_eq dX7_kind_5 rfl rfl h (fun h => ?_) (fun h => ?_)
  · refine V_iconst dX7_kind_30 ci_m1 rfl ?_
    exact A_ireturn dX7_kind_31 rfl h
  · refine V_iload_n dX7_kind_8 rfl rfl rfl ?_
    refine V_i2l dX7_kind_9 rfl ?_
    refine V_lconst dX7_kind_10 cl_0 rfl ?_
    refine V_ldc2 dX7_kind_11 kc_X7_197 rfl ?_
    refine P_callS dX7_kind_14 cl_X7_56 (cq_X7_in (d := d + 3)) (As := [.long l2.toInt64, .long 0, .long 200]) (st := []) rfl rfl (Nat.le_of_ble_eq_true rfl) rfl ?_
    refine A_if_eq dX7_kind_17 rfl rfl h (fun h => ?_) (fun h => ?_)
    · refine V_iconst dX7_kind_30 ci_m1 rfl ?_
      exact A_ireturn dX7_kind_31 rfl h
    · refine V_iload_n dX7_kind_20 rfl rfl rfl ?_
      refine V_i2l dX7_kind_21 rfl ?_
      refine V_lconst dX7_kind_22 cl_0 rfl ?_
      refine V_lconst dX7_kind_23 cl_1 rfl ?_
      refine P_callS dX7_kind_24 cl_X7_56 (cq_X7_in (d := d + 3)) (As := [.long l3.toInt64, .long 0, .long 1]) (st := []) rfl rfl (Nat.le_of_ble_eq_true rfl) rfl ?_
      refine A_if_ne dX7_kind_27 rfl rfl h (fun h => ?_) (fun h => ?_)
      · refine V_ldc dX7_kind_32 kc_X7_205 rfl ?_
        refine V_istore dX7_kind_34 (by decide) rfl (ls' := [.ref 82, .int l1, .int l2, .int l3, .int 1000000, .null, .null]) rfl rfl ?_
        refine V_iconst dX7_kind_36 ci_0 rfl ?_
        refine V_istore dX7_kind_37 (by decide) rfl (ls' := [.ref 82, .int l1, .int l2, .int l3, .int 1000000, .int 0, .null]) rfl rfl ?_
        refine V_aload_n dX7_kind_39 rfl rfl rfl ?_
        refine V_iconst dX7_kind_40 ci_0 rfl ?_
        refine V_sipush dX7_kind_41 cs_375 rfl ?_
        refine A_callC (ci := 7) eU dX7_kind_44 cl_X7_193 (by decide) rfl rfl (As := [.int 0, .int 375]) (st := []) rfl rfl (Nat.le_of_ble_eq_true rfl) rfl h (fun _ _ h => cp_X7_copies (d := d + 3) h) fun _ F2 h => ?_
        refine V_iconst dX7_kind_47 ci_0 rfl ?_
        refine V_istore dX7_kind_48 (by decide) rfl (ls' := [.ref 82, .int l1, .int l2, .int l3, .int 1000000, .int 0, .int 0]) rfl rfl ?_
        exact okX7_kind_L50 _ _ _ _ _ h
      · refine V_iconst dX7_kind_30 ci_m1 rfl ?_
        exact A_ireturn dX7_kind_31 rfl h
theorem cp_X7_kind {N d : Nat} {l1 : Int32} {l2 : Int32} {l3 : Int32} {F F' : FF} {r : Int32} (h : fX7_kind N l1 l2 l3 F = some (r, F')) : CP (d + 4) mX7_kind [.ref 82, .int l1, .int l2, .int l3] F (fun r' F'' => r' = eI r ∧ F'' = F') := CP_I rfl (Nat.le_of_ble_eq_true rfl) (okX7_kind h)
theorem okX7_first_b129 {N d : Nat} {k42 : Int32 → Int32 → Int32 → FF → Option (Int32 × FF)} {l1 : Int32} {l2 : Int32} {l3 : Int32} {l5 : Int32} {l6 : Int32} {s0 : Int32} {F : FF} {res : Int32 × FF} (hk42 : ∀ (x4 : Int32) (x5 : Int32) (x6 : Int32) (F : FF), k42 x4 x5 x6 F = some res → FV cX7_first 7 RX7 (d + 4) (some .int) none 42 [.ref 82, .int l1, .int l2, .int l3, .int x4, .int x5, .int x6] [] F (RI res)) (h : fX7_first_b129 N k42 l1 l2 l3 l5 l6 s0 F = some res) : FV cX7_first 7 RX7 (d + 4) (some .int) none 129 [.ref 82, .int l1, .int l2, .int l3, .null, .int l5, .int l6] [.int s0] F (RI res) := by
  unfold fX7_first_b129 at h
  refine V_istore dX7_first_129 (by decide) rfl (ls' := [.ref 82, .int l1, .int l2, .int l3, .int s0, .int l5, .int l6]) rfl rfl ?_
  refine V_iinc dX7_first_131 (v := l6 + 1) rfl (by rw [ci_1]) rfl (ls' := [.ref 82, .int l1, .int l2, .int l3, .int s0, .int l5, .int (l6 + 1)]) rfl rfl ?_
  refine V_goto dX7_first_134 rfl ?_
  exact hk42 s0 l5 (l6 + 1) F h
theorem okX7_first_L42 {N d : Nat} {l1 : Int32} {l2 : Int32} {l3 : Int32} {res : Int32 × FF} : ∀ (n : Nat) (l4 : Int32) (l5 : Int32) (l6 : Int32) (F : FF), fX7_first_L42 N l1 l2 l3 n l4 l5 l6 F = some res → FV cX7_first 7 RX7 (d + 4) (some .int) none 42 [.ref 82, .int l1, .int l2, .int l3, .int l4, .int l5, .int l6] [] F (RI res) := by
  intro n
  induction n with
  | zero =>
    intro l4 l5 l6 F h
    rw [fX7_first_L42.eq_1] at h
    cases h
  | succ n ih =>
    intro l4 l5 l6 F h
    rw [fX7_first_L42.eq_2] at h
    refine V_iload dX7_first_42 rfl rfl ?_
    refine V_aload_n dX7_first_44 rfl rfl rfl ?_
    refine F_getI dX7_first_45 fl_X7_13 ly_82 rfl rfl ?_
    refine A_icmp_ge dX7_first_48 rfl rfl h (fun h => ?_) (fun h => ?_)
    · refine V_iload_n dX7_first_137 rfl rfl rfl ?_
      refine V_midI (q := 148) ((if ¬ l3 = 0 then l4 else l5 : Int32)) [] (fun yJ hy hJ => ?_) ?_
      · refine V_if_ne dX7_first_138 rfl rfl (fun c => ?_) (fun c => ?_)
        · rw [if_pos c] at hy
          refine V_iload dX7_first_146 rfl rfl ?_
          rw [hy] at hJ
          exact hJ
        · rw [if_neg (fun z => z c)] at hy
          refine V_iload dX7_first_141 rfl rfl ?_
          refine V_goto dX7_first_143 rfl ?_
          rw [hy] at hJ
          exact hJ
      · exact A_ireturn dX7_first_148 rfl h
    · refine V_aload_n dX7_first_51 rfl rfl rfl ?_
      refine V_iconst dX7_first_52 ci_0 rfl ?_
      refine V_sipush dX7_first_53 cs_375 rfl ?_
      refine A_callC (ci := 7) eU dX7_first_56 cl_X7_193 (by decide) rfl rfl (As := [.int 0, .int 375]) (st := []) rfl rfl (Nat.le_of_ble_eq_true rfl) rfl h (fun _ _ h => cp_X7_copies (d := d + 3) h) fun _ F1 h => ?_
      refine V_aload_n dX7_first_59 rfl rfl rfl ?_
      refine V_sipush dX7_first_60 cs_375 rfl ?_
      refine V_iload_n dX7_first_63 rfl rfl rfl ?_
      refine V_aload_n dX7_first_64 rfl rfl rfl ?_
      refine V_sipush dX7_first_65 cs_375 rfl ?_
      refine V_iload_n dX7_first_68 rfl rfl rfl ?_
      refine V_iload dX7_first_69 rfl rfl ?_
      refine A_callC (ci := 7) eI dX7_first_71 cl_X7_144 (by decide) rfl rfl (As := [.int 375, .int l1, .int l6]) (st := [.int l1, .int 375, .ref 82]) rfl rfl (Nat.le_of_ble_eq_true rfl) rfl h (fun _ _ h => cp_X7_placeOn (d := d + 3) h) fun v1 F2 h => ?_
      refine V_iconst dX7_first_74 ci_0 rfl ?_
      refine A_callC (ci := 7) eU dX7_first_75 cl_X7_152 (by decide) rfl rfl (As := [.int 375, .int l1, .int v1, .int 0]) (st := []) rfl rfl (Nat.le_of_ble_eq_true rfl) rfl h (fun _ _ h => cp_X7_standsOn (d := d + 3) h) fun _ F3 h => ?_
      refine V_aload_n dX7_first_78 rfl rfl rfl ?_
      refine V_sipush dX7_first_79 cs_375 rfl ?_
      refine V_iload_n dX7_first_82 rfl rfl rfl ?_
      refine A_callC (ci := 7) eI dX7_first_83 cl_X7_199 (by decide) rfl rfl (As := [.int 375, .int l2]) (st := []) rfl rfl (Nat.le_of_ble_eq_true rfl) rfl h (fun _ _ h => cp_X7_stepsGo (d := d) h) fun v2 F4 h => ?_
      refine V_pop dX7_first_86 rfl rfl ?_
      refine V_aload_n dX7_first_87 rfl rfl rfl ?_
      refine F_getR dX7_first_88 fl_X7_29 ly_82 rfl rfl ?_
      refine V_iload_n dX7_first_91 rfl rfl rfl ?_
      refine A_ld0 dX7_first_92 rfl h fun v3 h => ?_
      refine V_iload dX7_first_93 rfl rfl ?_
      refine V_midI (q := 105) ((if l4 ≤ v3 then l5 else l6 : Int32)) [] (fun yJ hy hJ => ?_) ?_
      · refine V_icmp_ge dX7_first_95 rfl rfl (fun c => ?_) (fun c => ?_)
        · rw [if_pos c] at hy
          refine V_iload dX7_first_103 rfl rfl ?_
          rw [hy] at hJ
          exact hJ
        · rw [if_neg c] at hy
          refine V_iload dX7_first_98 rfl rfl ?_
          refine V_goto dX7_first_100 rfl ?_
          rw [hy] at hJ
          exact hJ
      · refine V_istore dX7_first_105 (by decide) rfl (ls' := [.ref 82, .int l1, .int l2, .int l3, .int l4, .int ((if l4 ≤ v3 then l5 else l6 : Int32)), .int l6]) rfl rfl ?_
        refine V_aload_n dX7_first_107 rfl rfl rfl ?_
        refine F_getR dX7_first_108 fl_X7_29 ly_82 rfl rfl ?_
        refine V_iload_n dX7_first_111 rfl rfl rfl ?_
        refine A_ld0 dX7_first_112 rfl h fun v4 h => ?_
        refine V_iload dX7_first_113 rfl rfl ?_
        refine A_icmp_ge dX7_first_115 rfl rfl h (fun h => ?_) (fun h => ?_)
        · refine V_iload dX7_first_127 rfl rfl ?_
          refine V_weak [true, true, true, true, false, true, true] rfl ?_
          exact okX7_first_b129 (fun x4 x5 x6 F h => ih x4 x5 x6 F h) h
        · refine V_aload_n dX7_first_118 rfl rfl rfl ?_
          refine F_getR dX7_first_119 fl_X7_29 ly_82 rfl rfl ?_
          refine V_iload_n dX7_first_122 rfl rfl rfl ?_
          refine A_ld0 dX7_first_123 rfl h fun v5 h => ?_
          refine V_goto dX7_first_124 rfl ?_
          refine V_weak [true, true, true, true, false, true, true] rfl ?_
          exact okX7_first_b129 (fun x4 x5 x6 F h => ih x4 x5 x6 F h) h
theorem okX7_first {N d : Nat} {l1 : Int32} {l2 : Int32} {l3 : Int32} {F : FF} {res : Int32 × FF} (h : fX7_first N l1 l2 l3 F = some res) : FV cX7_first 7 RX7 (d + 4) (some .int) none 0 [.ref 82, .int l1, .int l2, .int l3, .null, .null, .null] [] F (RI res) := by
  unfold fX7_first at h
  refine V_aload_n dX7_first_0 rfl rfl rfl ?_
  refine V_iload_n dX7_first_1 rfl rfl rfl ?_
  refine A_callC (ci := 7) eI dX7_first_2 cl_X7_162 (by decide) rfl rfl (As := [.int l1]) (st := []) rfl rfl (Nat.le_of_ble_eq_true rfl) rfl h (fun _ _ h => cp_X7_isShelf (d := d + 2) h) fun v1 F1 h => ?_
  refine A_if_eq dX7_first_5 rfl rfl h (fun h => ?_) (fun h => ?_)
  · refine V_iconst dX7_first_30 ci_m1 rfl ?_
    exact A_ireturn dX7_first_31 rfl h
  · refine V_iload_n dX7_first_8 rfl rfl rfl ?_
    refine V_i2l dX7_first_9 rfl ?_
    refine V_lconst dX7_first_10 cl_0 rfl ?_
    refine V_ldc2 dX7_first_11 kc_X7_197 rfl ?_
    refine P_callS dX7_first_14 cl_X7_56 (cq_X7_in (d := d + 3)) (As := [.long l2.toInt64, .long 0, .long 200]) (st := []) rfl rfl (Nat.le_of_ble_eq_true rfl) rfl ?_
    refine A_if_eq dX7_first_17 rfl rfl h (fun h => ?_) (fun h => ?_)
    · refine V_iconst dX7_first_30 ci_m1 rfl ?_
      exact A_ireturn dX7_first_31 rfl h
    · refine V_iload_n dX7_first_20 rfl rfl rfl ?_
      refine V_i2l dX7_first_21 rfl ?_
      refine V_lconst dX7_first_22 cl_0 rfl ?_
      refine V_lconst dX7_first_23 cl_1 rfl ?_
      refine P_callS dX7_first_24 cl_X7_56 (cq_X7_in (d := d + 3)) (As := [.long l3.toInt64, .long 0, .long 1]) (st := []) rfl rfl (Nat.le_of_ble_eq_true rfl) rfl ?_
      refine A_if_ne dX7_first_27 rfl rfl h (fun h => ?_) (fun h => ?_)
      · refine V_ldc dX7_first_32 kc_X7_205 rfl ?_
        refine V_istore dX7_first_34 (by decide) rfl (ls' := [.ref 82, .int l1, .int l2, .int l3, .int 1000000, .null, .null]) rfl rfl ?_
        refine V_iconst dX7_first_36 ci_0 rfl ?_
        refine V_istore dX7_first_37 (by decide) rfl (ls' := [.ref 82, .int l1, .int l2, .int l3, .int 1000000, .int 0, .null]) rfl rfl ?_
        refine V_iconst dX7_first_39 ci_0 rfl ?_
        refine V_istore dX7_first_40 (by decide) rfl (ls' := [.ref 82, .int l1, .int l2, .int l3, .int 1000000, .int 0, .int 0]) rfl rfl ?_
        exact okX7_first_L42 _ _ _ _ _ h
      · refine V_iconst dX7_first_30 ci_m1 rfl ?_
        exact A_ireturn dX7_first_31 rfl h
theorem cp_X7_first {N d : Nat} {l1 : Int32} {l2 : Int32} {l3 : Int32} {F F' : FF} {r : Int32} (h : fX7_first N l1 l2 l3 F = some (r, F')) : CP (d + 4) mX7_first [.ref 82, .int l1, .int l2, .int l3] F (fun r' F'' => r' = eI r ∧ F'' = F') := CP_I rfl (Nat.le_of_ble_eq_true rfl) (okX7_first h)
theorem okX7_swap_L56 {N d : Nat} {k38 : Int32 → Int32 → Int32 → FF → Option (Int32 × FF)} {l1 : Int32} {l2 : Int32} {l5 : Int32} {res : Int32 × FF} (hk38 : ∀ (x3 : Int32) (x4 : Int32) (x5 : Int32) (F : FF), k38 x3 x4 x5 F = some res → FV cX7_swap 8 RX7 (d + 4) (some .int) none 38 [.ref 82, .int l1, .int l2, .int x3, .int x4, .int x5, .null, .null] [] F (RI res)) : ∀ (n : Nat) (l3 : Int32) (l4 : Int32) (l6 : Int32) (F : FF), fX7_swap_L56 N k38 l1 l2 l5 n l3 l4 l6 F = some res → FV cX7_swap 8 RX7 (d + 4) (some .int) none 56 [.ref 82, .int l1, .int l2, .int l3, .int l4, .int l5, .int l6, .null] [] F (RI res) := by
  intro n
  induction n with
  | zero =>
    intro l3 l4 l6 F h
    rw [fX7_swap_L56.eq_1] at h
    cases h
  | succ n ih =>
    intro l3 l4 l6 F h
    rw [fX7_swap_L56.eq_2] at h
    refine V_iload dX7_swap_56 rfl rfl ?_
    refine V_aload_n dX7_swap_58 rfl rfl rfl ?_
    refine F_getR dX7_swap_59 fl_X7_7 ly_82 rfl rfl ?_
    refine V_bipush dX7_swap_62 cb_25 rfl ?_
    refine F_iald dX7_swap_64 ly_83 (j := 25) (by decide) (by decide) (by decide) rfl ?_
    refine A_icmp_ge dX7_swap_65 rfl rfl h (fun h => ?_) (fun h => ?_)
    · refine V_iinc dX7_swap_168 (v := l5 + 1) rfl (by rw [ci_1]) rfl (ls' := [.ref 82, .int l1, .int l2, .int l3, .int l4, .int (l5 + 1), .int l6, .null]) rfl rfl ?_
      refine V_goto dX7_swap_171 rfl ?_
      refine V_weak [true, true, true, true, true, true, false, false] rfl ?_
      exact hk38 l3 l4 (l5 + 1) F h
    · refine V_aload_n dX7_swap_68 rfl rfl rfl ?_
      refine V_iconst dX7_swap_69 ci_0 rfl ?_
      refine V_sipush dX7_swap_70 cs_375 rfl ?_
      refine A_callC (ci := 7) eU dX7_swap_73 cl_X7_193 (by decide) rfl rfl (As := [.int 0, .int 375]) (st := []) rfl rfl (Nat.le_of_ble_eq_true rfl) rfl h (fun _ _ h => cp_X7_copies (d := d + 3) h) fun _ F1 h => ?_
      refine V_aload_n dX7_swap_76 rfl rfl rfl ?_
      refine F_getR dX7_swap_77 fl_X7_7 ly_82 rfl rfl ?_
      refine V_sipush dX7_swap_80 cs_384 rfl ?_
      refine V_iload dX7_swap_83 rfl rfl ?_
      refine V_iadd dX7_swap_85 rfl ?_
      refine V_aload_n dX7_swap_86 rfl rfl rfl ?_
      refine F_getR dX7_swap_87 fl_X7_7 ly_82 rfl rfl ?_
      refine V_bipush dX7_swap_90 cb_9 rfl ?_
      refine V_iload dX7_swap_92 rfl rfl ?_
      refine V_iadd dX7_swap_94 rfl ?_
      refine A_ld0 dX7_swap_95 rfl h fun v1 h => ?_
      refine A_st0 dX7_swap_96 rfl h fun F2 h => ?_
      refine V_aload_n dX7_swap_97 rfl rfl rfl ?_
      refine F_getR dX7_swap_98 fl_X7_7 ly_82 rfl rfl ?_
      refine V_sipush dX7_swap_101 cs_384 rfl ?_
      refine V_iload dX7_swap_104 rfl rfl ?_
      refine V_iadd dX7_swap_106 rfl ?_
      refine V_aload_n dX7_swap_107 rfl rfl rfl ?_
      refine F_getR dX7_swap_108 fl_X7_7 ly_82 rfl rfl ?_
      refine V_bipush dX7_swap_111 cb_9 rfl ?_
      refine V_iload dX7_swap_113 rfl rfl ?_
      refine V_iadd dX7_swap_115 rfl ?_
      refine A_ld0 dX7_swap_116 rfl h fun v2 h => ?_
      refine A_st0 dX7_swap_117 rfl h fun F3 h => ?_
      refine V_aload_n dX7_swap_118 rfl rfl rfl ?_
      refine V_sipush dX7_swap_119 cs_375 rfl ?_
      refine V_iload_n dX7_swap_122 rfl rfl rfl ?_
      refine A_callC (ci := 7) eI dX7_swap_123 cl_X7_199 (by decide) rfl rfl (As := [.int 375, .int l1]) (st := []) rfl rfl (Nat.le_of_ble_eq_true rfl) rfl h (fun _ _ h => cp_X7_stepsGo (d := d) h) fun v3 F4 h => ?_
      refine V_istore dX7_swap_126 (by decide) rfl (ls' := [.ref 82, .int l1, .int l2, .int l3, .int l4, .int l5, .int l6, .int v3]) rfl rfl ?_
      refine V_iload dX7_swap_128 rfl rfl ?_
      refine V_iload_n dX7_swap_130 rfl rfl rfl ?_
      refine V_midI (q := 147) ((if l3 ≤ v3 then l4 else ((100 * l5) + l6) : Int32)) [] (fun yJ hy hJ => ?_) ?_
      · refine V_icmp_ge dX7_swap_131 rfl rfl (fun c => ?_) (fun c => ?_)
        · rw [if_pos c] at hy
          refine V_iload dX7_swap_145 rfl rfl ?_
          rw [hy] at hJ
          exact hJ
        · rw [if_neg c] at hy
          refine V_bipush dX7_swap_134 cb_100 rfl ?_
          refine V_iload dX7_swap_136 rfl rfl ?_
          refine V_imul dX7_swap_138 rfl ?_
          refine V_iload dX7_swap_139 rfl rfl ?_
          refine V_iadd dX7_swap_141 rfl ?_
          refine V_goto dX7_swap_142 rfl ?_
          rw [hy] at hJ
          exact hJ
      · refine V_istore dX7_swap_147 (by decide) rfl (ls' := [.ref 82, .int l1, .int l2, .int l3, .int ((if l3 ≤ v3 then l4 else ((100 * l5) + l6) : Int32)), .int l5, .int l6, .int v3]) rfl rfl ?_
        refine V_iload dX7_swap_149 rfl rfl ?_
        refine V_iload_n dX7_swap_151 rfl rfl rfl ?_
        refine V_midI (q := 161) ((if l3 ≤ v3 then l3 else v3 : Int32)) [] (fun yJ hy hJ => ?_) ?_
        · refine V_icmp_ge dX7_swap_152 rfl rfl (fun c => ?_) (fun c => ?_)
          · rw [if_pos c] at hy
            refine V_iload_n dX7_swap_160 rfl rfl rfl ?_
            rw [hy] at hJ
            exact hJ
          · rw [if_neg c] at hy
            refine V_iload dX7_swap_155 rfl rfl ?_
            refine V_goto dX7_swap_157 rfl ?_
            rw [hy] at hJ
            exact hJ
        · refine V_istore_n dX7_swap_161 rfl (by decide) rfl (ls' := [.ref 82, .int l1, .int l2, .int ((if l3 ≤ v3 then l3 else v3 : Int32)), .int ((if l3 ≤ v3 then l4 else ((100 * l5) + l6) : Int32)), .int l5, .int l6, .int v3]) rfl rfl ?_
          refine V_iinc dX7_swap_162 (v := l6 + 1) rfl (by rw [ci_1]) rfl (ls' := [.ref 82, .int l1, .int l2, .int ((if l3 ≤ v3 then l3 else v3 : Int32)), .int ((if l3 ≤ v3 then l4 else ((100 * l5) + l6) : Int32)), .int l5, .int (l6 + 1), .int v3]) rfl rfl ?_
          refine V_goto dX7_swap_165 rfl ?_
          refine V_weak [true, true, true, true, true, true, true, false] rfl ?_
          exact ih ((if l3 ≤ v3 then l3 else v3 : Int32)) ((if l3 ≤ v3 then l4 else ((100 * l5) + l6) : Int32)) (l6 + 1) F4 h
theorem okX7_swap_L38 {N d : Nat} {l1 : Int32} {l2 : Int32} {res : Int32 × FF} : ∀ (n : Nat) (l3 : Int32) (l4 : Int32) (l5 : Int32) (F : FF), fX7_swap_L38 N l1 l2 n l3 l4 l5 F = some res → FV cX7_swap 8 RX7 (d + 4) (some .int) none 38 [.ref 82, .int l1, .int l2, .int l3, .int l4, .int l5, .null, .null] [] F (RI res) := by
  intro n
  induction n with
  | zero =>
    intro l3 l4 l5 F h
    rw [fX7_swap_L38.eq_1] at h
    cases h
  | succ n ih =>
    intro l3 l4 l5 F h
    rw [fX7_swap_L38.eq_2] at h
    refine V_iload dX7_swap_38 rfl rfl ?_
    refine V_aload_n dX7_swap_40 rfl rfl rfl ?_
    refine F_getR dX7_swap_41 fl_X7_7 ly_82 rfl rfl ?_
    refine V_bipush dX7_swap_44 cb_25 rfl ?_
    refine F_iald dX7_swap_46 ly_83 (j := 25) (by decide) (by decide) (by decide) rfl ?_
    refine A_icmp_ge dX7_swap_47 rfl rfl h (fun h => ?_) (fun h => ?_)
    · refine V_iload dX7_swap_174 rfl rfl ?_
      refine V_bipush dX7_swap_176 cb_m4 rfl ?_
      refine V_midI (q := 191) ((if l4 = ((-4)) then l4 else (if ¬ l2 = 0 then l3 else l4) : Int32)) [] (fun yJ hy hJ => ?_) ?_
      · refine V_icmp_eq dX7_swap_178 rfl rfl (fun c => ?_) (fun c => ?_)
        · rw [if_pos c] at hy
          refine V_iload dX7_swap_185 rfl rfl ?_
          refine V_goto dX7_swap_187 rfl ?_
          rw [hy] at hJ
          exact hJ
        · rw [if_neg c] at hy
          refine V_iload_n dX7_swap_181 rfl rfl rfl ?_
          refine V_if_ne dX7_swap_182 rfl rfl (fun c => ?_) (fun c => ?_)
          · rw [if_pos c] at hy
            refine V_iload_n dX7_swap_190 rfl rfl rfl ?_
            rw [hy] at hJ
            exact hJ
          · rw [if_neg (fun z => z c)] at hy
            refine V_iload dX7_swap_185 rfl rfl ?_
            refine V_goto dX7_swap_187 rfl ?_
            rw [hy] at hJ
            exact hJ
      · exact A_ireturn dX7_swap_191 rfl h
    · refine V_iload dX7_swap_50 rfl rfl ?_
      refine V_iconst dX7_swap_52 ci_1 rfl ?_
      refine V_iadd dX7_swap_53 rfl ?_
      refine V_istore dX7_swap_54 (by decide) rfl (ls' := [.ref 82, .int l1, .int l2, .int l3, .int l4, .int l5, .int (l5 + 1), .null]) rfl rfl ?_
      exact okX7_swap_L56 (fun x3 x4 x5 F h => ih x3 x4 x5 F h) _ _ _ _ _ h
theorem okX7_swap {N d : Nat} {l1 : Int32} {l2 : Int32} {F : FF} {res : Int32 × FF} (h : fX7_swap N l1 l2 F = some res) : FV cX7_swap 8 RX7 (d + 4) (some .int) none 0 [.ref 82, .int l1, .int l2, .null, .null, .null, .null, .null] [] F (RI res) := by
  unfold fX7_swap at h
  refine V_iload_n dX7_swap_0 rfl rfl rfl ?_
  refine V_i2l dX7_swap_1 rfl ?_
  refine V_lconst dX7_swap_2 cl_0 rfl ?_
  refine V_ldc2 dX7_swap_3 kc_X7_197 rfl ?_
  refine P_callS dX7_swap_6 cl_X7_56 (cq_X7_in (d := d + 3)) (As := [.long l1.toInt64, .long 0, .long 200]) (st := []) rfl rfl (Nat.le_of_ble_eq_true rfl) rfl ?_
  refine A_if_eq dX7_swap_9 rfl rfl h (fun h => ?_) (fun h => ?_)
  · refine V_iconst dX7_swap_22 ci_m1 rfl ?_
    exact A_ireturn dX7_swap_23 rfl h
  · refine V_iload_n dX7_swap_12 rfl rfl rfl ?_
    refine V_i2l dX7_swap_13 rfl ?_
    refine V_lconst dX7_swap_14 cl_0 rfl ?_
    refine V_lconst dX7_swap_15 cl_1 rfl ?_
    refine P_callS dX7_swap_16 cl_X7_56 (cq_X7_in (d := d + 3)) (As := [.long l2.toInt64, .long 0, .long 1]) (st := []) rfl rfl (Nat.le_of_ble_eq_true rfl) rfl ?_
    refine A_if_ne dX7_swap_19 rfl rfl h (fun h => ?_) (fun h => ?_)
    · refine V_aload_n dX7_swap_24 rfl rfl rfl ?_
      refine V_iconst dX7_swap_25 ci_0 rfl ?_
      refine V_iload_n dX7_swap_26 rfl rfl rfl ?_
      refine A_callC (ci := 7) eI dX7_swap_27 cl_X7_199 (by decide) rfl rfl (As := [.int 0, .int l1]) (st := []) rfl rfl (Nat.le_of_ble_eq_true rfl) rfl h (fun _ _ h => cp_X7_stepsGo (d := d) h) fun v1 F1 h => ?_
      refine V_istore_n dX7_swap_30 rfl (by decide) rfl (ls' := [.ref 82, .int l1, .int l2, .int v1, .null, .null, .null, .null]) rfl rfl ?_
      refine V_bipush dX7_swap_31 cb_m4 rfl ?_
      refine V_istore dX7_swap_33 (by decide) rfl (ls' := [.ref 82, .int l1, .int l2, .int v1, .int ((-4)), .null, .null, .null]) rfl rfl ?_
      refine V_iconst dX7_swap_35 ci_0 rfl ?_
      refine V_istore dX7_swap_36 (by decide) rfl (ls' := [.ref 82, .int l1, .int l2, .int v1, .int ((-4)), .int 0, .null, .null]) rfl rfl ?_
      exact okX7_swap_L38 _ _ _ _ _ h
    · refine V_iconst dX7_swap_22 ci_m1 rfl ?_
      exact A_ireturn dX7_swap_23 rfl h
theorem cp_X7_swap {N d : Nat} {l1 : Int32} {l2 : Int32} {F F' : FF} {r : Int32} (h : fX7_swap N l1 l2 F = some (r, F')) : CP (d + 4) mX7_swap [.ref 82, .int l1, .int l2] F (fun r' F'' => r' = eI r ∧ F'' = F') := CP_I rfl (Nat.le_of_ble_eq_true rfl) (okX7_swap h)
theorem okX7_lose_L38 {N d : Nat} {l1 : Int32} {l2 : Int32} {res : Int32 × FF} : ∀ (n : Nat) (l3 : Int32) (l4 : Int32) (l5 : Int32) (F : FF), fX7_lose_L38 N l1 l2 n l3 l4 l5 F = some res → FV cX7_lose 7 RX7 (d + 4) (some .int) none 38 [.ref 82, .int l1, .int l2, .int l3, .int l4, .int l5, .null] [] F (RI res) := by
  intro n
  induction n with
  | zero =>
    intro l3 l4 l5 F h
    rw [fX7_lose_L38.eq_1] at h
    cases h
  | succ n ih =>
    intro l3 l4 l5 F h
    rw [fX7_lose_L38.eq_2] at h
    refine V_iload dX7_lose_38 rfl rfl ?_
    refine V_aload_n dX7_lose_40 rfl rfl rfl ?_
    refine F_getR dX7_lose_41 fl_X7_7 ly_82 rfl rfl ?_
    refine V_bipush dX7_lose_44 cb_25 rfl ?_
    refine F_iald dX7_lose_46 ly_83 (j := 25) (by decide) (by decide) (by decide) rfl ?_
    refine A_icmp_ge dX7_lose_47 rfl rfl h (fun h => ?_) (fun h => ?_)
    · refine V_iload dX7_lose_104 rfl rfl ?_
      refine V_bipush dX7_lose_106 cb_m4 rfl ?_
      refine V_midI (q := 121) ((if l4 = ((-4)) then l4 else (if ¬ l2 = 0 then l3 else l4) : Int32)) [] (fun yJ hy hJ => ?_) ?_
      · refine V_icmp_eq dX7_lose_108 rfl rfl (fun c => ?_) (fun c => ?_)
        · rw [if_pos c] at hy
          refine V_iload dX7_lose_115 rfl rfl ?_
          refine V_goto dX7_lose_117 rfl ?_
          rw [hy] at hJ
          exact hJ
        · rw [if_neg c] at hy
          refine V_iload_n dX7_lose_111 rfl rfl rfl ?_
          refine V_if_ne dX7_lose_112 rfl rfl (fun c => ?_) (fun c => ?_)
          · rw [if_pos c] at hy
            refine V_iload_n dX7_lose_120 rfl rfl rfl ?_
            rw [hy] at hJ
            exact hJ
          · rw [if_neg (fun z => z c)] at hy
            refine V_iload dX7_lose_115 rfl rfl ?_
            refine V_goto dX7_lose_117 rfl ?_
            rw [hy] at hJ
            exact hJ
      · exact A_ireturn dX7_lose_121 rfl h
    · refine V_aload_n dX7_lose_50 rfl rfl rfl ?_
      refine V_iload dX7_lose_51 rfl rfl ?_
      refine A_pn dX7_lose_53 fl_X7_32 rfl (Or.inl rfl) ly_82 rfl rfl h fun F1 h => ?_
      refine V_aload_n dX7_lose_56 rfl rfl rfl ?_
      refine V_iconst dX7_lose_57 ci_0 rfl ?_
      refine V_iload_n dX7_lose_58 rfl rfl rfl ?_
      refine A_callC (ci := 7) eI dX7_lose_59 cl_X7_199 (by decide) rfl rfl (As := [.int 0, .int l1]) (st := []) rfl rfl (Nat.le_of_ble_eq_true rfl) rfl h (fun _ _ h => cp_X7_stepsGo (d := d) h) fun v1 F2 h => ?_
      refine V_istore dX7_lose_62 (by decide) rfl (ls' := [.ref 82, .int l1, .int l2, .int l3, .int l4, .int l5, .int v1]) rfl rfl ?_
      refine V_aload_n dX7_lose_64 rfl rfl rfl ?_
      refine V_bipush dX7_lose_65 cb_m4 rfl ?_
      refine A_pn dX7_lose_67 fl_X7_32 rfl (Or.inl rfl) ly_82 rfl rfl h fun F3 h => ?_
      refine V_iload dX7_lose_70 rfl rfl ?_
      refine V_iload_n dX7_lose_72 rfl rfl rfl ?_
      refine V_midI (q := 83) ((if l3 ≤ v1 then l4 else l5 : Int32)) [] (fun yJ hy hJ => ?_) ?_
      · refine V_icmp_ge dX7_lose_73 rfl rfl (fun c => ?_) (fun c => ?_)
        · rw [if_pos c] at hy
          refine V_iload dX7_lose_81 rfl rfl ?_
          rw [hy] at hJ
          exact hJ
        · rw [if_neg c] at hy
          refine V_iload dX7_lose_76 rfl rfl ?_
          refine V_goto dX7_lose_78 rfl ?_
          rw [hy] at hJ
          exact hJ
      · refine V_istore dX7_lose_83 (by decide) rfl (ls' := [.ref 82, .int l1, .int l2, .int l3, .int ((if l3 ≤ v1 then l4 else l5 : Int32)), .int l5, .int v1]) rfl rfl ?_
        refine V_iload dX7_lose_85 rfl rfl ?_
        refine V_iload_n dX7_lose_87 rfl rfl rfl ?_
        refine V_midI (q := 97) ((if l3 ≤ v1 then l3 else v1 : Int32)) [] (fun yJ hy hJ => ?_) ?_
        · refine V_icmp_ge dX7_lose_88 rfl rfl (fun c => ?_) (fun c => ?_)
          · rw [if_pos c] at hy
            refine V_iload_n dX7_lose_96 rfl rfl rfl ?_
            rw [hy] at hJ
            exact hJ
          · rw [if_neg c] at hy
            refine V_iload dX7_lose_91 rfl rfl ?_
            refine V_goto dX7_lose_93 rfl ?_
            rw [hy] at hJ
            exact hJ
        · refine V_istore_n dX7_lose_97 rfl (by decide) rfl (ls' := [.ref 82, .int l1, .int l2, .int ((if l3 ≤ v1 then l3 else v1 : Int32)), .int ((if l3 ≤ v1 then l4 else l5 : Int32)), .int l5, .int v1]) rfl rfl ?_
          refine V_iinc dX7_lose_98 (v := l5 + 1) rfl (by rw [ci_1]) rfl (ls' := [.ref 82, .int l1, .int l2, .int ((if l3 ≤ v1 then l3 else v1 : Int32)), .int ((if l3 ≤ v1 then l4 else l5 : Int32)), .int (l5 + 1), .int v1]) rfl rfl ?_
          refine V_goto dX7_lose_101 rfl ?_
          refine V_weak [true, true, true, true, true, true, false] rfl ?_
          exact ih ((if l3 ≤ v1 then l3 else v1 : Int32)) ((if l3 ≤ v1 then l4 else l5 : Int32)) (l5 + 1) F3 h
theorem okX7_lose {N d : Nat} {l1 : Int32} {l2 : Int32} {F : FF} {res : Int32 × FF} (h : fX7_lose N l1 l2 F = some res) : FV cX7_lose 7 RX7 (d + 4) (some .int) none 0 [.ref 82, .int l1, .int l2, .null, .null, .null, .null] [] F (RI res) := by
  unfold fX7_lose at h
  refine V_iload_n dX7_lose_0 rfl rfl rfl ?_
  refine V_i2l dX7_lose_1 rfl ?_
  refine V_lconst dX7_lose_2 cl_0 rfl ?_
  refine V_ldc2 dX7_lose_3 kc_X7_197 rfl ?_
  refine P_callS dX7_lose_6 cl_X7_56 (cq_X7_in (d := d + 3)) (As := [.long l1.toInt64, .long 0, .long 200]) (st := []) rfl rfl (Nat.le_of_ble_eq_true rfl) rfl ?_
  refine A_if_eq dX7_lose_9 rfl rfl h (fun h => ?_) (fun h => ?_)
  · refine V_iconst dX7_lose_22 ci_m1 rfl ?_
    exact A_ireturn dX7_lose_23 rfl h
  · refine V_iload_n dX7_lose_12 rfl rfl rfl ?_
    refine V_i2l dX7_lose_13 rfl ?_
    refine V_lconst dX7_lose_14 cl_0 rfl ?_
    refine V_lconst dX7_lose_15 cl_1 rfl ?_
    refine P_callS dX7_lose_16 cl_X7_56 (cq_X7_in (d := d + 3)) (As := [.long l2.toInt64, .long 0, .long 1]) (st := []) rfl rfl (Nat.le_of_ble_eq_true rfl) rfl ?_
    refine A_if_ne dX7_lose_19 rfl rfl h (fun h => ?_) (fun h => ?_)
    · refine V_aload_n dX7_lose_24 rfl rfl rfl ?_
      refine V_iconst dX7_lose_25 ci_0 rfl ?_
      refine V_iload_n dX7_lose_26 rfl rfl rfl ?_
      refine A_callC (ci := 7) eI dX7_lose_27 cl_X7_199 (by decide) rfl rfl (As := [.int 0, .int l1]) (st := []) rfl rfl (Nat.le_of_ble_eq_true rfl) rfl h (fun _ _ h => cp_X7_stepsGo (d := d) h) fun v1 F1 h => ?_
      refine V_istore_n dX7_lose_30 rfl (by decide) rfl (ls' := [.ref 82, .int l1, .int l2, .int v1, .null, .null, .null]) rfl rfl ?_
      refine V_bipush dX7_lose_31 cb_m4 rfl ?_
      refine V_istore dX7_lose_33 (by decide) rfl (ls' := [.ref 82, .int l1, .int l2, .int v1, .int ((-4)), .null, .null]) rfl rfl ?_
      refine V_iconst dX7_lose_35 ci_0 rfl ?_
      refine V_istore dX7_lose_36 (by decide) rfl (ls' := [.ref 82, .int l1, .int l2, .int v1, .int ((-4)), .int 0, .null]) rfl rfl ?_
      exact okX7_lose_L38 _ _ _ _ _ h
    · refine V_iconst dX7_lose_22 ci_m1 rfl ?_
      exact A_ireturn dX7_lose_23 rfl h
theorem cp_X7_lose {N d : Nat} {l1 : Int32} {l2 : Int32} {F F' : FF} {r : Int32} (h : fX7_lose N l1 l2 F = some (r, F')) : CP (d + 4) mX7_lose [.ref 82, .int l1, .int l2] F (fun r' F'' => r' = eI r ∧ F'' = F') := CP_I rfl (Nat.le_of_ble_eq_true rfl) (okX7_lose h)
theorem okX7_lowest_L6 {N d : Nat} {l0 : Int64} {l2 : Int64} {l4 : Int32} {res : Int64 × FF} : ∀ (n : Nat) (l5 : Int64) (l7 : Int64) (F : FF), fX7_lowest_L6 N l0 l2 l4 n l5 l7 F = some res → FV cX7_lowest 11 RX7 (d) (some .long) none 6 [.long l0, .null, .long l2, .null, .int l4, .long l5, .null, .long l7, .null, .null, .null] [] F (RJ res) := by
  intro n
  induction n with
  | zero =>
    intro l5 l7 F h
    rw [fX7_lowest_L6.eq_1] at h
    cases h
  | succ n ih =>
    intro l5 l7 F h
    rw [fX7_lowest_L6.eq_2] at h
    refine V_lload dX7_lowest_6 rfl rfl ?_
    refine V_lconst dX7_lowest_8 cl_0 rfl ?_
    refine V_lcmp dX7_lowest_9 rfl ?_
    refine A_if_eq dX7_lowest_10 rfl rfl h (fun h => ?_) (fun h => ?_)
    · refine V_iload dX7_lowest_31 rfl rfl ?_
      refine V_midJ (q := 41) ((if ¬ l4 = 0 then l2 else l0 : Int64)) [] (fun yJ hy hJ => ?_) ?_
      · refine V_if_ne dX7_lowest_33 rfl rfl (fun c => ?_) (fun c => ?_)
        · rw [if_pos c] at hy
          refine V_lload_n dX7_lowest_40 rfl rfl rfl ?_
          rw [hy] at hJ
          exact hJ
        · rw [if_neg (fun z => z c)] at hy
          refine V_lload_n dX7_lowest_36 rfl rfl rfl ?_
          refine V_goto dX7_lowest_37 rfl ?_
          rw [hy] at hJ
          exact hJ
      · refine V_lload dX7_lowest_41 rfl rfl ?_
        refine A_dvl h fun hy h => ?_
        refine V_ldiv dX7_lowest_43 hy rfl ?_
        exact A_lreturn dX7_lowest_44 rfl h
    · refine V_lload dX7_lowest_13 rfl rfl ?_
      refine V_lload dX7_lowest_15 rfl rfl ?_
      refine A_dvl h fun hy h => ?_
      refine U_lrem dX7_lowest_17 hy rfl ?_
      refine V_lstore dX7_lowest_18 (by decide) rfl (ls' := [.long l0, .null, .long l2, .null, .int l4, .long l5, .null, .long l7, .null, .long (lrem l5 l7), .null]) rfl rfl ?_
      refine V_lload dX7_lowest_20 rfl rfl ?_
      refine V_lstore dX7_lowest_22 (by decide) rfl (ls' := [.long l0, .null, .long l2, .null, .int l4, .long l7, .null, .long l7, .null, .long (lrem l5 l7), .null]) rfl rfl ?_
      refine V_lload dX7_lowest_24 rfl rfl ?_
      refine V_lstore dX7_lowest_26 (by decide) rfl (ls' := [.long l0, .null, .long l2, .null, .int l4, .long l7, .null, .long (lrem l5 l7), .null, .long (lrem l5 l7), .null]) rfl rfl ?_
      refine V_goto dX7_lowest_28 rfl ?_
      refine V_weak [true, false, true, false, true, true, false, true, false, false, false] rfl ?_
      exact ih l7 (lrem l5 l7) F h
theorem okX7_lowest {N d : Nat} {l0 : Int64} {l2 : Int64} {l4 : Int32} {F : FF} {res : Int64 × FF} (h : fX7_lowest N l0 l2 l4 F = some res) : FV cX7_lowest 11 RX7 (d) (some .long) none 0 [.long l0, .null, .long l2, .null, .int l4, .null, .null, .null, .null, .null, .null] [] F (RJ res) := by
  unfold fX7_lowest at h
  refine V_lload_n dX7_lowest_0 rfl rfl rfl ?_
  refine V_lstore dX7_lowest_1 (by decide) rfl (ls' := [.long l0, .null, .long l2, .null, .int l4, .long l0, .null, .null, .null, .null, .null]) rfl rfl ?_
  refine V_lload_n dX7_lowest_3 rfl rfl rfl ?_
  refine V_lstore dX7_lowest_4 (by decide) rfl (ls' := [.long l0, .null, .long l2, .null, .int l4, .long l0, .null, .long l2, .null, .null, .null]) rfl rfl ?_
  exact okX7_lowest_L6 _ _ _ _ h
theorem cp_X7_lowest {N d : Nat} {l0 : Int64} {l2 : Int64} {l4 : Int32} {F F' : FF} {r : Int64} (h : fX7_lowest N l0 l2 l4 F = some (r, F')) : CP (d) mX7_lowest [.long l0, .long l2, .int l4] F (fun r' F'' => r' = eJ r ∧ F'' = F') := CP_J rfl (Nat.le_of_ble_eq_true rfl) (okX7_lowest h)
