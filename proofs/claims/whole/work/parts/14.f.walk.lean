theorem okX7_byNothing_b159 {N d : Nat} {k33 : Int64 → Int32 → FF → Option (Int64 × FF)} {l1 : Int32} {l2 : Int32} {l3 : Int32} {l4 : Int32} {l5 : Int32} {l8 : Int64} {l10 : Int32} {s0 : Int64} {s1 : Int64} {s2 : Int32} {F : FF} {res : Int64 × FF} (hk33 : ∀ (x6 : Int64) (x10 : Int32) (F : FF), k33 x6 x10 F = some res → FV cX7_byNothing 15 RX7 (d + 3) (some .long) none 33 [.ref 82, .int l1, .int l2, .int l3, .int l4, .int l5, .long x6, .null, .long l8, .null, .int x10, .null, .null, .null, .null] [] F (RJ res)) (h : fX7_byNothing_b159 N k33 l1 l2 l3 l4 l5 l8 l10 s0 s1 s2 F = some res) : FV cX7_byNothing 15 RX7 (d + 3) (some .long) none 159 [.ref 82, .int l1, .int l2, .int l3, .int l4, .int l5, .null, .null, .long l8, .null, .int l10, .null, .null, .null, .null] [.int s2, .long s1, .long s0] F (RJ res) := by
  unfold fX7_byNothing_b159 at h
  refine V_i2l dX7_byNothing_159 rfl ?_
  refine V_lmul dX7_byNothing_160 rfl ?_
  refine V_ladd dX7_byNothing_161 rfl ?_
  refine V_lstore dX7_byNothing_162 (by decide) rfl (ls' := [.ref 82, .int l1, .int l2, .int l3, .int l4, .int l5, .long (s0 + (s1 * s2.toInt64)), .null, .long l8, .null, .int l10, .null, .null, .null, .null]) rfl rfl ?_
  refine V_iinc dX7_byNothing_164 (v := l10 + 1) rfl (by rw [ci_1]) rfl (ls' := [.ref 82, .int l1, .int l2, .int l3, .int l4, .int l5, .long (s0 + (s1 * s2.toInt64)), .null, .long l8, .null, .int (l10 + 1), .null, .null, .null, .null]) rfl rfl ?_
  refine V_goto dX7_byNothing_167 rfl ?_
  exact hk33 (s0 + (s1 * s2.toInt64)) (l10 + 1) F h
theorem okX7_byNothing_L60 {N d : Nat} {k33 : Int64 → Int32 → FF → Option (Int64 × FF)} {l1 : Int32} {l2 : Int32} {l3 : Int32} {l4 : Int32} {l5 : Int32} {l6 : Int64} {l8 : Int64} {l10 : Int32} {res : Int64 × FF} (hk33 : ∀ (x6 : Int64) (x10 : Int32) (F : FF), k33 x6 x10 F = some res → FV cX7_byNothing 15 RX7 (d + 3) (some .long) none 33 [.ref 82, .int l1, .int l2, .int l3, .int l4, .int l5, .long x6, .null, .long l8, .null, .int x10, .null, .null, .null, .null] [] F (RJ res)) : ∀ (n : Nat) (l11 : Int64) (l13 : Int32) (F : FF), fX7_byNothing_L60 N k33 l1 l2 l3 l4 l5 l6 l8 l10 n l11 l13 F = some res → FV cX7_byNothing 15 RX7 (d + 3) (some .long) none 60 [.ref 82, .int l1, .int l2, .int l3, .int l4, .int l5, .long l6, .null, .long l8, .null, .int l10, .long l11, .null, .int l13, .null] [] F (RJ res) := by
  intro n
  induction n with
  | zero =>
    intro l11 l13 F h
    rw [fX7_byNothing_L60.eq_1] at h
    cases h
  | succ n ih =>
    intro l11 l13 F h
    rw [fX7_byNothing_L60.eq_2] at h
    refine V_iload dX7_byNothing_60 rfl rfl ?_
    refine V_iload dX7_byNothing_62 rfl rfl ?_
    refine A_icmp_ge dX7_byNothing_64 rfl rfl h (fun h => ?_) (fun h => ?_)
    · refine V_lload dX7_byNothing_120 rfl rfl ?_
      refine V_lload dX7_byNothing_122 rfl rfl ?_
      refine V_iload_n dX7_byNothing_124 rfl rfl rfl ?_
      refine V_bipush dX7_byNothing_125 cb_m4 rfl ?_
      refine A_icmp_ne dX7_byNothing_127 rfl rfl h (fun h => ?_) (fun h => ?_)
      · refine V_aload_n dX7_byNothing_137 rfl rfl rfl ?_
        refine F_getR dX7_byNothing_138 fl_X7_7 ly_82 rfl rfl ?_
        refine V_sipush dX7_byNothing_141 cs_327 rfl ?_
        refine V_bipush dX7_byNothing_144 cb_6 rfl ?_
        refine V_iload_n dX7_byNothing_146 rfl rfl rfl ?_
        refine V_imul dX7_byNothing_147 rfl ?_
        refine V_iadd dX7_byNothing_148 rfl ?_
        refine A_ld0 dX7_byNothing_149 rfl h fun v1 h => ?_
        refine V_iload_n dX7_byNothing_150 rfl rfl rfl ?_
        refine V_midI (q := 159) ((if ¬ v1 = l3 then 0 else 1 : Int32)) [.long l11, .long l6] (fun yJ hy hJ => ?_) ?_
        · refine V_icmp_ne dX7_byNothing_151 rfl rfl (fun c => ?_) (fun c => ?_)
          · rw [if_pos c] at hy
            refine V_iconst dX7_byNothing_158 ci_0 rfl ?_
            rw [hy] at hJ
            exact hJ
          · rw [if_neg (fun z => z c)] at hy
            refine V_iconst dX7_byNothing_154 ci_1 rfl ?_
            refine V_goto dX7_byNothing_155 rfl ?_
            rw [hy] at hJ
            exact hJ
        · refine V_i2l dX7_byNothing_159 rfl ?_
          refine V_lmul dX7_byNothing_160 rfl ?_
          refine V_ladd dX7_byNothing_161 rfl ?_
          refine V_lstore dX7_byNothing_162 (by decide) rfl (ls' := [.ref 82, .int l1, .int l2, .int l3, .int l4, .int l5, .long (l6 + (l11 * (((if ¬ v1 = l3 then 0 else 1 : Int32)).toInt64))), .null, .long l8, .null, .int l10, .long l11, .null, .int l13, .null]) rfl rfl ?_
          refine V_iinc dX7_byNothing_164 (v := l10 + 1) rfl (by rw [ci_1]) rfl (ls' := [.ref 82, .int l1, .int l2, .int l3, .int l4, .int l5, .long (l6 + (l11 * (((if ¬ v1 = l3 then 0 else 1 : Int32)).toInt64))), .null, .long l8, .null, .int (l10 + 1), .long l11, .null, .int l13, .null]) rfl rfl ?_
          refine V_goto dX7_byNothing_167 rfl ?_
          refine V_weak [true, true, true, true, true, true, true, false, true, false, true, false, false, false, false] rfl ?_
          exact hk33 (l6 + (l11 * (((if ¬ v1 = l3 then 0 else 1 : Int32)).toInt64))) (l10 + 1) F h
      · refine V_aload_n dX7_byNothing_130 rfl rfl rfl ?_
        refine A_callC (ci := 7) eI dX7_byNothing_131 cl_X7_190 (by decide) rfl rfl (As := []) (st := [.long l11, .long l6]) rfl rfl (Nat.le_of_ble_eq_true rfl) rfl h (fun _ _ h => cp_X7_paidAll (d := d + 2) h) fun v2 F1 h => ?_
        refine V_goto dX7_byNothing_134 rfl ?_
        refine V_weak [true, true, true, true, true, true, false, false, true, false, true, false, false, false, false] rfl ?_
        exact okX7_byNothing_b159 hk33 h
    · refine V_iload dX7_byNothing_67 rfl rfl ?_
      refine V_iload dX7_byNothing_69 rfl rfl ?_
      refine V_ishr dX7_byNothing_71 rfl ?_
      refine V_iconst dX7_byNothing_72 ci_1 rfl ?_
      refine V_iand dX7_byNothing_73 rfl ?_
      refine V_iconst dX7_byNothing_74 ci_1 rfl ?_
      refine V_midI (q := 83) ((if ¬ ((l10 >>> (l13 &&& 31)) &&& 1) = 1 then 0 else 1 : Int32)) [] (fun yJ hy hJ => ?_) ?_
      · refine V_icmp_ne dX7_byNothing_75 rfl rfl (fun c => ?_) (fun c => ?_)
        · rw [if_pos c] at hy
          refine V_iconst dX7_byNothing_82 ci_0 rfl ?_
          rw [hy] at hJ
          exact hJ
        · rw [if_neg (fun z => z c)] at hy
          refine V_iconst dX7_byNothing_78 ci_1 rfl ?_
          refine V_goto dX7_byNothing_79 rfl ?_
          rw [hy] at hJ
          exact hJ
      · refine V_istore dX7_byNothing_83 (by decide) rfl (ls' := [.ref 82, .int l1, .int l2, .int l3, .int l4, .int l5, .long l6, .null, .long l8, .null, .int l10, .long l11, .null, .int l13, .int ((if ¬ ((l10 >>> (l13 &&& 31)) &&& 1) = 1 then 0 else 1 : Int32))]) rfl rfl ?_
        refine V_lload dX7_byNothing_85 rfl rfl ?_
        refine V_iload dX7_byNothing_87 rfl rfl ?_
        refine V_midJ (q := 102) ((if ((if ¬ ((l10 >>> (l13 &&& 31)) &&& 1) = 1 then 0 else 1 : Int32)) = 0 then ((10 - l1).toInt64) else l1.toInt64 : Int64)) [.long l11] (fun yJ hy hJ => ?_) ?_
        · refine V_if_eq dX7_byNothing_89 rfl rfl (fun c => ?_) (fun c => ?_)
          · rw [if_pos c] at hy
            refine V_bipush dX7_byNothing_97 cb_10 rfl ?_
            refine V_iload_n dX7_byNothing_99 rfl rfl rfl ?_
            refine V_isub dX7_byNothing_100 rfl ?_
            refine V_i2l dX7_byNothing_101 rfl ?_
            rw [hy] at hJ
            exact hJ
          · rw [if_neg c] at hy
            refine V_iload_n dX7_byNothing_92 rfl rfl rfl ?_
            refine V_i2l dX7_byNothing_93 rfl ?_
            refine V_goto dX7_byNothing_94 rfl ?_
            rw [hy] at hJ
            exact hJ
        · refine V_lmul dX7_byNothing_102 rfl ?_
          refine V_lstore dX7_byNothing_103 (by decide) rfl (ls' := [.ref 82, .int l1, .int l2, .int l3, .int l4, .int l5, .long l6, .null, .long l8, .null, .int l10, .long (l11 * ((if ((if ¬ ((l10 >>> (l13 &&& 31)) &&& 1) = 1 then 0 else 1 : Int32)) = 0 then ((10 - l1).toInt64) else l1.toInt64 : Int64))), .null, .int l13, .int ((if ¬ ((l10 >>> (l13 &&& 31)) &&& 1) = 1 then 0 else 1 : Int32))]) rfl rfl ?_
          refine V_aload_n dX7_byNothing_105 rfl rfl rfl ?_
          refine V_sipush dX7_byNothing_106 cs_300 rfl ?_
          refine V_iload dX7_byNothing_109 rfl rfl ?_
          refine A_callC (ci := 7) eU dX7_byNothing_111 cl_X7_186 (by decide) rfl rfl (As := [.int 300, .int ((if ¬ ((l10 >>> (l13 &&& 31)) &&& 1) = 1 then 0 else 1 : Int32))]) (st := []) rfl rfl (Nat.le_of_ble_eq_true rfl) rfl h (fun _ _ h => cp_X7_stepOn (d := d) h) fun _ F2 h => ?_
          refine V_iinc dX7_byNothing_114 (v := l13 + 1) rfl (by rw [ci_1]) rfl (ls' := [.ref 82, .int l1, .int l2, .int l3, .int l4, .int l5, .long l6, .null, .long l8, .null, .int l10, .long (l11 * ((if ((if ¬ ((l10 >>> (l13 &&& 31)) &&& 1) = 1 then 0 else 1 : Int32)) = 0 then ((10 - l1).toInt64) else l1.toInt64 : Int64))), .null, .int (l13 + 1), .int ((if ¬ ((l10 >>> (l13 &&& 31)) &&& 1) = 1 then 0 else 1 : Int32))]) rfl rfl ?_
          refine V_goto dX7_byNothing_117 rfl ?_
          refine V_weak [true, true, true, true, true, true, true, false, true, false, true, true, false, true, false] rfl ?_
          exact ih (l11 * ((if ((if ¬ ((l10 >>> (l13 &&& 31)) &&& 1) = 1 then 0 else 1 : Int32)) = 0 then ((10 - l1).toInt64) else l1.toInt64 : Int64))) (l13 + 1) F2 h
theorem okX7_byNothing_L33 {N d : Nat} {l1 : Int32} {l2 : Int32} {l3 : Int32} {l4 : Int32} {l5 : Int32} {l8 : Int64} {res : Int64 × FF} : ∀ (n : Nat) (l6 : Int64) (l10 : Int32) (F : FF), fX7_byNothing_L33 N l1 l2 l3 l4 l5 l8 n l6 l10 F = some res → FV cX7_byNothing 15 RX7 (d + 3) (some .long) none 33 [.ref 82, .int l1, .int l2, .int l3, .int l4, .int l5, .long l6, .null, .long l8, .null, .int l10, .null, .null, .null, .null] [] F (RJ res) := by
  intro n
  induction n with
  | zero =>
    intro l6 l10 F h
    rw [fX7_byNothing_L33.eq_1] at h
    cases h
  | succ n ih =>
    intro l6 l10 F h
    rw [fX7_byNothing_L33.eq_2] at h
    refine V_iload dX7_byNothing_33 rfl rfl ?_
    refine V_iconst dX7_byNothing_35 ci_1 rfl ?_
    refine V_iload dX7_byNothing_36 rfl rfl ?_
    refine V_ishl dX7_byNothing_38 rfl ?_
    refine A_icmp_ge dX7_byNothing_39 rfl rfl h (fun h => ?_) (fun h => ?_)
    · refine V_lload dX7_byNothing_170 rfl rfl ?_
      refine V_lload dX7_byNothing_172 rfl rfl ?_
      refine V_iload dX7_byNothing_174 rfl rfl ?_
      refine A_callS eJ dX7_byNothing_176 cl_X7_215 (As := [.long l6, .long l8, .int l5]) (st := []) rfl rfl (Nat.le_of_ble_eq_true rfl) rfl h (fun _ _ h => cp_X7_lowest (d := d + 2) h) fun v1 F1 h => ?_
      exact A_lreturn dX7_byNothing_179 rfl h
    · refine V_lconst dX7_byNothing_42 cl_1 rfl ?_
      refine V_lstore dX7_byNothing_43 (by decide) rfl (ls' := [.ref 82, .int l1, .int l2, .int l3, .int l4, .int l5, .long l6, .null, .long l8, .null, .int l10, .long 1, .null, .null, .null]) rfl rfl ?_
      refine V_aload_n dX7_byNothing_45 rfl rfl rfl ?_
      refine V_iconst dX7_byNothing_46 ci_0 rfl ?_
      refine V_sipush dX7_byNothing_47 cs_300 rfl ?_
      refine A_callC (ci := 7) eU dX7_byNothing_50 cl_X7_193 (by decide) rfl rfl (As := [.int 0, .int 300]) (st := []) rfl rfl (Nat.le_of_ble_eq_true rfl) rfl h (fun _ _ h => cp_X7_copies (d := d + 2) h) fun _ F2 h => ?_
      refine V_aload_n dX7_byNothing_53 rfl rfl rfl ?_
      refine A_callC (ci := 7) eU dX7_byNothing_54 cl_X7_183 (by decide) rfl rfl (As := []) (st := []) rfl rfl (Nat.le_of_ble_eq_true rfl) rfl h (fun _ _ h => cp_X7_starts (d := d + 2) h) fun _ F3 h => ?_
      refine V_iconst dX7_byNothing_57 ci_0 rfl ?_
      refine V_istore dX7_byNothing_58 (by decide) rfl (ls' := [.ref 82, .int l1, .int l2, .int l3, .int l4, .int l5, .long l6, .null, .long l8, .null, .int l10, .long 1, .null, .int 0, .null]) rfl rfl ?_
      exact okX7_byNothing_L60 (fun x6 x10 F h => ih x6 x10 F h) _ _ _ _ h
theorem okX7_byNothing_L9 {N d : Nat} {l1 : Int32} {l2 : Int32} {l3 : Int32} {l4 : Int32} {l5 : Int32} {l6 : Int64} {res : Int64 × FF} : ∀ (n : Nat) (l8 : Int64) (l10 : Int32) (F : FF), fX7_byNothing_L9 N l1 l2 l3 l4 l5 l6 n l8 l10 F = some res → FV cX7_byNothing 15 RX7 (d + 3) (some .long) none 9 [.ref 82, .int l1, .int l2, .int l3, .int l4, .int l5, .long l6, .null, .long l8, .null, .int l10, .null, .null, .null, .null] [] F (RJ res) := by
  intro n
  induction n with
  | zero =>
    intro l8 l10 F h
    rw [fX7_byNothing_L9.eq_1] at h
    cases h
  | succ n ih =>
    intro l8 l10 F h
    rw [fX7_byNothing_L9.eq_2] at h
    refine V_iload dX7_byNothing_9 rfl rfl ?_
    refine V_iload dX7_byNothing_11 rfl rfl ?_
    refine A_icmp_ge dX7_byNothing_13 rfl rfl h (fun h => ?_) (fun h => ?_)
    · refine V_iconst dX7_byNothing_30 ci_0 rfl ?_
      refine V_istore dX7_byNothing_31 (by decide) rfl (ls' := [.ref 82, .int l1, .int l2, .int l3, .int l4, .int l5, .long l6, .null, .long l8, .null, .int 0, .null, .null, .null, .null]) rfl rfl ?_
      exact okX7_byNothing_L33 _ _ _ _ h
    · refine V_lload dX7_byNothing_16 rfl rfl ?_
      refine V_ldc2 dX7_byNothing_18 kc_X7_213 rfl ?_
      refine V_lmul dX7_byNothing_21 rfl ?_
      refine V_lstore dX7_byNothing_22 (by decide) rfl (ls' := [.ref 82, .int l1, .int l2, .int l3, .int l4, .int l5, .long l6, .null, .long (l8 * 10), .null, .int l10, .null, .null, .null, .null]) rfl rfl ?_
      refine V_iinc dX7_byNothing_24 (v := l10 + 1) rfl (by rw [ci_1]) rfl (ls' := [.ref 82, .int l1, .int l2, .int l3, .int l4, .int l5, .long l6, .null, .long (l8 * 10), .null, .int (l10 + 1), .null, .null, .null, .null]) rfl rfl ?_
      refine V_goto dX7_byNothing_27 rfl ?_
      exact ih (l8 * 10) (l10 + 1) F h
theorem okX7_byNothing {N d : Nat} {l1 : Int32} {l2 : Int32} {l3 : Int32} {l4 : Int32} {l5 : Int32} {F : FF} {res : Int64 × FF} (h : fX7_byNothing N l1 l2 l3 l4 l5 F = some res) : FV cX7_byNothing 15 RX7 (d + 3) (some .long) none 0 [.ref 82, .int l1, .int l2, .int l3, .int l4, .int l5, .null, .null, .null, .null, .null, .null, .null, .null, .null] [] F (RJ res) := by
  unfold fX7_byNothing at h
  refine V_lconst dX7_byNothing_0 cl_0 rfl ?_
  refine V_lstore dX7_byNothing_1 (by decide) rfl (ls' := [.ref 82, .int l1, .int l2, .int l3, .int l4, .int l5, .long 0, .null, .null, .null, .null, .null, .null, .null, .null]) rfl rfl ?_
  refine V_lconst dX7_byNothing_3 cl_1 rfl ?_
  refine V_lstore dX7_byNothing_4 (by decide) rfl (ls' := [.ref 82, .int l1, .int l2, .int l3, .int l4, .int l5, .long 0, .null, .long 1, .null, .null, .null, .null, .null, .null]) rfl rfl ?_
  refine V_iconst dX7_byNothing_6 ci_0 rfl ?_
  refine V_istore dX7_byNothing_7 (by decide) rfl (ls' := [.ref 82, .int l1, .int l2, .int l3, .int l4, .int l5, .long 0, .null, .long 1, .null, .int 0, .null, .null, .null, .null]) rfl rfl ?_
  exact okX7_byNothing_L9 _ _ _ _ h
theorem cp_X7_byNothing {N d : Nat} {l1 : Int32} {l2 : Int32} {l3 : Int32} {l4 : Int32} {l5 : Int32} {F F' : FF} {r : Int64} (h : fX7_byNothing N l1 l2 l3 l4 l5 F = some (r, F')) : CP (d + 3) mX7_byNothing [.ref 82, .int l1, .int l2, .int l3, .int l4, .int l5] F (fun r' F'' => r' = eJ r ∧ F'' = F') := CP_J rfl (Nat.le_of_ble_eq_true rfl) (okX7_byNothing h)
theorem okX7_luck {N d : Nat} {l1 : Int32} {l2 : Int32} {l3 : Int32} {l4 : Int32} {l5 : Int32} {F : FF} {res : Int64 × FF} (h : fX7_luck N l1 l2 l3 l4 l5 F = some res) : FV cX7_luck 6 RX7 (d + 4) (some .long) none 0 [.ref 82, .int l1, .int l2, .int l3, .int l4, .int l5] [] F (RJ res) := by
  unfold fX7_luck at h
  refine V_iload_n dX7_luck_0 rfl rfl rfl ?_
  refine V_i2l dX7_luck_1 rfl ?_
  refine V_lconst dX7_luck_2 cl_0 rfl ?_
  refine V_ldc2 dX7_luck_3 kc_X7_213 rfl ?_
  refine P_callS dX7_luck_6 cl_X7_56 (cq_X7_in (d := d + 3)) (As := [.long l1.toInt64, .long 0, .long 10]) (st := []) rfl rfl (Nat.le_of_ble_eq_true rfl) rfl ?_
  refine A_if_eq dX7_luck_9 rfl rfl h (fun h => ?_) (fun h => ?_)
  · refine V_ldc2 dX7_luck_66 kc_X7_225 rfl ?_
    exact A_lreturn dX7_luck_69 rfl h
  · refine V_aload_n dX7_luck_12 rfl rfl rfl ?_
    refine V_iload_n dX7_luck_13 rfl rfl rfl ?_
    refine A_callC (ci := 7) eI dX7_luck_14 cl_X7_162 (by decide) rfl rfl (As := [.int l2]) (st := []) rfl rfl (Nat.le_of_ble_eq_true rfl) rfl h (fun _ _ h => cp_X7_isShelf (d := d + 2) h) fun v1 F1 h => ?_
    refine A_if_eq dX7_luck_17 rfl rfl h (fun h => ?_) (fun h => ?_)
    · refine V_ldc2 dX7_luck_66 kc_X7_225 rfl ?_
      exact A_lreturn dX7_luck_69 rfl h
    · refine V_aload_n dX7_luck_20 rfl rfl rfl ?_
      refine V_iload_n dX7_luck_21 rfl rfl rfl ?_
      refine A_callC (ci := 7) eI dX7_luck_22 cl_X7_166 (by decide) rfl rfl (As := [.int l3]) (st := []) rfl rfl (Nat.le_of_ble_eq_true rfl) rfl h (fun _ _ h => cp_X7_isBook (d := d + 2) h) fun v2 F2 h => ?_
      refine A_if_eq dX7_luck_25 rfl rfl h (fun h => ?_) (fun h => ?_)
      · refine V_ldc2 dX7_luck_66 kc_X7_225 rfl ?_
        exact A_lreturn dX7_luck_69 rfl h
      · refine V_iload dX7_luck_28 rfl rfl ?_
        refine V_i2l dX7_luck_30 rfl ?_
        refine V_lconst dX7_luck_31 cl_0 rfl ?_
        refine V_ldc2 dX7_luck_32 kc_X7_219 rfl ?_
        refine P_callS dX7_luck_35 cl_X7_56 (cq_X7_in (d := d + 3)) (As := [.long l4.toInt64, .long 0, .long 8]) (st := []) rfl rfl (Nat.le_of_ble_eq_true rfl) rfl ?_
        refine A_if_eq dX7_luck_38 rfl rfl h (fun h => ?_) (fun h => ?_)
        · refine V_ldc2 dX7_luck_66 kc_X7_225 rfl ?_
          exact A_lreturn dX7_luck_69 rfl h
        · refine V_iload dX7_luck_41 rfl rfl ?_
          refine V_i2l dX7_luck_43 rfl ?_
          refine V_lconst dX7_luck_44 cl_0 rfl ?_
          refine V_lconst dX7_luck_45 cl_1 rfl ?_
          refine P_callS dX7_luck_46 cl_X7_56 (cq_X7_in (d := d + 3)) (As := [.long l5.toInt64, .long 0, .long 1]) (st := []) rfl rfl (Nat.le_of_ble_eq_true rfl) rfl ?_
          refine A_if_eq dX7_luck_49 rfl rfl h (fun h => ?_) (fun h => ?_)
          · refine V_ldc2 dX7_luck_66 kc_X7_225 rfl ?_
            exact A_lreturn dX7_luck_69 rfl h
          · refine V_aload_n dX7_luck_52 rfl rfl rfl ?_
            refine V_iload_n dX7_luck_53 rfl rfl rfl ?_
            refine V_iload_n dX7_luck_54 rfl rfl rfl ?_
            refine V_iload_n dX7_luck_55 rfl rfl rfl ?_
            refine V_iload dX7_luck_56 rfl rfl ?_
            refine V_iload dX7_luck_58 rfl rfl ?_
            refine A_callC (ci := 7) eJ dX7_luck_60 cl_X7_221 (by decide) rfl rfl (As := [.int l1, .int l2, .int l3, .int l4, .int l5]) (st := []) rfl rfl (Nat.le_of_ble_eq_true rfl) rfl h (fun _ _ h => cp_X7_byNothing (d := d) h) fun v3 F3 h => ?_
            refine V_goto dX7_luck_63 rfl ?_
            exact A_lreturn dX7_luck_69 rfl h
theorem cp_X7_luck {N d : Nat} {l1 : Int32} {l2 : Int32} {l3 : Int32} {l4 : Int32} {l5 : Int32} {F F' : FF} {r : Int64} (h : fX7_luck N l1 l2 l3 l4 l5 F = some (r, F')) : CP (d + 4) mX7_luck [.ref 82, .int l1, .int l2, .int l3, .int l4, .int l5] F (fun r' F'' => r' = eJ r ∧ F'' = F') := CP_J rfl (Nat.le_of_ble_eq_true rfl) (okX7_luck h)
theorem okX7_mean {N d : Nat} {l1 : Int32} {l2 : Int32} {l3 : Int32} {F : FF} {res : Int64 × FF} (h : fX7_mean N l1 l2 l3 F = some res) : FV cX7_mean 4 RX7 (d + 4) (some .long) none 0 [.ref 82, .int l1, .int l2, .int l3] [] F (RJ res) := by
  unfold fX7_mean at h
  refine V_iload_n dX7_mean_0 rfl rfl rfl ?_
  refine V_i2l dX7_mean_1 rfl ?_
  refine V_lconst dX7_mean_2 cl_0 rfl ?_
  refine V_ldc2 dX7_mean_3 kc_X7_213 rfl ?_
  refine P_callS dX7_mean_6 cl_X7_56 (cq_X7_in (d := d + 3)) (As := [.long l1.toInt64, .long 0, .long 10]) (st := []) rfl rfl (Nat.le_of_ble_eq_true rfl) rfl ?_
  refine A_if_eq dX7_mean_9 rfl rfl h (fun h => ?_) (fun h => ?_)
  · refine V_ldc2 dX7_mean_47 kc_X7_225 rfl ?_
    exact A_lreturn dX7_mean_50 rfl h
  · refine V_iload_n dX7_mean_12 rfl rfl rfl ?_
    refine V_i2l dX7_mean_13 rfl ?_
    refine V_lconst dX7_mean_14 cl_0 rfl ?_
    refine V_ldc2 dX7_mean_15 kc_X7_219 rfl ?_
    refine P_callS dX7_mean_18 cl_X7_56 (cq_X7_in (d := d + 3)) (As := [.long l2.toInt64, .long 0, .long 8]) (st := []) rfl rfl (Nat.le_of_ble_eq_true rfl) rfl ?_
    refine A_if_eq dX7_mean_21 rfl rfl h (fun h => ?_) (fun h => ?_)
    · refine V_ldc2 dX7_mean_47 kc_X7_225 rfl ?_
      exact A_lreturn dX7_mean_50 rfl h
    · refine V_iload_n dX7_mean_24 rfl rfl rfl ?_
      refine V_i2l dX7_mean_25 rfl ?_
      refine V_lconst dX7_mean_26 cl_0 rfl ?_
      refine V_lconst dX7_mean_27 cl_1 rfl ?_
      refine P_callS dX7_mean_28 cl_X7_56 (cq_X7_in (d := d + 3)) (As := [.long l3.toInt64, .long 0, .long 1]) (st := []) rfl rfl (Nat.le_of_ble_eq_true rfl) rfl ?_
      refine A_if_eq dX7_mean_31 rfl rfl h (fun h => ?_) (fun h => ?_)
      · refine V_ldc2 dX7_mean_47 kc_X7_225 rfl ?_
        exact A_lreturn dX7_mean_50 rfl h
      · refine V_aload_n dX7_mean_34 rfl rfl rfl ?_
        refine V_iload_n dX7_mean_35 rfl rfl rfl ?_
        refine V_bipush dX7_mean_36 cb_m4 rfl ?_
        refine V_iconst dX7_mean_38 ci_0 rfl ?_
        refine V_iload_n dX7_mean_39 rfl rfl rfl ?_
        refine V_iload_n dX7_mean_40 rfl rfl rfl ?_
        refine A_callC (ci := 7) eJ dX7_mean_41 cl_X7_221 (by decide) rfl rfl (As := [.int l1, .int ((-4)), .int 0, .int l2, .int l3]) (st := []) rfl rfl (Nat.le_of_ble_eq_true rfl) rfl h (fun _ _ h => cp_X7_byNothing (d := d) h) fun v1 F1 h => ?_
        refine V_goto dX7_mean_44 rfl ?_
        exact A_lreturn dX7_mean_50 rfl h
theorem cp_X7_mean {N d : Nat} {l1 : Int32} {l2 : Int32} {l3 : Int32} {F F' : FF} {r : Int64} (h : fX7_mean N l1 l2 l3 F = some (r, F')) : CP (d + 4) mX7_mean [.ref 82, .int l1, .int l2, .int l3] F (fun r' F'' => r' = eJ r ∧ F'' = F') := CP_J rfl (Nat.le_of_ble_eq_true rfl) (okX7_mean h)
theorem okX7_see {N d : Nat} {l1 : Int32} {l2 : Int32} {l3 : Int32} {F : FF} {res : Int32 × FF} (h : fX7_see N l1 l2 l3 F = some res) : FV cX7_see 4 RX7 (d + 2) (some .int) none 0 [.ref 82, .int l1, .int l2, .int l3] [] F (RI res) := by
  unfold fX7_see at h
  refine V_iload_n dX7_see_0 rfl rfl rfl ?_
  refine V_i2l dX7_see_1 rfl ?_
  refine V_lconst dX7_see_2 cl_0 rfl ?_
  refine V_ldc2 dX7_see_3 kc_X7_227 rfl ?_
  refine P_callS dX7_see_6 cl_X7_56 (cq_X7_in (d := d + 1)) (As := [.long l1.toInt64, .long 0, .long 40]) (st := []) rfl rfl (Nat.le_of_ble_eq_true rfl) rfl ?_
  refine A_if_eq dX7_see_9 rfl rfl h (fun h => ?_) (fun h => ?_)
  · refine V_iconst dX7_see_28 ci_m1 rfl ?_
    exact A_ireturn dX7_see_29 rfl h
  · refine V_aload_n dX7_see_12 rfl rfl rfl ?_
    refine V_iload_n dX7_see_13 rfl rfl rfl ?_
    refine A_callC (ci := 7) eI dX7_see_14 cl_X7_162 (by decide) rfl rfl (As := [.int l2]) (st := []) rfl rfl (Nat.le_of_ble_eq_true rfl) rfl h (fun _ _ h => cp_X7_isShelf (d := d) h) fun v1 F1 h => ?_
    refine A_if_eq dX7_see_17 rfl rfl h (fun h => ?_) (fun h => ?_)
    · refine V_iconst dX7_see_28 ci_m1 rfl ?_
      exact A_ireturn dX7_see_29 rfl h
    · refine V_aload_n dX7_see_20 rfl rfl rfl ?_
      refine V_iload_n dX7_see_21 rfl rfl rfl ?_
      refine A_callC (ci := 7) eI dX7_see_22 cl_X7_166 (by decide) rfl rfl (As := [.int l3]) (st := []) rfl rfl (Nat.le_of_ble_eq_true rfl) rfl h (fun _ _ h => cp_X7_isBook (d := d) h) fun v2 F2 h => ?_
      refine A_if_ne dX7_see_25 rfl rfl h (fun h => ?_) (fun h => ?_)
      · refine V_aload_n dX7_see_30 rfl rfl rfl ?_
        refine F_getI dX7_see_31 fl_X7_135 ly_82 rfl rfl ?_
        refine V_bipush dX7_see_34 cb_6 rfl ?_
        refine A_icmp_ne dX7_see_36 rfl rfl h (fun h => ?_) (fun h => ?_)
        · refine V_aload_n dX7_see_42 rfl rfl rfl ?_
          refine F_getR dX7_see_43 fl_X7_35 ly_82 rfl rfl ?_
          refine V_iconst dX7_see_46 ci_3 rfl ?_
          refine V_aload_n dX7_see_47 rfl rfl rfl ?_
          refine F_getI dX7_see_48 fl_X7_135 ly_82 rfl rfl ?_
          refine V_imul dX7_see_51 rfl ?_
          refine V_iload_n dX7_see_52 rfl rfl rfl ?_
          refine A_st0 dX7_see_53 rfl h fun F3 h => ?_
          refine V_aload_n dX7_see_54 rfl rfl rfl ?_
          refine F_getR dX7_see_55 fl_X7_35 ly_82 rfl rfl ?_
          refine V_iconst dX7_see_58 ci_3 rfl ?_
          refine V_aload_n dX7_see_59 rfl rfl rfl ?_
          refine F_getI dX7_see_60 fl_X7_135 ly_82 rfl rfl ?_
          refine V_imul dX7_see_63 rfl ?_
          refine V_iconst dX7_see_64 ci_1 rfl ?_
          refine V_iadd dX7_see_65 rfl ?_
          refine V_iload_n dX7_see_66 rfl rfl rfl ?_
          refine A_st0 dX7_see_67 rfl h fun F4 h => ?_
          refine V_aload_n dX7_see_68 rfl rfl rfl ?_
          refine F_getR dX7_see_69 fl_X7_35 ly_82 rfl rfl ?_
          refine V_iconst dX7_see_72 ci_3 rfl ?_
          refine V_aload_n dX7_see_73 rfl rfl rfl ?_
          refine F_getI dX7_see_74 fl_X7_135 ly_82 rfl rfl ?_
          refine V_imul dX7_see_77 rfl ?_
          refine V_iconst dX7_see_78 ci_2 rfl ?_
          refine V_iadd dX7_see_79 rfl ?_
          refine V_iload_n dX7_see_80 rfl rfl rfl ?_
          refine A_st0 dX7_see_81 rfl h fun F5 h => ?_
          refine V_aload_n dX7_see_82 rfl rfl rfl ?_
          refine V_dup dX7_see_83 rfl rfl ?_
          refine F_getI dX7_see_84 fl_X7_135 ly_82 rfl rfl ?_
          refine V_iconst dX7_see_87 ci_1 rfl ?_
          refine V_iadd dX7_see_88 rfl ?_
          refine A_pn dX7_see_89 fl_X7_135 rfl (Or.inl rfl) ly_82 rfl rfl h fun F6 h => ?_
          refine V_aload_n dX7_see_92 rfl rfl rfl ?_
          refine F_getI dX7_see_93 fl_X7_135 ly_82 rfl rfl ?_
          exact A_ireturn dX7_see_96 rfl h
        · refine V_bipush dX7_see_39 cb_m3 rfl ?_
          exact A_ireturn dX7_see_41 rfl h
      · refine V_iconst dX7_see_28 ci_m1 rfl ?_
        exact A_ireturn dX7_see_29 rfl h
theorem cp_X7_see {N d : Nat} {l1 : Int32} {l2 : Int32} {l3 : Int32} {F F' : FF} {r : Int32} (h : fX7_see N l1 l2 l3 F = some (r, F')) : CP (d + 2) mX7_see [.ref 82, .int l1, .int l2, .int l3] F (fun r' F'' => r' = eI r ∧ F'' = F') := CP_I rfl (Nat.le_of_ble_eq_true rfl) (okX7_see h)
theorem okX7_forget {N d : Nat} {l1 : Int32} {F : FF} {res : Int32 × FF} (h : fX7_forget N l1 F = some res) : FV cX7_forget 3 RX7 (d + 1) (some .int) none 0 [.ref 82, .int l1, .null] [] F (RI res) := by
  unfold fX7_forget at h
  refine V_iload_n dX7_forget_0 rfl rfl rfl ?_
  refine V_i2l dX7_forget_1 rfl ?_
  refine V_lconst dX7_forget_2 cl_0 rfl ?_
  refine V_aload_n dX7_forget_3 rfl rfl rfl ?_
  refine F_getI dX7_forget_4 fl_X7_135 ly_82 rfl rfl ?_
  refine V_i2l dX7_forget_7 rfl ?_
  refine P_callS dX7_forget_8 cl_X7_56 (cq_X7_in (d := d)) (As := [.long l1.toInt64, .long 0, .long ((F 82 22).toInt64)]) (st := []) rfl rfl (Nat.le_of_ble_eq_true rfl) rfl ?_
  refine A_if_ne dX7_forget_11 rfl rfl h (fun h => ?_) (fun h => ?_)
  · refine V_aload_n dX7_forget_16 rfl rfl rfl ?_
    refine F_getI dX7_forget_17 fl_X7_135 ly_82 rfl rfl ?_
    refine V_istore_n dX7_forget_20 rfl (by decide) rfl (ls' := [.ref 82, .int l1, .int (F 82 22)]) rfl rfl ?_
    refine V_aload_n dX7_forget_21 rfl rfl rfl ?_
    refine V_iload_n dX7_forget_22 rfl rfl rfl ?_
    refine A_pn dX7_forget_23 fl_X7_135 rfl (Or.inl rfl) ly_82 rfl rfl h fun F1 h => ?_
    refine V_iload_n dX7_forget_26 rfl rfl rfl ?_
    exact A_ireturn dX7_forget_27 rfl h
  · refine V_iconst dX7_forget_14 ci_m1 rfl ?_
    exact A_ireturn dX7_forget_15 rfl h
theorem cp_X7_forget {N d : Nat} {l1 : Int32} {F F' : FF} {r : Int32} (h : fX7_forget N l1 F = some (r, F')) : CP (d + 1) mX7_forget [.ref 82, .int l1] F (fun r' F'' => r' = eI r ∧ F'' = F') := CP_I rfl (Nat.le_of_ble_eq_true rfl) (okX7_forget h)
theorem okX7_isAsSeen_b169 {N d : Nat} {k73 : Int32 → Int32 → FF → Option (Int32 × FF)} {l1 : Int32} {l3 : Int32} {l4 : Int32} {s0 : Int32} {F : FF} {res : Int32 × FF} (hk73 : ∀ (x2 : Int32) (x4 : Int32) (F : FF), k73 x2 x4 F = some res → FV cX7_isAsSeen 7 RX7 (d + 3) (some .boolean) none 73 [.ref 82, .int l1, .int x2, .int l3, .int x4, .null, .null] [] F (RI res)) (h : fX7_isAsSeen_b169 N k73 l1 l3 l4 s0 F = some res) : FV cX7_isAsSeen 7 RX7 (d + 3) (some .boolean) none 169 [.ref 82, .int l1, .null, .int l3, .int l4, .null, .null] [.int s0] F (RI res) := by
  unfold fX7_isAsSeen_b169 at h
  refine V_istore_n dX7_isAsSeen_169 rfl (by decide) rfl (ls' := [.ref 82, .int l1, .int s0, .int l3, .int l4, .null, .null]) rfl rfl ?_
  refine V_iinc dX7_isAsSeen_170 (v := l4 + 1) rfl (by rw [ci_1]) rfl (ls' := [.ref 82, .int l1, .int s0, .int l3, .int (l4 + 1), .null, .null]) rfl rfl ?_
  refine V_goto dX7_isAsSeen_173 rfl ?_
  exact hk73 s0 (l4 + 1) F h
theorem okX7_isAsSeen_b168 {N d : Nat} {k73 : Int32 → Int32 → FF → Option (Int32 × FF)} {l1 : Int32} {l3 : Int32} {l4 : Int32} {F : FF} {res : Int32 × FF} (hk73 : ∀ (x2 : Int32) (x4 : Int32) (F : FF), k73 x2 x4 F = some res → FV cX7_isAsSeen 7 RX7 (d + 3) (some .boolean) none 73 [.ref 82, .int l1, .int x2, .int l3, .int x4, .null, .null] [] F (RI res)) (h : fX7_isAsSeen_b168 N k73 l1 l3 l4 F = some res) : FV cX7_isAsSeen 7 RX7 (d + 3) (some .boolean) none 168 [.ref 82, .int l1, .null, .int l3, .int l4, .null, .null] [] F (RI res) := by
  unfold fX7_isAsSeen_b168 at h
  refine V_iconst dX7_isAsSeen_168 ci_0 rfl ?_
  exact okX7_isAsSeen_b169 hk73 h
theorem okX7_isAsSeen_b140 {N d : Nat} {k73 : Int32 → Int32 → FF → Option (Int32 × FF)} {l1 : Int32} {l2 : Int32} {l3 : Int32} {l4 : Int32} {s0 : Int32} {F : FF} {res : Int32 × FF} (hk73 : ∀ (x2 : Int32) (x4 : Int32) (F : FF), k73 x2 x4 F = some res → FV cX7_isAsSeen 7 RX7 (d + 3) (some .boolean) none 73 [.ref 82, .int l1, .int x2, .int l3, .int x4, .null, .null] [] F (RI res)) (h : fX7_isAsSeen_b140 N k73 l1 l2 l3 l4 s0 F = some res) : FV cX7_isAsSeen 7 RX7 (d + 3) (some .boolean) none 140 [.ref 82, .int l1, .int l2, .int l3, .int l4, .null, .null] [.int s0] F (RI res) := by
  unfold fX7_isAsSeen_b140 at h
  refine V_istore dX7_isAsSeen_140 (by decide) rfl (ls' := [.ref 82, .int l1, .int l2, .int l3, .int l4, .null, .int s0]) rfl rfl ?_
  refine V_iload_n dX7_isAsSeen_142 rfl rfl rfl ?_
  refine A_if_eq dX7_isAsSeen_143 rfl rfl h (fun h => ?_) (fun h => ?_)
  · refine V_weak [true, true, false, true, true, false, false] rfl ?_
    exact okX7_isAsSeen_b168 hk73 h
  · refine V_aload_n dX7_isAsSeen_146 rfl rfl rfl ?_
    refine F_getR dX7_isAsSeen_147 fl_X7_35 ly_82 rfl rfl ?_
    refine V_iconst dX7_isAsSeen_150 ci_3 rfl ?_
    refine V_iload dX7_isAsSeen_151 rfl rfl ?_
    refine V_imul dX7_isAsSeen_153 rfl ?_
    refine A_ld0 dX7_isAsSeen_154 rfl h fun v1 h => ?_
    refine V_iload_n dX7_isAsSeen_155 rfl rfl rfl ?_
    refine V_midI (q := 169) ((if ¬ v1 = l3 then 1 else (if s0 = 0 then 0 else 1) : Int32)) [] (fun yJ hy hJ => ?_) ?_
    · refine V_icmp_ne dX7_isAsSeen_156 rfl rfl (fun c => ?_) (fun c => ?_)
      · rw [if_pos c] at hy
        refine V_iconst dX7_isAsSeen_164 ci_1 rfl ?_
        refine V_goto dX7_isAsSeen_165 rfl ?_
        rw [hy] at hJ
        exact hJ
      · rw [if_neg (fun z => z c)] at hy
        refine V_iload dX7_isAsSeen_159 rfl rfl ?_
        refine V_if_eq dX7_isAsSeen_161 rfl rfl (fun c => ?_) (fun c => ?_)
        · rw [if_pos c] at hy
          refine V_iconst dX7_isAsSeen_168 ci_0 rfl ?_
          rw [hy] at hJ
          exact hJ
        · rw [if_neg c] at hy
          refine V_iconst dX7_isAsSeen_164 ci_1 rfl ?_
          refine V_goto dX7_isAsSeen_165 rfl ?_
          rw [hy] at hJ
          exact hJ
    · refine V_istore_n dX7_isAsSeen_169 rfl (by decide) rfl (ls' := [.ref 82, .int l1, .int ((if ¬ v1 = l3 then 1 else (if s0 = 0 then 0 else 1) : Int32)), .int l3, .int l4, .null, .int s0]) rfl rfl ?_
      refine V_iinc dX7_isAsSeen_170 (v := l4 + 1) rfl (by rw [ci_1]) rfl (ls' := [.ref 82, .int l1, .int ((if ¬ v1 = l3 then 1 else (if s0 = 0 then 0 else 1) : Int32)), .int l3, .int (l4 + 1), .null, .int s0]) rfl rfl ?_
      refine V_goto dX7_isAsSeen_173 rfl ?_
      refine V_weak [true, true, true, true, true, false, false] rfl ?_
      exact hk73 ((if ¬ v1 = l3 then 1 else (if s0 = 0 then 0 else 1) : Int32)) (l4 + 1) F h
theorem okX7_isAsSeen_b139 {N d : Nat} {k73 : Int32 → Int32 → FF → Option (Int32 × FF)} {l1 : Int32} {l2 : Int32} {l3 : Int32} {l4 : Int32} {F : FF} {res : Int32 × FF} (hk73 : ∀ (x2 : Int32) (x4 : Int32) (F : FF), k73 x2 x4 F = some res → FV cX7_isAsSeen 7 RX7 (d + 3) (some .boolean) none 73 [.ref 82, .int l1, .int x2, .int l3, .int x4, .null, .null] [] F (RI res)) (h : fX7_isAsSeen_b139 N k73 l1 l2 l3 l4 F = some res) : FV cX7_isAsSeen 7 RX7 (d + 3) (some .boolean) none 139 [.ref 82, .int l1, .int l2, .int l3, .int l4, .null, .null] [] F (RI res) := by
  unfold fX7_isAsSeen_b139 at h
  refine V_iconst dX7_isAsSeen_139 ci_0 rfl ?_
  exact okX7_isAsSeen_b140 hk73 h
theorem okX7_isAsSeen_L73 {N d : Nat} {k12 : Int32 → Int32 → FF → Option (Int32 × FF)} {l1 : Int32} {l3 : Int32} {res : Int32 × FF} (hk12 : ∀ (x2 : Int32) (x3 : Int32) (F : FF), k12 x2 x3 F = some res → FV cX7_isAsSeen 7 RX7 (d + 3) (some .boolean) none 12 [.ref 82, .int l1, .int x2, .int x3, .null, .null, .null] [] F (RI res)) : ∀ (n : Nat) (l2 : Int32) (l4 : Int32) (F : FF), fX7_isAsSeen_L73 N k12 l1 l3 n l2 l4 F = some res → FV cX7_isAsSeen 7 RX7 (d + 3) (some .boolean) none 73 [.ref 82, .int l1, .int l2, .int l3, .int l4, .null, .null] [] F (RI res) := by
  intro n
  induction n with
  | zero =>
    intro l2 l4 F h
    rw [fX7_isAsSeen_L73.eq_1] at h
    cases h
  | succ n ih =>
    intro l2 l4 F h
    rw [fX7_isAsSeen_L73.eq_2] at h
    refine V_iload dX7_isAsSeen_73 rfl rfl ?_
    refine V_aload_n dX7_isAsSeen_75 rfl rfl rfl ?_
    refine F_getI dX7_isAsSeen_76 fl_X7_135 ly_82 rfl rfl ?_
    refine A_icmp_ge dX7_isAsSeen_79 rfl rfl h (fun h => ?_) (fun h => ?_)
    · refine V_aload_n dX7_isAsSeen_176 rfl rfl rfl ?_
      refine V_sipush dX7_isAsSeen_177 cs_300 rfl ?_
      refine V_iconst dX7_isAsSeen_180 ci_0 rfl ?_
      refine A_callC (ci := 7) eU dX7_isAsSeen_181 cl_X7_186 (by decide) rfl rfl (As := [.int 300, .int 0]) (st := []) rfl rfl (Nat.le_of_ble_eq_true rfl) rfl h (fun _ _ h => cp_X7_stepOn (d := d) h) fun _ F1 h => ?_
      refine V_iinc dX7_isAsSeen_184 (v := l3 + 1) rfl (by rw [ci_1]) rfl (ls' := [.ref 82, .int l1, .int l2, .int (l3 + 1), .int l4, .null, .null]) rfl rfl ?_
      refine V_goto dX7_isAsSeen_187 rfl ?_
      refine V_weak [true, true, true, true, false, false, false] rfl ?_
      exact hk12 l2 (l3 + 1) F1 h
    · refine V_aload_n dX7_isAsSeen_82 rfl rfl rfl ?_
      refine F_getR dX7_isAsSeen_83 fl_X7_35 ly_82 rfl rfl ?_
      refine V_iconst dX7_isAsSeen_86 ci_3 rfl ?_
      refine V_iload dX7_isAsSeen_87 rfl rfl ?_
      refine V_imul dX7_isAsSeen_89 rfl ?_
      refine V_iconst dX7_isAsSeen_90 ci_1 rfl ?_
      refine V_iadd dX7_isAsSeen_91 rfl ?_
      refine A_ld0 dX7_isAsSeen_92 rfl h fun v1 h => ?_
      refine V_istore dX7_isAsSeen_93 (by decide) rfl (ls' := [.ref 82, .int l1, .int l2, .int l3, .int l4, .int v1, .null]) rfl rfl ?_
      refine V_iload dX7_isAsSeen_95 rfl rfl ?_
      refine V_aload_n dX7_isAsSeen_97 rfl rfl rfl ?_
      refine F_getR dX7_isAsSeen_98 fl_X7_7 ly_82 rfl rfl ?_
      refine V_bipush dX7_isAsSeen_101 cb_8 rfl ?_
      refine F_iald dX7_isAsSeen_103 ly_83 (j := 8) (by decide) (by decide) (by decide) rfl ?_
      refine A_icmp_ge dX7_isAsSeen_104 rfl rfl h (fun h => ?_) (fun h => ?_)
      · refine V_weak [true, true, true, true, true, false, false] rfl ?_
        exact okX7_isAsSeen_b139 (fun x2 x4 F h => ih x2 x4 F h) h
      · refine V_aload_n dX7_isAsSeen_107 rfl rfl rfl ?_
        refine F_getR dX7_isAsSeen_108 fl_X7_7 ly_82 rfl rfl ?_
        refine V_sipush dX7_isAsSeen_111 cs_327 rfl ?_
        refine V_bipush dX7_isAsSeen_114 cb_6 rfl ?_
        refine V_iload dX7_isAsSeen_116 rfl rfl ?_
        refine V_imul dX7_isAsSeen_118 rfl ?_
        refine V_iadd dX7_isAsSeen_119 rfl ?_
        refine A_ld0 dX7_isAsSeen_120 rfl h fun v2 h => ?_
        refine V_aload_n dX7_isAsSeen_121 rfl rfl rfl ?_
        refine F_getR dX7_isAsSeen_122 fl_X7_35 ly_82 rfl rfl ?_
        refine V_iconst dX7_isAsSeen_125 ci_3 rfl ?_
        refine V_iload dX7_isAsSeen_126 rfl rfl ?_
        refine V_imul dX7_isAsSeen_128 rfl ?_
        refine V_iconst dX7_isAsSeen_129 ci_2 rfl ?_
        refine V_iadd dX7_isAsSeen_130 rfl ?_
        refine A_ld0 dX7_isAsSeen_131 rfl h fun v3 h => ?_
        refine V_midI (q := 140) ((if ¬ v2 = v3 then 0 else 1 : Int32)) [] (fun yJ hy hJ => ?_) ?_
        · refine V_icmp_ne dX7_isAsSeen_132 rfl rfl (fun c => ?_) (fun c => ?_)
          · rw [if_pos c] at hy
            refine V_iconst dX7_isAsSeen_139 ci_0 rfl ?_
            rw [hy] at hJ
            exact hJ
          · rw [if_neg (fun z => z c)] at hy
            refine V_iconst dX7_isAsSeen_135 ci_1 rfl ?_
            refine V_goto dX7_isAsSeen_136 rfl ?_
            rw [hy] at hJ
            exact hJ
        · refine V_istore dX7_isAsSeen_140 (by decide) rfl (ls' := [.ref 82, .int l1, .int l2, .int l3, .int l4, .int v1, .int ((if ¬ v2 = v3 then 0 else 1 : Int32))]) rfl rfl ?_
          refine V_iload_n dX7_isAsSeen_142 rfl rfl rfl ?_
          refine A_if_eq dX7_isAsSeen_143 rfl rfl h (fun h => ?_) (fun h => ?_)
          · refine V_weak [true, true, false, true, true, false, false] rfl ?_
            exact okX7_isAsSeen_b168 (fun x2 x4 F h => ih x2 x4 F h) h
          · refine V_aload_n dX7_isAsSeen_146 rfl rfl rfl ?_
            refine F_getR dX7_isAsSeen_147 fl_X7_35 ly_82 rfl rfl ?_
            refine V_iconst dX7_isAsSeen_150 ci_3 rfl ?_
            refine V_iload dX7_isAsSeen_151 rfl rfl ?_
            refine V_imul dX7_isAsSeen_153 rfl ?_
            refine A_ld0 dX7_isAsSeen_154 rfl h fun v4 h => ?_
            refine V_iload_n dX7_isAsSeen_155 rfl rfl rfl ?_
            refine V_midI (q := 169) ((if ¬ v4 = l3 then 1 else (if ((if ¬ v2 = v3 then 0 else 1 : Int32)) = 0 then 0 else 1) : Int32)) [] (fun yJ hy hJ => ?_) ?_
            · refine V_icmp_ne dX7_isAsSeen_156 rfl rfl (fun c => ?_) (fun c => ?_)
              · rw [if_pos c] at hy
                refine V_iconst dX7_isAsSeen_164 ci_1 rfl ?_
                refine V_goto dX7_isAsSeen_165 rfl ?_
                rw [hy] at hJ
                exact hJ
              · rw [if_neg (fun z => z c)] at hy
                refine V_iload dX7_isAsSeen_159 rfl rfl ?_
                refine V_if_eq dX7_isAsSeen_161 rfl rfl (fun c => ?_) (fun c => ?_)
                · rw [if_pos c] at hy
                  refine V_iconst dX7_isAsSeen_168 ci_0 rfl ?_
                  rw [hy] at hJ
                  exact hJ
                · rw [if_neg c] at hy
                  refine V_iconst dX7_isAsSeen_164 ci_1 rfl ?_
                  refine V_goto dX7_isAsSeen_165 rfl ?_
                  rw [hy] at hJ
                  exact hJ
            · refine V_istore_n dX7_isAsSeen_169 rfl (by decide) rfl (ls' := [.ref 82, .int l1, .int ((if ¬ v4 = l3 then 1 else (if ((if ¬ v2 = v3 then 0 else 1 : Int32)) = 0 then 0 else 1) : Int32)), .int l3, .int l4, .int v1, .int ((if ¬ v2 = v3 then 0 else 1 : Int32))]) rfl rfl ?_
              refine V_iinc dX7_isAsSeen_170 (v := l4 + 1) rfl (by rw [ci_1]) rfl (ls' := [.ref 82, .int l1, .int ((if ¬ v4 = l3 then 1 else (if ((if ¬ v2 = v3 then 0 else 1 : Int32)) = 0 then 0 else 1) : Int32)), .int l3, .int (l4 + 1), .int v1, .int ((if ¬ v2 = v3 then 0 else 1 : Int32))]) rfl rfl ?_
              refine V_goto dX7_isAsSeen_173 rfl ?_
              refine V_weak [true, true, true, true, true, false, false] rfl ?_
              exact ih ((if ¬ v4 = l3 then 1 else (if ((if ¬ v2 = v3 then 0 else 1 : Int32)) = 0 then 0 else 1) : Int32)) (l4 + 1) F h
theorem okX7_isAsSeen_L21 {N d : Nat} {k12 : Int32 → Int32 → FF → Option (Int32 × FF)} {l1 : Int32} {l2 : Int32} {l3 : Int32} {res : Int32 × FF} (hk12 : ∀ (x2 : Int32) (x3 : Int32) (F : FF), k12 x2 x3 F = some res → FV cX7_isAsSeen 7 RX7 (d + 3) (some .boolean) none 12 [.ref 82, .int l1, .int x2, .int x3, .null, .null, .null] [] F (RI res)) : ∀ (n : Nat) (l4 : Int32) (F : FF), fX7_isAsSeen_L21 N k12 l1 l2 l3 n l4 F = some res → FV cX7_isAsSeen 7 RX7 (d + 3) (some .boolean) none 21 [.ref 82, .int l1, .int l2, .int l3, .int l4, .null, .null] [] F (RI res) := by
  intro n
  induction n with
  | zero =>
    intro l4 F h
    rw [fX7_isAsSeen_L21.eq_1] at h
    cases h
  | succ n ih =>
    intro l4 F h
    rw [fX7_isAsSeen_L21.eq_2] at h
    refine V_iload dX7_isAsSeen_21 rfl rfl ?_
    refine V_aload_n dX7_isAsSeen_23 rfl rfl rfl ?_
    refine F_getR dX7_isAsSeen_24 fl_X7_7 ly_82 rfl rfl ?_
    refine V_bipush dX7_isAsSeen_27 cb_8 rfl ?_
    refine F_iald dX7_isAsSeen_29 ly_83 (j := 8) (by decide) (by decide) (by decide) rfl ?_
    refine A_icmp_ge dX7_isAsSeen_30 rfl rfl h (fun h => ?_) (fun h => ?_)
    · refine V_iconst dX7_isAsSeen_70 ci_0 rfl ?_
      refine V_istore dX7_isAsSeen_71 (by decide) rfl (ls' := [.ref 82, .int l1, .int l2, .int l3, .int 0, .null, .null]) rfl rfl ?_
      exact okX7_isAsSeen_L73 hk12 _ _ _ _ h
    · refine V_aload_n dX7_isAsSeen_33 rfl rfl rfl ?_
      refine F_getR dX7_isAsSeen_34 fl_X7_38 ly_82 rfl rfl ?_
      refine V_sipush dX7_isAsSeen_37 cs_164 rfl ?_
      refine V_iload_n dX7_isAsSeen_40 rfl rfl rfl ?_
      refine V_imul dX7_isAsSeen_41 rfl ?_
      refine V_iconst dX7_isAsSeen_42 ci_4 rfl ?_
      refine V_iload_n dX7_isAsSeen_43 rfl rfl rfl ?_
      refine V_imul dX7_isAsSeen_44 rfl ?_
      refine V_iadd dX7_isAsSeen_45 rfl ?_
      refine V_iload dX7_isAsSeen_46 rfl rfl ?_
      refine V_iadd dX7_isAsSeen_48 rfl ?_
      refine V_aload_n dX7_isAsSeen_49 rfl rfl rfl ?_
      refine F_getR dX7_isAsSeen_50 fl_X7_7 ly_82 rfl rfl ?_
      refine V_sipush dX7_isAsSeen_53 cs_327 rfl ?_
      refine V_bipush dX7_isAsSeen_56 cb_6 rfl ?_
      refine V_iload dX7_isAsSeen_58 rfl rfl ?_
      refine V_imul dX7_isAsSeen_60 rfl ?_
      refine V_iadd dX7_isAsSeen_61 rfl ?_
      refine A_ld0 dX7_isAsSeen_62 rfl h fun v1 h => ?_
      refine A_st0 dX7_isAsSeen_63 rfl h fun F1 h => ?_
      refine V_iinc dX7_isAsSeen_64 (v := l4 + 1) rfl (by rw [ci_1]) rfl (ls' := [.ref 82, .int l1, .int l2, .int l3, .int (l4 + 1), .null, .null]) rfl rfl ?_
      refine V_goto dX7_isAsSeen_67 rfl ?_
      exact ih (l4 + 1) F1 h
theorem okX7_isAsSeen_L12 {N d : Nat} {l1 : Int32} {res : Int32 × FF} : ∀ (n : Nat) (l2 : Int32) (l3 : Int32) (F : FF), fX7_isAsSeen_L12 N l1 n l2 l3 F = some res → FV cX7_isAsSeen 7 RX7 (d + 3) (some .boolean) none 12 [.ref 82, .int l1, .int l2, .int l3, .null, .null, .null] [] F (RI res) := by
  intro n
  induction n with
  | zero =>
    intro l2 l3 F h
    rw [fX7_isAsSeen_L12.eq_1] at h
    cases h
  | succ n ih =>
    intro l2 l3 F h
    rw [fX7_isAsSeen_L12.eq_2] at h
    refine V_iload_n dX7_isAsSeen_12 rfl rfl rfl ?_
    refine V_bipush dX7_isAsSeen_13 cb_40 rfl ?_
    refine A_icmp_gt dX7_isAsSeen_15 rfl rfl h (fun h => ?_) (fun h => ?_)
    · refine V_iload_n dX7_isAsSeen_190 rfl rfl rfl ?_
      exact A_zreturn dX7_isAsSeen_191 rfl h
    · refine V_iconst dX7_isAsSeen_18 ci_0 rfl ?_
      refine V_istore dX7_isAsSeen_19 (by decide) rfl (ls' := [.ref 82, .int l1, .int l2, .int l3, .int 0, .null, .null]) rfl rfl ?_
      exact okX7_isAsSeen_L21 (fun x2 x3 F h => ih x2 x3 F h) _ _ _ h
theorem okX7_isAsSeen {N d : Nat} {l1 : Int32} {F : FF} {res : Int32 × FF} (h : fX7_isAsSeen N l1 F = some res) : FV cX7_isAsSeen 7 RX7 (d + 3) (some .boolean) none 0 [.ref 82, .int l1, .null, .null, .null, .null, .null] [] F (RI res) := by
  unfold fX7_isAsSeen at h
  refine V_aload_n dX7_isAsSeen_0 rfl rfl rfl ?_
  refine V_iconst dX7_isAsSeen_1 ci_0 rfl ?_
  refine V_sipush dX7_isAsSeen_2 cs_300 rfl ?_
  refine A_callC (ci := 7) eU dX7_isAsSeen_5 cl_X7_193 (by decide) rfl rfl (As := [.int 0, .int 300]) (st := []) rfl rfl (Nat.le_of_ble_eq_true rfl) rfl h (fun _ _ h => cp_X7_copies (d := d + 2) h) fun _ F1 h => ?_
  refine V_iconst dX7_isAsSeen_8 ci_1 rfl ?_
  refine V_istore_n dX7_isAsSeen_9 rfl (by decide) rfl (ls' := [.ref 82, .int l1, .int 1, .null, .null, .null, .null]) rfl rfl ?_
  refine V_iconst dX7_isAsSeen_10 ci_0 rfl ?_
  refine V_istore_n dX7_isAsSeen_11 rfl (by decide) rfl (ls' := [.ref 82, .int l1, .int 1, .int 0, .null, .null, .null]) rfl rfl ?_
  exact okX7_isAsSeen_L12 _ _ _ _ h
theorem cp_X7_isAsSeen {N d : Nat} {l1 : Int32} {F F' : FF} {r : Int32} (h : fX7_isAsSeen N l1 F = some (r, F')) : CP (d + 3) mX7_isAsSeen [.ref 82, .int l1] F (fun r' F'' => r' = eI r ∧ F'' = F') := CP_I rfl (Nat.le_of_ble_eq_true rfl) (okX7_isAsSeen h)
theorem okX7_numbersAt_L13 {N d : Nat} {l1 : Int32} {l2 : Int32} {l3 : Int32} {res : Int32 × FF} : ∀ (n : Nat) (l4 : Int32) (l5 : Int32) (F : FF), fX7_numbersAt_L13 N l1 l2 l3 n l4 l5 F = some res → FV cX7_numbersAt 6 RX7 (d + 4) (some .int) none 13 [.ref 82, .int l1, .int l2, .int l3, .int l4, .int l5] [] F (RI res) := by
  intro n
  induction n with
  | zero =>
    intro l4 l5 F h
    rw [fX7_numbersAt_L13.eq_1] at h
    cases h
  | succ n ih =>
    intro l4 l5 F h
    rw [fX7_numbersAt_L13.eq_2] at h
    refine V_iload dX7_numbersAt_13 rfl rfl ?_
    refine V_iload_n dX7_numbersAt_15 rfl rfl rfl ?_
    refine A_icmp_ge dX7_numbersAt_16 rfl rfl h (fun h => ?_) (fun h => ?_)
    · refine V_aload_n dX7_numbersAt_55 rfl rfl rfl ?_
      refine F_getR dX7_numbersAt_56 fl_X7_7 ly_82 rfl rfl ?_
      refine V_iload_n dX7_numbersAt_59 rfl rfl rfl ?_
      refine V_iload_n dX7_numbersAt_60 rfl rfl rfl ?_
      refine A_st0 dX7_numbersAt_61 rfl h fun F1 h => ?_
      refine V_iload dX7_numbersAt_62 rfl rfl ?_
      exact A_ireturn dX7_numbersAt_64 rfl h
    · refine V_aload_n dX7_numbersAt_19 rfl rfl rfl ?_
      refine F_getR dX7_numbersAt_20 fl_X7_7 ly_82 rfl rfl ?_
      refine V_iload_n dX7_numbersAt_23 rfl rfl rfl ?_
      refine V_iload dX7_numbersAt_24 rfl rfl ?_
      refine A_st0 dX7_numbersAt_26 rfl h fun F2 h => ?_
      refine V_iload dX7_numbersAt_27 rfl rfl ?_
      refine V_aload_n dX7_numbersAt_29 rfl rfl rfl ?_
      refine V_iload dX7_numbersAt_30 rfl rfl ?_
      refine A_callC (ci := 7) eI dX7_numbersAt_32 cl_X7_229 (by decide) rfl rfl (As := [.int l5]) (st := [.int l4]) rfl rfl (Nat.le_of_ble_eq_true rfl) rfl h (fun _ _ h => cp_X7_isAsSeen (d := d) h) fun v1 F3 h => ?_
      refine V_midI (q := 46) ((if v1 = 0 then 0 else (1 <<< (l5 &&& 31)) : Int32)) [.int l4] (fun yJ hy hJ => ?_) ?_
      · refine V_if_eq dX7_numbersAt_35 rfl rfl (fun c => ?_) (fun c => ?_)
        · rw [if_pos c] at hy
          refine V_iconst dX7_numbersAt_45 ci_0 rfl ?_
          rw [hy] at hJ
          exact hJ
        · rw [if_neg c] at hy
          refine V_iconst dX7_numbersAt_38 ci_1 rfl ?_
          refine V_iload dX7_numbersAt_39 rfl rfl ?_
          refine V_ishl dX7_numbersAt_41 rfl ?_
          refine V_goto dX7_numbersAt_42 rfl ?_
          rw [hy] at hJ
          exact hJ
      · refine V_ior dX7_numbersAt_46 rfl ?_
        refine V_istore dX7_numbersAt_47 (by decide) rfl (ls' := [.ref 82, .int l1, .int l2, .int l3, .int (l4 ||| ((if v1 = 0 then 0 else (1 <<< (l5 &&& 31)) : Int32))), .int l5]) rfl rfl ?_
        refine V_iinc dX7_numbersAt_49 (v := l5 + 1) rfl (by rw [ci_1]) rfl (ls' := [.ref 82, .int l1, .int l2, .int l3, .int (l4 ||| ((if v1 = 0 then 0 else (1 <<< (l5 &&& 31)) : Int32))), .int (l5 + 1)]) rfl rfl ?_
        refine V_goto dX7_numbersAt_52 rfl ?_
        exact ih (l4 ||| ((if v1 = 0 then 0 else (1 <<< (l5 &&& 31)) : Int32))) (l5 + 1) F3 h
theorem okX7_numbersAt {N d : Nat} {l1 : Int32} {l2 : Int32} {F : FF} {res : Int32 × FF} (h : fX7_numbersAt N l1 l2 F = some res) : FV cX7_numbersAt 6 RX7 (d + 4) (some .int) none 0 [.ref 82, .int l1, .int l2, .null, .null, .null] [] F (RI res) := by
  unfold fX7_numbersAt at h
  refine V_aload_n dX7_numbersAt_0 rfl rfl rfl ?_
  refine F_getR dX7_numbersAt_1 fl_X7_7 ly_82 rfl rfl ?_
  refine V_iload_n dX7_numbersAt_4 rfl rfl rfl ?_
  refine A_ld0 dX7_numbersAt_5 rfl h fun v1 h => ?_
  refine V_istore_n dX7_numbersAt_6 rfl (by decide) rfl (ls' := [.ref 82, .int l1, .int l2, .int v1, .null, .null]) rfl rfl ?_
  refine V_iconst dX7_numbersAt_7 ci_0 rfl ?_
  refine V_istore dX7_numbersAt_8 (by decide) rfl (ls' := [.ref 82, .int l1, .int l2, .int v1, .int 0, .null]) rfl rfl ?_
  refine V_iconst dX7_numbersAt_10 ci_0 rfl ?_
  refine V_istore dX7_numbersAt_11 (by decide) rfl (ls' := [.ref 82, .int l1, .int l2, .int v1, .int 0, .int 0]) rfl rfl ?_
  exact okX7_numbersAt_L13 _ _ _ _ h
theorem cp_X7_numbersAt {N d : Nat} {l1 : Int32} {l2 : Int32} {F F' : FF} {r : Int32} (h : fX7_numbersAt N l1 l2 F = some (r, F')) : CP (d + 4) mX7_numbersAt [.ref 82, .int l1, .int l2] F (fun r' F'' => r' = eI r ∧ F'' = F') := CP_I rfl (Nat.le_of_ble_eq_true rfl) (okX7_numbersAt h)
theorem okX7_kinds {N d : Nat} {l1 : Int32} {F : FF} {res : Int32 × FF} (h : fX7_kinds N l1 F = some res) : FV cX7_kinds 2 RX7 (d + 5) (some .int) none 0 [.ref 82, .int l1] [] F (RI res) := by
  unfold fX7_kinds at h
  refine V_aload_n dX7_kinds_0 rfl rfl rfl ?_
  refine V_iload_n dX7_kinds_1 rfl rfl rfl ?_
  refine A_callC (ci := 7) eI dX7_kinds_2 cl_X7_162 (by decide) rfl rfl (As := [.int l1]) (st := []) rfl rfl (Nat.le_of_ble_eq_true rfl) rfl h (fun _ _ h => cp_X7_isShelf (d := d + 3) h) fun v1 F1 h => ?_
  refine A_if_eq dX7_kinds_5 rfl rfl h (fun h => ?_) (fun h => ?_)
  · refine V_iconst dX7_kinds_17 ci_m1 rfl ?_
    exact A_ireturn dX7_kinds_18 rfl h
  · refine V_aload_n dX7_kinds_8 rfl rfl rfl ?_
    refine V_iload_n dX7_kinds_9 rfl rfl rfl ?_
    refine V_iconst dX7_kinds_10 ci_4 rfl ?_
    refine A_callC (ci := 7) eI dX7_kinds_11 cl_X7_232 (by decide) rfl rfl (As := [.int l1, .int 4]) (st := []) rfl rfl (Nat.le_of_ble_eq_true rfl) rfl h (fun _ _ h => cp_X7_numbersAt (d := d) h) fun v2 F2 h => ?_
    refine V_goto dX7_kinds_14 rfl ?_
    exact A_ireturn dX7_kinds_18 rfl h
theorem cp_X7_kinds {N d : Nat} {l1 : Int32} {F F' : FF} {r : Int32} (h : fX7_kinds N l1 F = some (r, F')) : CP (d + 5) mX7_kinds [.ref 82, .int l1] F (fun r' F'' => r' = eI r ∧ F'' = F') := CP_I rfl (Nat.le_of_ble_eq_true rfl) (okX7_kinds h)
theorem okX7_books {N d : Nat} {l1 : Int32} {F : FF} {res : Int32 × FF} (h : fX7_books N l1 F = some res) : FV cX7_books 2 RX7 (d + 5) (some .int) none 0 [.ref 82, .int l1] [] F (RI res) := by
  unfold fX7_books at h
  refine V_aload_n dX7_books_0 rfl rfl rfl ?_
  refine V_iload_n dX7_books_1 rfl rfl rfl ?_
  refine A_callC (ci := 7) eI dX7_books_2 cl_X7_169 (by decide) rfl rfl (As := [.int l1]) (st := []) rfl rfl (Nat.le_of_ble_eq_true rfl) rfl h (fun _ _ h => cp_X7_isWant (d := d + 3) h) fun v1 F1 h => ?_
  refine A_if_eq dX7_books_5 rfl rfl h (fun h => ?_) (fun h => ?_)
  · refine V_iconst dX7_books_23 ci_m1 rfl ?_
    exact A_ireturn dX7_books_24 rfl h
  · refine V_aload_n dX7_books_8 rfl rfl rfl ?_
    refine V_bipush dX7_books_9 cb_9 rfl ?_
    refine V_iload_n dX7_books_11 rfl rfl rfl ?_
    refine V_iadd dX7_books_12 rfl ?_
    refine V_aload_n dX7_books_13 rfl rfl rfl ?_
    refine F_getI dX7_books_14 fl_X7_13 ly_82 rfl rfl ?_
    refine A_callC (ci := 7) eI dX7_books_17 cl_X7_232 (by decide) rfl rfl (As := [.int (9 + l1), .int (F1 82 1)]) (st := []) rfl rfl (Nat.le_of_ble_eq_true rfl) rfl h (fun _ _ h => cp_X7_numbersAt (d := d) h) fun v2 F2 h => ?_
    refine V_goto dX7_books_20 rfl ?_
    exact A_ireturn dX7_books_24 rfl h
theorem cp_X7_books {N d : Nat} {l1 : Int32} {F F' : FF} {r : Int32} (h : fX7_books N l1 F = some (r, F')) : CP (d + 5) mX7_books [.ref 82, .int l1] F (fun r' F'' => r' = eI r ∧ F'' = F') := CP_I rfl (Nat.le_of_ble_eq_true rfl) (okX7_books h)
theorem okX7_worstAt_b94 {N d : Nat} {k5 : Int32 → Int32 → FF → Option (Int32 × FF)} {l1 : Int32} {l2 : Int32} {l3 : Int32} {l4 : Int32} {l5 : Int32} {F : FF} {res : Int32 × FF} (hk5 : ∀ (x3 : Int32) (x4 : Int32) (F : FF), k5 x3 x4 F = some res → FV cX7_worstAt 7 RX7 (d) (some .int) none 5 [.ref 82, .int l1, .int l2, .int x3, .int x4, .null, .null] [] F (RI res)) (h : fX7_worstAt_b94 N k5 l1 l2 l3 l4 l5 F = some res) : FV cX7_worstAt 7 RX7 (d) (some .int) none 94 [.ref 82, .int l1, .int l2, .int l3, .int l4, .int l5, .null] [] F (RI res) := by
  unfold fX7_worstAt_b94 at h
  refine V_iload dX7_worstAt_94 rfl rfl ?_
  refine V_iload_n dX7_worstAt_96 rfl rfl rfl ?_
  refine V_midI (q := 106) ((if l5 ≤ l3 then l3 else l5 : Int32)) [] (fun yJ hy hJ => ?_) ?_
  · refine V_icmp_le dX7_worstAt_97 rfl rfl (fun c => ?_) (fun c => ?_)
    · rw [if_pos c] at hy
      refine V_iload_n dX7_worstAt_105 rfl rfl rfl ?_
      rw [hy] at hJ
      exact hJ
    · rw [if_neg c] at hy
      refine V_iload dX7_worstAt_100 rfl rfl ?_
      refine V_goto dX7_worstAt_102 rfl ?_
      rw [hy] at hJ
      exact hJ
  · refine V_istore_n dX7_worstAt_106 rfl (by decide) rfl (ls' := [.ref 82, .int l1, .int l2, .int ((if l5 ≤ l3 then l3 else l5 : Int32)), .int l4, .int l5, .null]) rfl rfl ?_
    refine V_iinc dX7_worstAt_107 (v := l4 + 1) rfl (by rw [ci_1]) rfl (ls' := [.ref 82, .int l1, .int l2, .int ((if l5 ≤ l3 then l3 else l5 : Int32)), .int (l4 + 1), .int l5, .null]) rfl rfl ?_
    refine V_goto dX7_worstAt_110 rfl ?_
    refine V_weak [true, true, true, true, true, false, false] rfl ?_
    exact hk5 ((if l5 ≤ l3 then l3 else l5 : Int32)) (l4 + 1) F h
theorem okX7_worstAt_b85 {N d : Nat} {k20 : Int32 → Int32 → FF → Option (Int32 × FF)} {l1 : Int32} {l2 : Int32} {l3 : Int32} {l4 : Int32} {l6 : Int32} {s0 : Int32} {s1 : Int32} {F : FF} {res : Int32 × FF} (hk20 : ∀ (x5 : Int32) (x6 : Int32) (F : FF), k20 x5 x6 F = some res → FV cX7_worstAt 7 RX7 (d) (some .int) none 20 [.ref 82, .int l1, .int l2, .int l3, .int l4, .int x5, .int x6] [] F (RI res)) (h : fX7_worstAt_b85 N k20 l1 l2 l3 l4 l6 s0 s1 F = some res) : FV cX7_worstAt 7 RX7 (d) (some .int) none 85 [.ref 82, .int l1, .int l2, .int l3, .int l4, .null, .int l6] [.int s1, .int s0] F (RI res) := by
  unfold fX7_worstAt_b85 at h
  refine V_iadd dX7_worstAt_85 rfl ?_
  refine V_istore dX7_worstAt_86 (by decide) rfl (ls' := [.ref 82, .int l1, .int l2, .int l3, .int l4, .int (s0 + s1), .int l6]) rfl rfl ?_
  refine V_iinc dX7_worstAt_88 (v := l6 + 1) rfl (by rw [ci_1]) rfl (ls' := [.ref 82, .int l1, .int l2, .int l3, .int l4, .int (s0 + s1), .int (l6 + 1)]) rfl rfl ?_
  refine V_goto dX7_worstAt_91 rfl ?_
  exact hk20 (s0 + s1) (l6 + 1) F h
theorem okX7_worstAt_b84 {N d : Nat} {k20 : Int32 → Int32 → FF → Option (Int32 × FF)} {l1 : Int32} {l2 : Int32} {l3 : Int32} {l4 : Int32} {l6 : Int32} {s0 : Int32} {F : FF} {res : Int32 × FF} (hk20 : ∀ (x5 : Int32) (x6 : Int32) (F : FF), k20 x5 x6 F = some res → FV cX7_worstAt 7 RX7 (d) (some .int) none 20 [.ref 82, .int l1, .int l2, .int l3, .int l4, .int x5, .int x6] [] F (RI res)) (h : fX7_worstAt_b84 N k20 l1 l2 l3 l4 l6 s0 F = some res) : FV cX7_worstAt 7 RX7 (d) (some .int) none 84 [.ref 82, .int l1, .int l2, .int l3, .int l4, .null, .int l6] [.int s0] F (RI res) := by
  unfold fX7_worstAt_b84 at h
  refine V_iconst dX7_worstAt_84 ci_0 rfl ?_
  exact okX7_worstAt_b85 hk20 h
theorem okX7_worstAt_L20 {N d : Nat} {k5 : Int32 → Int32 → FF → Option (Int32 × FF)} {l1 : Int32} {l2 : Int32} {l3 : Int32} {l4 : Int32} {res : Int32 × FF} (hk5 : ∀ (x3 : Int32) (x4 : Int32) (F : FF), k5 x3 x4 F = some res → FV cX7_worstAt 7 RX7 (d) (some .int) none 5 [.ref 82, .int l1, .int l2, .int x3, .int x4, .null, .null] [] F (RI res)) : ∀ (n : Nat) (l5 : Int32) (l6 : Int32) (F : FF), fX7_worstAt_L20 N k5 l1 l2 l3 l4 n l5 l6 F = some res → FV cX7_worstAt 7 RX7 (d) (some .int) none 20 [.ref 82, .int l1, .int l2, .int l3, .int l4, .int l5, .int l6] [] F (RI res) := by
  intro n
  induction n with
  | zero =>
    intro l5 l6 F h
    rw [fX7_worstAt_L20.eq_1] at h
    cases h
  | succ n ih =>
    intro l5 l6 F h
    rw [fX7_worstAt_L20.eq_2] at h
    refine V_iload dX7_worstAt_20 rfl rfl ?_
    refine V_aload_n dX7_worstAt_22 rfl rfl rfl ?_
    refine F_getI dX7_worstAt_23 fl_X7_13 ly_82 rfl rfl ?_
    refine A_icmp_ge dX7_worstAt_26 rfl rfl h (fun h => ?_) (fun h => ?_)
    · refine V_weak [true, true, true, true, true, true, false] rfl ?_
      exact okX7_worstAt_b94 hk5 h
    · refine V_iload_n dX7_worstAt_29 rfl rfl rfl ?_
      refine V_iload dX7_worstAt_30 rfl rfl ?_
      refine V_ishr dX7_worstAt_32 rfl ?_
      refine V_iconst dX7_worstAt_33 ci_1 rfl ?_
      refine V_iand dX7_worstAt_34 rfl ?_
      refine V_iconst dX7_worstAt_35 ci_1 rfl ?_
      refine A_icmp_ne dX7_worstAt_36 rfl rfl h (fun h => ?_) (fun h => ?_)
      · refine V_weak [true, true, true, true, true, true, false] rfl ?_
        exact okX7_worstAt_b94 hk5 h
      · refine V_iload dX7_worstAt_39 rfl rfl ?_
        refine V_iload_n dX7_worstAt_41 rfl rfl rfl ?_
        refine V_iload dX7_worstAt_42 rfl rfl ?_
        refine V_ishr dX7_worstAt_44 rfl ?_
        refine V_iconst dX7_worstAt_45 ci_1 rfl ?_
        refine V_iand dX7_worstAt_46 rfl ?_
        refine V_iconst dX7_worstAt_47 ci_1 rfl ?_
        refine A_icmp_ne dX7_worstAt_48 rfl rfl h (fun h => ?_) (fun h => ?_)
        · refine V_weak [true, true, true, true, true, false, true] rfl ?_
          exact okX7_worstAt_b84 (fun x5 x6 F h => ih x5 x6 F h) h
        · refine V_aload_n dX7_worstAt_51 rfl rfl rfl ?_
          refine F_getR dX7_worstAt_52 fl_X7_38 ly_82 rfl rfl ?_
          refine V_sipush dX7_worstAt_55 cs_164 rfl ?_
          refine V_iload dX7_worstAt_58 rfl rfl ?_
          refine V_imul dX7_worstAt_60 rfl ?_
          refine V_iload_n dX7_worstAt_61 rfl rfl rfl ?_
          refine V_iadd dX7_worstAt_62 rfl ?_
          refine A_ld0 dX7_worstAt_63 rfl h fun v1 h => ?_
          refine V_aload_n dX7_worstAt_64 rfl rfl rfl ?_
          refine F_getR dX7_worstAt_65 fl_X7_38 ly_82 rfl rfl ?_
          refine V_sipush dX7_worstAt_68 cs_164 rfl ?_
          refine V_iload dX7_worstAt_71 rfl rfl ?_
          refine V_imul dX7_worstAt_73 rfl ?_
          refine V_iload_n dX7_worstAt_74 rfl rfl rfl ?_
          refine V_iadd dX7_worstAt_75 rfl ?_
          refine A_ld0 dX7_worstAt_76 rfl h fun v2 h => ?_
          refine V_midI (q := 85) ((if ¬ v1 = v2 then 0 else 1 : Int32)) [.int l5] (fun yJ hy hJ => ?_) ?_
          · refine V_icmp_ne dX7_worstAt_77 rfl rfl (fun c => ?_) (fun c => ?_)
            · rw [if_pos c] at hy
              refine V_iconst dX7_worstAt_84 ci_0 rfl ?_
              rw [hy] at hJ
              exact hJ
            · rw [if_neg (fun z => z c)] at hy
              refine V_iconst dX7_worstAt_80 ci_1 rfl ?_
              refine V_goto dX7_worstAt_81 rfl ?_
              rw [hy] at hJ
              exact hJ
          · refine V_iadd dX7_worstAt_85 rfl ?_
            refine V_istore dX7_worstAt_86 (by decide) rfl (ls' := [.ref 82, .int l1, .int l2, .int l3, .int l4, .int (l5 + ((if ¬ v1 = v2 then 0 else 1 : Int32))), .int l6]) rfl rfl ?_
            refine V_iinc dX7_worstAt_88 (v := l6 + 1) rfl (by rw [ci_1]) rfl (ls' := [.ref 82, .int l1, .int l2, .int l3, .int l4, .int (l5 + ((if ¬ v1 = v2 then 0 else 1 : Int32))), .int (l6 + 1)]) rfl rfl ?_
            refine V_goto dX7_worstAt_91 rfl ?_
            exact ih (l5 + ((if ¬ v1 = v2 then 0 else 1 : Int32))) (l6 + 1) F h
theorem okX7_worstAt_L5 {N d : Nat} {l1 : Int32} {l2 : Int32} {res : Int32 × FF} : ∀ (n : Nat) (l3 : Int32) (l4 : Int32) (F : FF), fX7_worstAt_L5 N l1 l2 n l3 l4 F = some res → FV cX7_worstAt 7 RX7 (d) (some .int) none 5 [.ref 82, .int l1, .int l2, .int l3, .int l4, .null, .null] [] F (RI res) := by
  intro n
  induction n with
  | zero =>
    intro l3 l4 F h
    rw [fX7_worstAt_L5.eq_1] at h
    cases h
  | succ n ih =>
    intro l3 l4 F h
    rw [fX7_worstAt_L5.eq_2] at h
    refine V_iload dX7_worstAt_5 rfl rfl ?_
    refine V_aload_n dX7_worstAt_7 rfl rfl rfl ?_
    refine F_getI dX7_worstAt_8 fl_X7_13 ly_82 rfl rfl ?_
    refine A_icmp_ge dX7_worstAt_11 rfl rfl h (fun h => ?_) (fun h => ?_)
    · refine V_iload_n dX7_worstAt_113 rfl rfl rfl ?_
      exact A_ireturn dX7_worstAt_114 rfl h
    · refine V_iconst dX7_worstAt_14 ci_0 rfl ?_
      refine V_istore dX7_worstAt_15 (by decide) rfl (ls' := [.ref 82, .int l1, .int l2, .int l3, .int l4, .int 0, .null]) rfl rfl ?_
      refine V_iconst dX7_worstAt_17 ci_0 rfl ?_
      refine V_istore dX7_worstAt_18 (by decide) rfl (ls' := [.ref 82, .int l1, .int l2, .int l3, .int l4, .int 0, .int 0]) rfl rfl ?_
      exact okX7_worstAt_L20 (fun x3 x4 F h => ih x3 x4 F h) _ _ _ _ h
theorem okX7_worstAt {N d : Nat} {l1 : Int32} {l2 : Int32} {F : FF} {res : Int32 × FF} (h : fX7_worstAt N l1 l2 F = some res) : FV cX7_worstAt 7 RX7 (d) (some .int) none 0 [.ref 82, .int l1, .int l2, .null, .null, .null, .null] [] F (RI res) := by
  unfold fX7_worstAt at h
  refine V_iconst dX7_worstAt_0 ci_0 rfl ?_
  refine V_istore_n dX7_worstAt_1 rfl (by decide) rfl (ls' := [.ref 82, .int l1, .int l2, .int 0, .null, .null, .null]) rfl rfl ?_
  refine V_iconst dX7_worstAt_2 ci_0 rfl ?_
  refine V_istore dX7_worstAt_3 (by decide) rfl (ls' := [.ref 82, .int l1, .int l2, .int 0, .int 0, .null, .null]) rfl rfl ?_
  exact okX7_worstAt_L5 _ _ _ _ h
theorem cp_X7_worstAt {N d : Nat} {l1 : Int32} {l2 : Int32} {F F' : FF} {r : Int32} (h : fX7_worstAt N l1 l2 F = some (r, F')) : CP (d) mX7_worstAt [.ref 82, .int l1, .int l2] F (fun r' F'' => r' = eI r ∧ F'' = F') := CP_I rfl (Nat.le_of_ble_eq_true rfl) (okX7_worstAt h)
theorem okX7_ask_L82 {N d : Nat} {k72 : Int32 → Int32 → Int32 → FF → Option (Int32 × FF)} {l2 : Int32} {l3 : Int32} {l6 : Int32} {res : Int32 × FF} (hk72 : ∀ (x4 : Int32) (x5 : Int32) (x6 : Int32) (F : FF), k72 x4 x5 x6 F = some res → FV cX7_ask 9 RX7 (d + 5) (some .int) none 72 [.ref 82, .null, .int l2, .int l3, .int x4, .int x5, .int x6, .null, .null] [] F (RI res)) : ∀ (n : Nat) (l4 : Int32) (l5 : Int32) (l7 : Int32) (F : FF), fX7_ask_L82 N k72 l2 l3 l6 n l4 l5 l7 F = some res → FV cX7_ask 9 RX7 (d + 5) (some .int) none 82 [.ref 82, .null, .int l2, .int l3, .int l4, .int l5, .int l6, .int l7, .null] [] F (RI res) := by
  intro n
  induction n with
  | zero =>
    intro l4 l5 l7 F h
    rw [fX7_ask_L82.eq_1] at h
    cases h
  | succ n ih =>
    intro l4 l5 l7 F h
    rw [fX7_ask_L82.eq_2] at h
    refine V_iload dX7_ask_82 rfl rfl ?_
    refine V_aload_n dX7_ask_84 rfl rfl rfl ?_
    refine F_getR dX7_ask_85 fl_X7_7 ly_82 rfl rfl ?_
    refine V_bipush dX7_ask_88 cb_8 rfl ?_
    refine F_iald dX7_ask_90 ly_83 (j := 8) (by decide) (by decide) (by decide) rfl ?_
    refine A_icmp_ge dX7_ask_91 rfl rfl h (fun h => ?_) (fun h => ?_)
    · refine V_iinc dX7_ask_152 (v := l6 + 1) rfl (by rw [ci_1]) rfl (ls' := [.ref 82, .null, .int l2, .int l3, .int l4, .int l5, .int (l6 + 1), .int l7, .null]) rfl rfl ?_
      refine V_goto dX7_ask_155 rfl ?_
      refine V_weak [true, false, true, true, true, true, true, false, false] rfl ?_
      exact hk72 l4 l5 (l6 + 1) F h
    · refine V_aload_n dX7_ask_94 rfl rfl rfl ?_
      refine V_iload_n dX7_ask_95 rfl rfl rfl ?_
      refine V_iconst dX7_ask_96 ci_4 rfl ?_
      refine V_iload dX7_ask_97 rfl rfl ?_
      refine V_imul dX7_ask_99 rfl ?_
      refine V_iload dX7_ask_100 rfl rfl ?_
      refine V_iadd dX7_ask_102 rfl ?_
      refine A_callC (ci := 7) eI dX7_ask_103 cl_X7_235 (by decide) rfl rfl (As := [.int l3, .int ((4 * l6) + l7)]) (st := []) rfl rfl (Nat.le_of_ble_eq_true rfl) rfl h (fun _ _ h => cp_X7_worstAt (d := d + 4) h) fun v1 F1 h => ?_
      refine V_istore dX7_ask_106 (by decide) rfl (ls' := [.ref 82, .null, .int l2, .int l3, .int l4, .int l5, .int l6, .int l7, .int v1]) rfl rfl ?_
      refine V_iload dX7_ask_108 rfl rfl ?_
      refine V_iload dX7_ask_110 rfl rfl ?_
      refine V_midI (q := 128) ((if l4 ≤ v1 then l5 else ((10 * l6) + l7) : Int32)) [] (fun yJ hy hJ => ?_) ?_
      · refine V_icmp_ge dX7_ask_112 rfl rfl (fun c => ?_) (fun c => ?_)
        · rw [if_pos c] at hy
          refine V_iload dX7_ask_126 rfl rfl ?_
          rw [hy] at hJ
          exact hJ
        · rw [if_neg c] at hy
          refine V_bipush dX7_ask_115 cb_10 rfl ?_
          refine V_iload dX7_ask_117 rfl rfl ?_
          refine V_imul dX7_ask_119 rfl ?_
          refine V_iload dX7_ask_120 rfl rfl ?_
          refine V_iadd dX7_ask_122 rfl ?_
          refine V_goto dX7_ask_123 rfl ?_
          rw [hy] at hJ
          exact hJ
      · refine V_istore dX7_ask_128 (by decide) rfl (ls' := [.ref 82, .null, .int l2, .int l3, .int l4, .int ((if l4 ≤ v1 then l5 else ((10 * l6) + l7) : Int32)), .int l6, .int l7, .int v1]) rfl rfl ?_
        refine V_iload dX7_ask_130 rfl rfl ?_
        refine V_iload dX7_ask_132 rfl rfl ?_
        refine V_midI (q := 144) ((if l4 ≤ v1 then l4 else v1 : Int32)) [] (fun yJ hy hJ => ?_) ?_
        · refine V_icmp_ge dX7_ask_134 rfl rfl (fun c => ?_) (fun c => ?_)
          · rw [if_pos c] at hy
            refine V_iload dX7_ask_142 rfl rfl ?_
            rw [hy] at hJ
            exact hJ
          · rw [if_neg c] at hy
            refine V_iload dX7_ask_137 rfl rfl ?_
            refine V_goto dX7_ask_139 rfl ?_
            rw [hy] at hJ
            exact hJ
        · refine V_istore dX7_ask_144 (by decide) rfl (ls' := [.ref 82, .null, .int l2, .int l3, .int ((if l4 ≤ v1 then l4 else v1 : Int32)), .int ((if l4 ≤ v1 then l5 else ((10 * l6) + l7) : Int32)), .int l6, .int l7, .int v1]) rfl rfl ?_
          refine V_iinc dX7_ask_146 (v := l7 + 1) rfl (by rw [ci_1]) rfl (ls' := [.ref 82, .null, .int l2, .int l3, .int ((if l4 ≤ v1 then l4 else v1 : Int32)), .int ((if l4 ≤ v1 then l5 else ((10 * l6) + l7) : Int32)), .int l6, .int (l7 + 1), .int v1]) rfl rfl ?_
          refine V_goto dX7_ask_149 rfl ?_
          refine V_weak [true, false, true, true, true, true, true, true, false] rfl ?_
          exact ih ((if l4 ≤ v1 then l4 else v1 : Int32)) ((if l4 ≤ v1 then l5 else ((10 * l6) + l7) : Int32)) (l7 + 1) F1 h
theorem okX7_ask_L72 {N d : Nat} {l2 : Int32} {l3 : Int32} {res : Int32 × FF} : ∀ (n : Nat) (l4 : Int32) (l5 : Int32) (l6 : Int32) (F : FF), fX7_ask_L72 N l2 l3 n l4 l5 l6 F = some res → FV cX7_ask 9 RX7 (d + 5) (some .int) none 72 [.ref 82, .null, .int l2, .int l3, .int l4, .int l5, .int l6, .null, .null] [] F (RI res) := by
  intro n
  induction n with
  | zero =>
    intro l4 l5 l6 F h
    rw [fX7_ask_L72.eq_1] at h
    cases h
  | succ n ih =>
    intro l4 l5 l6 F h
    rw [fX7_ask_L72.eq_2] at h
    refine V_iload dX7_ask_72 rfl rfl ?_
    refine V_bipush dX7_ask_74 cb_40 rfl ?_
    refine A_icmp_gt dX7_ask_76 rfl rfl h (fun h => ?_) (fun h => ?_)
    · refine V_iload dX7_ask_158 rfl rfl ?_
      refine V_bipush dX7_ask_160 cb_m4 rfl ?_
      refine V_midI (q := 176) ((if l5 = ((-4)) then l5 else (if ¬ l2 = 0 then l4 else l5) : Int32)) [] (fun yJ hy hJ => ?_) ?_
      · refine V_icmp_eq dX7_ask_162 rfl rfl (fun c => ?_) (fun c => ?_)
        · rw [if_pos c] at hy
          refine V_iload dX7_ask_169 rfl rfl ?_
          refine V_goto dX7_ask_171 rfl ?_
          rw [hy] at hJ
          exact hJ
        · rw [if_neg c] at hy
          refine V_iload_n dX7_ask_165 rfl rfl rfl ?_
          refine V_if_ne dX7_ask_166 rfl rfl (fun c => ?_) (fun c => ?_)
          · rw [if_pos c] at hy
            refine V_iload dX7_ask_174 rfl rfl ?_
            rw [hy] at hJ
            exact hJ
          · rw [if_neg (fun z => z c)] at hy
            refine V_iload dX7_ask_169 rfl rfl ?_
            refine V_goto dX7_ask_171 rfl ?_
            rw [hy] at hJ
            exact hJ
      · exact A_ireturn dX7_ask_176 rfl h
    · refine V_iconst dX7_ask_79 ci_0 rfl ?_
      refine V_istore dX7_ask_80 (by decide) rfl (ls' := [.ref 82, .null, .int l2, .int l3, .int l4, .int l5, .int l6, .int 0, .null]) rfl rfl ?_
      exact okX7_ask_L82 (fun x4 x5 x6 F h => ih x4 x5 x6 F h) _ _ _ _ _ h
theorem okX7_ask_L39 {N d : Nat} {l2 : Int32} {l3 : Int32} {res : Int32 × FF} : ∀ (n : Nat) (l4 : Int32) (l5 : Int32) (F : FF), fX7_ask_L39 N l2 l3 n l4 l5 F = some res → FV cX7_ask 9 RX7 (d + 5) (some .int) none 39 [.ref 82, .null, .int l2, .int l3, .int l4, .int l5, .null, .null, .null] [] F (RI res) := by
  intro n
  induction n with
  | zero =>
    intro l4 l5 F h
    rw [fX7_ask_L39.eq_1] at h
    cases h
  | succ n ih =>
    intro l4 l5 F h
    rw [fX7_ask_L39.eq_2] at h
    refine V_iload dX7_ask_39 rfl rfl ?_
    refine V_aload_n dX7_ask_41 rfl rfl rfl ?_
    refine F_getI dX7_ask_42 fl_X7_13 ly_82 rfl rfl ?_
    refine A_icmp_ge dX7_ask_45 rfl rfl h (fun h => ?_) (fun h => ?_)
    · refine V_bipush dX7_ask_65 cb_m4 rfl ?_
      refine V_istore dX7_ask_67 (by decide) rfl (ls' := [.ref 82, .null, .int l2, .int l3, .int l4, .int ((-4)), .null, .null, .null]) rfl rfl ?_
      refine V_iconst dX7_ask_69 ci_0 rfl ?_
      refine V_istore dX7_ask_70 (by decide) rfl (ls' := [.ref 82, .null, .int l2, .int l3, .int l4, .int ((-4)), .int 0, .null, .null]) rfl rfl ?_
      exact okX7_ask_L72 _ _ _ _ _ h
    · refine V_iload dX7_ask_48 rfl rfl ?_
      refine V_iload_n dX7_ask_50 rfl rfl rfl ?_
      refine V_iload dX7_ask_51 rfl rfl ?_
      refine V_ishr dX7_ask_53 rfl ?_
      refine V_iconst dX7_ask_54 ci_1 rfl ?_
      refine V_iand dX7_ask_55 rfl ?_
      refine V_iadd dX7_ask_56 rfl ?_
      refine V_istore dX7_ask_57 (by decide) rfl (ls' := [.ref 82, .null, .int l2, .int l3, .int (l4 + ((l3 >>> (l5 &&& 31)) &&& 1)), .int l5, .null, .null, .null]) rfl rfl ?_
      refine V_iinc dX7_ask_59 (v := l5 + 1) rfl (by rw [ci_1]) rfl (ls' := [.ref 82, .null, .int l2, .int l3, .int (l4 + ((l3 >>> (l5 &&& 31)) &&& 1)), .int (l5 + 1), .null, .null, .null]) rfl rfl ?_
      refine V_goto dX7_ask_62 rfl ?_
      exact ih (l4 + ((l3 >>> (l5 &&& 31)) &&& 1)) (l5 + 1) F h
theorem okX7_ask {N d : Nat} {l1 : Int32} {l2 : Int32} {F : FF} {res : Int32 × FF} (h : fX7_ask N l1 l2 F = some res) : FV cX7_ask 9 RX7 (d + 5) (some .int) none 0 [.ref 82, .int l1, .int l2, .null, .null, .null, .null, .null, .null] [] F (RI res) := by
  unfold fX7_ask at h
  refine V_aload_n dX7_ask_0 rfl rfl rfl ?_
  refine V_iload_n dX7_ask_1 rfl rfl rfl ?_
  refine A_callC (ci := 7) eI dX7_ask_2 cl_X7_169 (by decide) rfl rfl (As := [.int l1]) (st := []) rfl rfl (Nat.le_of_ble_eq_true rfl) rfl h (fun _ _ h => cp_X7_isWant (d := d + 3) h) fun v1 F1 h => ?_
  refine A_if_eq dX7_ask_5 rfl rfl h (fun h => ?_) (fun h => ?_)
  · refine V_iconst dX7_ask_18 ci_m1 rfl ?_
    exact A_ireturn dX7_ask_19 rfl h
  · refine V_iload_n dX7_ask_8 rfl rfl rfl ?_
    refine V_i2l dX7_ask_9 rfl ?_
    refine V_lconst dX7_ask_10 cl_0 rfl ?_
    refine V_lconst dX7_ask_11 cl_1 rfl ?_
    refine P_callS dX7_ask_12 cl_X7_56 (cq_X7_in (d := d + 4)) (As := [.long l2.toInt64, .long 0, .long 1]) (st := []) rfl rfl (Nat.le_of_ble_eq_true rfl) rfl ?_
    refine A_if_ne dX7_ask_15 rfl rfl h (fun h => ?_) (fun h => ?_)
    · refine V_aload_n dX7_ask_20 rfl rfl rfl ?_
      refine V_bipush dX7_ask_21 cb_9 rfl ?_
      refine V_iload_n dX7_ask_23 rfl rfl rfl ?_
      refine V_iadd dX7_ask_24 rfl ?_
      refine V_aload_n dX7_ask_25 rfl rfl rfl ?_
      refine F_getI dX7_ask_26 fl_X7_13 ly_82 rfl rfl ?_
      refine A_callC (ci := 7) eI dX7_ask_29 cl_X7_232 (by decide) rfl rfl (As := [.int (9 + l1), .int (F1 82 1)]) (st := []) rfl rfl (Nat.le_of_ble_eq_true rfl) rfl h (fun _ _ h => cp_X7_numbersAt (d := d) h) fun v2 F2 h => ?_
      refine V_istore_n dX7_ask_32 rfl (by decide) rfl (ls' := [.ref 82, .int l1, .int l2, .int v2, .null, .null, .null, .null, .null]) rfl rfl ?_
      refine V_iconst dX7_ask_33 ci_0 rfl ?_
      refine V_istore dX7_ask_34 (by decide) rfl (ls' := [.ref 82, .int l1, .int l2, .int v2, .int 0, .null, .null, .null, .null]) rfl rfl ?_
      refine V_iconst dX7_ask_36 ci_0 rfl ?_
      refine V_istore dX7_ask_37 (by decide) rfl (ls' := [.ref 82, .int l1, .int l2, .int v2, .int 0, .int 0, .null, .null, .null]) rfl rfl ?_
      refine V_weak [true, false, true, true, true, true, false, false, false] rfl ?_
      exact okX7_ask_L39 _ _ _ _ h
    · refine V_iconst dX7_ask_18 ci_m1 rfl ?_
      exact A_ireturn dX7_ask_19 rfl h
theorem cp_X7_ask {N d : Nat} {l1 : Int32} {l2 : Int32} {F F' : FF} {r : Int32} (h : fX7_ask N l1 l2 F = some (r, F')) : CP (d + 5) mX7_ask [.ref 82, .int l1, .int l2] F (fun r' F'' => r' = eI r ∧ F'' = F') := CP_I rfl (Nat.le_of_ble_eq_true rfl) (okX7_ask h)
theorem okX7_drift_L55 {N d : Nat} {l2 : Int32} {l3 : Int32} {res : Int32 × FF} : ∀ (n : Nat) (l4 : Int32) (l5 : Int32) (F : FF), fX7_drift_L55 N l2 l3 n l4 l5 F = some res → FV cX7_drift 6 RX7 (d + 2) (some .int) none 55 [.ref 82, .null, .int l2, .int l3, .int l4, .int l5] [] F (RI res) := by
  intro n
  induction n with
  | zero =>
    intro l4 l5 F h
    rw [fX7_drift_L55.eq_1] at h
    cases h
  | succ n ih =>
    intro l4 l5 F h
    rw [fX7_drift_L55.eq_2] at h
    refine V_iload dX7_drift_55 rfl rfl ?_
    refine V_iload_n dX7_drift_57 rfl rfl rfl ?_
    refine A_icmp_ge dX7_drift_58 rfl rfl h (fun h => ?_) (fun h => ?_)
    · refine V_iload_n dX7_drift_100 rfl rfl rfl ?_
      refine A_if_ne dX7_drift_101 rfl rfl h (fun h => ?_) (fun h => ?_)
      · refine V_aload_n dX7_drift_111 rfl rfl rfl ?_
        refine A_callC (ci := 7) eI dX7_drift_112 cl_X7_202 (by decide) rfl rfl (As := []) (st := []) rfl rfl (Nat.le_of_ble_eq_true rfl) rfl h (fun _ _ h => cp_X7_cheapest (d := d + 1) h) fun v1 F1 h => ?_
        exact A_ireturn dX7_drift_115 rfl h
      · refine V_aload_n dX7_drift_104 rfl rfl rfl ?_
        refine A_callC (ci := 7) eI dX7_drift_105 cl_X7_190 (by decide) rfl rfl (As := []) (st := []) rfl rfl (Nat.le_of_ble_eq_true rfl) rfl h (fun _ _ h => cp_X7_paidAll (d := d + 1) h) fun v2 F2 h => ?_
        refine V_goto dX7_drift_108 rfl ?_
        exact A_ireturn dX7_drift_115 rfl h
    · refine V_iload dX7_drift_61 rfl rfl ?_
      refine V_ldc dX7_drift_63 kc_X7_238 rfl ?_
      refine V_imul dX7_drift_65 rfl ?_
      refine V_sipush dX7_drift_66 cs_12345 rfl ?_
      refine V_iadd dX7_drift_69 rfl ?_
      refine V_istore dX7_drift_70 (by decide) rfl (ls' := [.ref 82, .null, .int l2, .int l3, .int ((l4 * 1103515245) + 12345), .int l5]) rfl rfl ?_
      refine V_aload_n dX7_drift_72 rfl rfl rfl ?_
      refine V_sipush dX7_drift_73 cs_300 rfl ?_
      refine V_iload dX7_drift_76 rfl rfl ?_
      refine V_bipush dX7_drift_78 cb_16 rfl ?_
      refine V_ishr dX7_drift_80 rfl ?_
      refine V_sipush dX7_drift_81 cs_32767 rfl ?_
      refine V_iand dX7_drift_84 rfl ?_
      refine V_aload_n dX7_drift_85 rfl rfl rfl ?_
      refine F_getI dX7_drift_86 fl_X7_13 ly_82 rfl rfl ?_
      refine A_dv h fun hy h => ?_
      refine U_irem dX7_drift_89 hy rfl ?_
      refine A_callC (ci := 7) eI dX7_drift_90 cl_X7_159 (by decide) rfl rfl (As := [.int 300, .int (irem ((((l4 * 1103515245) + 12345) >>> (16 &&& 31)) &&& 32767) (F 82 1))]) (st := []) rfl rfl (Nat.le_of_ble_eq_true rfl) rfl h (fun _ _ h => cp_X7_asksOn (d := d) h) fun v3 F3 h => ?_
      refine V_pop dX7_drift_93 rfl rfl ?_
      refine V_iinc dX7_drift_94 (v := l5 + 1) rfl (by rw [ci_1]) rfl (ls' := [.ref 82, .null, .int l2, .int l3, .int ((l4 * 1103515245) + 12345), .int (l5 + 1)]) rfl rfl ?_
      refine V_goto dX7_drift_97 rfl ?_
      exact ih ((l4 * 1103515245) + 12345) (l5 + 1) F3 h
theorem okX7_drift {N d : Nat} {l1 : Int32} {l2 : Int32} {l3 : Int32} {F : FF} {res : Int32 × FF} (h : fX7_drift N l1 l2 l3 F = some res) : FV cX7_drift 6 RX7 (d + 2) (some .int) none 0 [.ref 82, .int l1, .int l2, .int l3, .null, .null] [] F (RI res) := by
  unfold fX7_drift at h
  refine V_iload_n dX7_drift_0 rfl rfl rfl ?_
  refine V_i2l dX7_drift_1 rfl ?_
  refine V_lconst dX7_drift_2 cl_1 rfl ?_
  refine V_ldc2 dX7_drift_3 kc_X7_197 rfl ?_
  refine P_callS dX7_drift_6 cl_X7_56 (cq_X7_in (d := d + 1)) (As := [.long l2.toInt64, .long 1, .long 200]) (st := []) rfl rfl (Nat.le_of_ble_eq_true rfl) rfl ?_
  refine A_if_eq dX7_drift_9 rfl rfl h (fun h => ?_) (fun h => ?_)
  · refine V_iconst dX7_drift_22 ci_m1 rfl ?_
    exact A_ireturn dX7_drift_23 rfl h
  · refine V_iload_n dX7_drift_12 rfl rfl rfl ?_
    refine V_i2l dX7_drift_13 rfl ?_
    refine V_lconst dX7_drift_14 cl_0 rfl ?_
    refine V_lconst dX7_drift_15 cl_1 rfl ?_
    refine P_callS dX7_drift_16 cl_X7_56 (cq_X7_in (d := d + 1)) (As := [.long l3.toInt64, .long 0, .long 1]) (st := []) rfl rfl (Nat.le_of_ble_eq_true rfl) rfl ?_
    refine A_if_ne dX7_drift_19 rfl rfl h (fun h => ?_) (fun h => ?_)
    · refine V_aload_n dX7_drift_24 rfl rfl rfl ?_
      refine F_getR dX7_drift_25 fl_X7_7 ly_82 rfl rfl ?_
      refine V_bipush dX7_drift_28 cb_8 rfl ?_
      refine F_iald dX7_drift_30 ly_83 (j := 8) (by decide) (by decide) (by decide) rfl ?_
      refine A_if_ne dX7_drift_31 rfl rfl h (fun h => ?_) (fun h => ?_)
      · refine V_aload_n dX7_drift_37 rfl rfl rfl ?_
        refine V_iconst dX7_drift_38 ci_0 rfl ?_
        refine V_sipush dX7_drift_39 cs_300 rfl ?_
        refine A_callC (ci := 7) eU dX7_drift_42 cl_X7_193 (by decide) rfl rfl (As := [.int 0, .int 300]) (st := []) rfl rfl (Nat.le_of_ble_eq_true rfl) rfl h (fun _ _ h => cp_X7_copies (d := d + 1) h) fun _ F1 h => ?_
        refine V_aload_n dX7_drift_45 rfl rfl rfl ?_
        refine A_callC (ci := 7) eU dX7_drift_46 cl_X7_183 (by decide) rfl rfl (As := []) (st := []) rfl rfl (Nat.le_of_ble_eq_true rfl) rfl h (fun _ _ h => cp_X7_starts (d := d + 1) h) fun _ F2 h => ?_
        refine V_iload_n dX7_drift_49 rfl rfl rfl ?_
        refine V_istore dX7_drift_50 (by decide) rfl (ls' := [.ref 82, .int l1, .int l2, .int l3, .int l1, .null]) rfl rfl ?_
        refine V_iconst dX7_drift_52 ci_0 rfl ?_
        refine V_istore dX7_drift_53 (by decide) rfl (ls' := [.ref 82, .int l1, .int l2, .int l3, .int l1, .int 0]) rfl rfl ?_
        refine V_weak [true, false, true, true, true, true] rfl ?_
        exact okX7_drift_L55 _ _ _ _ h
      · refine V_bipush dX7_drift_34 cb_m2 rfl ?_
        exact A_ireturn dX7_drift_36 rfl h
    · refine V_iconst dX7_drift_22 ci_m1 rfl ?_
      exact A_ireturn dX7_drift_23 rfl h
theorem cp_X7_drift {N d : Nat} {l1 : Int32} {l2 : Int32} {l3 : Int32} {F F' : FF} {r : Int32} (h : fX7_drift N l1 l2 l3 F = some (r, F')) : CP (d + 2) mX7_drift [.ref 82, .int l1, .int l2, .int l3] F (fun r' F'' => r' = eI r ∧ F'' = F') := CP_I rfl (Nat.le_of_ble_eq_true rfl) (okX7_drift h)
theorem okX7_keep {N d : Nat} {l1 : Int32} {F : FF} {res : Int32 × FF} (h : fX7_keep N l1 F = some res) : FV cX7_keep 3 RX7 (d + 1) (some .int) none 0 [.ref 82, .int l1, .null] [] F (RI res) := by
  unfold fX7_keep at h
  refine V_iload_n dX7_keep_0 rfl rfl rfl ?_
  refine V_i2l dX7_keep_1 rfl ?_
  refine V_lconst dX7_keep_2 cl_0 rfl ?_
  refine V_lconst dX7_keep_3 cl_1 rfl ?_
  refine P_callS dX7_keep_4 cl_X7_56 (cq_X7_in (d := d)) (As := [.long l1.toInt64, .long 0, .long 1]) (st := []) rfl rfl (Nat.le_of_ble_eq_true rfl) rfl ?_
  refine A_if_ne dX7_keep_7 rfl rfl h (fun h => ?_) (fun h => ?_)
  · refine V_aload_n dX7_keep_12 rfl rfl rfl ?_
    refine V_iconst dX7_keep_13 ci_0 rfl ?_
    refine V_bipush dX7_keep_14 cb_75 rfl ?_
    refine V_iload_n dX7_keep_16 rfl rfl rfl ?_
    refine V_iconst dX7_keep_17 ci_1 rfl ?_
    refine V_iadd dX7_keep_18 rfl ?_
    refine V_imul dX7_keep_19 rfl ?_
    refine A_callC (ci := 7) eU dX7_keep_20 cl_X7_193 (by decide) rfl rfl (As := [.int 0, .int (75 * (l1 + 1))]) (st := []) rfl rfl (Nat.le_of_ble_eq_true rfl) rfl h (fun _ _ h => cp_X7_copies (d := d) h) fun _ F1 h => ?_
    refine V_aload_n dX7_keep_23 rfl rfl rfl ?_
    refine F_getR dX7_keep_24 fl_X7_41 ly_82 rfl rfl ?_
    refine V_iload_n dX7_keep_27 rfl rfl rfl ?_
    refine A_ld2 dX7_keep_28 rfl h fun v1 h => ?_
    refine V_midI (q := 37) ((if v1 = 0 then 0 else 1 : Int32)) [] (fun yJ hy hJ => ?_) ?_
    · refine V_if_eq dX7_keep_29 rfl rfl (fun c => ?_) (fun c => ?_)
      · rw [if_pos c] at hy
        refine V_iconst dX7_keep_36 ci_0 rfl ?_
        rw [hy] at hJ
        exact hJ
      · rw [if_neg c] at hy
        refine V_iconst dX7_keep_32 ci_1 rfl ?_
        refine V_goto dX7_keep_33 rfl ?_
        rw [hy] at hJ
        exact hJ
    · refine V_istore_n dX7_keep_37 rfl (by decide) rfl (ls' := [.ref 82, .int l1, .int ((if v1 = 0 then 0 else 1 : Int32))]) rfl rfl ?_
      refine V_aload_n dX7_keep_38 rfl rfl rfl ?_
      refine F_getR dX7_keep_39 fl_X7_41 ly_82 rfl rfl ?_
      refine V_iload_n dX7_keep_42 rfl rfl rfl ?_
      refine V_iconst dX7_keep_43 ci_1 rfl ?_
      refine A_st2 dX7_keep_44 rfl h fun F2 h => ?_
      refine V_iload_n dX7_keep_45 rfl rfl rfl ?_
      exact A_ireturn dX7_keep_46 rfl h
  · refine V_iconst dX7_keep_10 ci_m1 rfl ?_
    exact A_ireturn dX7_keep_11 rfl h
theorem cp_X7_keep {N d : Nat} {l1 : Int32} {F F' : FF} {r : Int32} (h : fX7_keep N l1 F = some (r, F')) : CP (d + 1) mX7_keep [.ref 82, .int l1] F (fun r' F'' => r' = eI r ∧ F'' = F') := CP_I rfl (Nat.le_of_ble_eq_true rfl) (okX7_keep h)
theorem okX7_back {N d : Nat} {l1 : Int32} {F : FF} {res : Int32 × FF} (h : fX7_back N l1 F = some res) : FV cX7_back 2 RX7 (d + 1) (some .int) none 0 [.ref 82, .int l1] [] F (RI res) := by
  unfold fX7_back at h
  refine V_iload_n dX7_back_0 rfl rfl rfl ?_
  refine V_i2l dX7_back_1 rfl ?_
  refine V_lconst dX7_back_2 cl_0 rfl ?_
  refine V_lconst dX7_back_3 cl_1 rfl ?_
  refine P_callS dX7_back_4 cl_X7_56 (cq_X7_in (d := d)) (As := [.long l1.toInt64, .long 0, .long 1]) (st := []) rfl rfl (Nat.le_of_ble_eq_true rfl) rfl ?_
  refine A_if_ne dX7_back_7 rfl rfl h (fun h => ?_) (fun h => ?_)
  · refine V_aload_n dX7_back_12 rfl rfl rfl ?_
    refine F_getR dX7_back_13 fl_X7_41 ly_82 rfl rfl ?_
    refine V_iload_n dX7_back_16 rfl rfl rfl ?_
    refine A_ld2 dX7_back_17 rfl h fun v1 h => ?_
    refine A_if_ne dX7_back_18 rfl rfl h (fun h => ?_) (fun h => ?_)
    · refine V_aload_n dX7_back_24 rfl rfl rfl ?_
      refine V_bipush dX7_back_25 cb_75 rfl ?_
      refine V_iload_n dX7_back_27 rfl rfl rfl ?_
      refine V_iconst dX7_back_28 ci_1 rfl ?_
      refine V_iadd dX7_back_29 rfl ?_
      refine V_imul dX7_back_30 rfl ?_
      refine V_iconst dX7_back_31 ci_0 rfl ?_
      refine A_callC (ci := 7) eU dX7_back_32 cl_X7_193 (by decide) rfl rfl (As := [.int (75 * (l1 + 1)), .int 0]) (st := []) rfl rfl (Nat.le_of_ble_eq_true rfl) rfl h (fun _ _ h => cp_X7_copies (d := d) h) fun _ F1 h => ?_
      refine V_aload_n dX7_back_35 rfl rfl rfl ?_
      refine F_getR dX7_back_36 fl_X7_7 ly_82 rfl rfl ?_
      refine V_bipush dX7_back_39 cb_26 rfl ?_
      refine F_iald dX7_back_41 ly_83 (j := 26) (by decide) (by decide) (by decide) rfl ?_
      exact A_ireturn dX7_back_42 rfl h
    · refine V_bipush dX7_back_21 cb_m2 rfl ?_
      exact A_ireturn dX7_back_23 rfl h
  · refine V_iconst dX7_back_10 ci_m1 rfl ?_
    exact A_ireturn dX7_back_11 rfl h
theorem cp_X7_back {N d : Nat} {l1 : Int32} {F F' : FF} {r : Int32} (h : fX7_back N l1 F = some (r, F')) : CP (d + 1) mX7_back [.ref 82, .int l1] F (fun r' F'' => r' = eI r ∧ F'' = F') := CP_I rfl (Nat.le_of_ble_eq_true rfl) (okX7_back h)
theorem okX7_sheet_L56 {N d : Nat} {l1 : Int32} {res : Int32 × FF} : ∀ (n : Nat) (l4 : Int32) (F : FF), fX7_sheet_L56 N l1 n l4 F = some res → FV cX7_sheet 5 RX7 (d + 1) (some .int) none 56 [.ref 82, .int l1, .null, .null, .int l4] [] F (RI res) := by
  intro n
  induction n with
  | zero =>
    intro l4 F h
    rw [fX7_sheet_L56.eq_1] at h
    cases h
  | succ n ih =>
    intro l4 F h
    rw [fX7_sheet_L56.eq_2] at h
    refine V_iload dX7_sheet_56 rfl rfl ?_
    refine V_bipush dX7_sheet_58 cb_40 rfl ?_
    refine A_icmp_ge dX7_sheet_60 rfl rfl h (fun h => ?_) (fun h => ?_)
    · refine V_iconst dX7_sheet_82 ci_1 rfl ?_
      exact A_ireturn dX7_sheet_83 rfl h
    · refine V_aload_n dX7_sheet_63 rfl rfl rfl ?_
      refine F_getR dX7_sheet_64 fl_X7_51 ly_82 rfl rfl ?_
      refine V_bipush dX7_sheet_67 cb_40 rfl ?_
      refine V_iload_n dX7_sheet_69 rfl rfl rfl ?_
      refine V_imul dX7_sheet_70 rfl ?_
      refine V_iload dX7_sheet_71 rfl rfl ?_
      refine V_iadd dX7_sheet_73 rfl ?_
      refine V_iconst dX7_sheet_74 ci_0 rfl ?_
      refine A_st0 dX7_sheet_75 rfl h fun F1 h => ?_
      refine V_iinc dX7_sheet_76 (v := l4 + 1) rfl (by rw [ci_1]) rfl (ls' := [.ref 82, .int l1, .null, .null, .int (l4 + 1)]) rfl rfl ?_
      refine V_goto dX7_sheet_79 rfl ?_
      exact ih (l4 + 1) F1 h
theorem okX7_sheet {N d : Nat} {l1 : Int32} {l2 : Int32} {l3 : Int32} {F : FF} {res : Int32 × FF} (h : fX7_sheet N l1 l2 l3 F = some res) : FV cX7_sheet 5 RX7 (d + 1) (some .int) none 0 [.ref 82, .int l1, .int l2, .int l3, .null] [] F (RI res) := by
  unfold fX7_sheet at h
  refine V_iload_n dX7_sheet_0 rfl rfl rfl ?_
  refine V_i2l dX7_sheet_1 rfl ?_
  refine V_lconst dX7_sheet_2 cl_0 rfl ?_
  refine V_ldc2 dX7_sheet_3 kc_X7_172 rfl ?_
  refine P_callS dX7_sheet_6 cl_X7_56 (cq_X7_in (d := d)) (As := [.long l1.toInt64, .long 0, .long 3]) (st := []) rfl rfl (Nat.le_of_ble_eq_true rfl) rfl ?_
  refine A_if_eq dX7_sheet_9 rfl rfl h (fun h => ?_) (fun h => ?_)
  · refine V_iconst dX7_sheet_30 ci_m1 rfl ?_
    exact A_ireturn dX7_sheet_31 rfl h
  · refine V_iload_n dX7_sheet_12 rfl rfl rfl ?_
    refine V_i2l dX7_sheet_13 rfl ?_
    refine V_lconst dX7_sheet_14 cl_0 rfl ?_
    refine V_ldc2 dX7_sheet_15 kc_X7_239 rfl ?_
    refine P_callS dX7_sheet_18 cl_X7_56 (cq_X7_in (d := d)) (As := [.long l2.toInt64, .long 0, .long 2]) (st := []) rfl rfl (Nat.le_of_ble_eq_true rfl) rfl ?_
    refine A_if_eq dX7_sheet_21 rfl rfl h (fun h => ?_) (fun h => ?_)
    · refine V_iconst dX7_sheet_30 ci_m1 rfl ?_
      exact A_ireturn dX7_sheet_31 rfl h
    · refine V_iload_n dX7_sheet_24 rfl rfl rfl ?_
      refine V_bipush dX7_sheet_25 cb_40 rfl ?_
      refine A_icmp_le dX7_sheet_27 rfl rfl h (fun h => ?_) (fun h => ?_)
      · refine V_iload_n dX7_sheet_32 rfl rfl rfl ?_
        refine A_if_ge dX7_sheet_33 rfl rfl h (fun h => ?_) (fun h => ?_)
        · refine V_aload_n dX7_sheet_39 rfl rfl rfl ?_
          refine F_getR dX7_sheet_40 fl_X7_45 ly_82 rfl rfl ?_
          refine V_iload_n dX7_sheet_43 rfl rfl rfl ?_
          refine V_iload_n dX7_sheet_44 rfl rfl rfl ?_
          refine A_st0 dX7_sheet_45 rfl h fun F1 h => ?_
          refine V_aload_n dX7_sheet_46 rfl rfl rfl ?_
          refine F_getR dX7_sheet_47 fl_X7_48 ly_82 rfl rfl ?_
          refine V_iload_n dX7_sheet_50 rfl rfl rfl ?_
          refine V_iload_n dX7_sheet_51 rfl rfl rfl ?_
          refine A_st0 dX7_sheet_52 rfl h fun F2 h => ?_
          refine V_iconst dX7_sheet_53 ci_0 rfl ?_
          refine V_istore dX7_sheet_54 (by decide) rfl (ls' := [.ref 82, .int l1, .int l2, .int l3, .int 0]) rfl rfl ?_
          refine V_weak [true, true, false, false, true] rfl ?_
          exact okX7_sheet_L56 _ _ _ h
        · refine V_bipush dX7_sheet_36 cb_m14 rfl ?_
          exact A_ireturn dX7_sheet_38 rfl h
      · refine V_iconst dX7_sheet_30 ci_m1 rfl ?_
        exact A_ireturn dX7_sheet_31 rfl h
theorem cp_X7_sheet {N d : Nat} {l1 : Int32} {l2 : Int32} {l3 : Int32} {F F' : FF} {r : Int32} (h : fX7_sheet N l1 l2 l3 F = some (r, F')) : CP (d + 1) mX7_sheet [.ref 82, .int l1, .int l2, .int l3] F (fun r' F'' => r' = eI r ∧ F'' = F') := CP_I rfl (Nat.le_of_ble_eq_true rfl) (okX7_sheet h)
theorem okX7_lay_b99 {N d : Nat} {s1 : Int32} {s2 : Int32} {F : FF} {res : Int32 × FF} (h : fX7_lay_b99 N s1 s2 F = some res) : FV cX7_lay 4 RX7 (d + 1) (some .int) none 99 [.null, .null, .null, .null] [.int s2, .int s1, .ref 94] F (RI res) := by
  unfold fX7_lay_b99 at h
  refine A_st0 dX7_lay_99 rfl h fun F1 h => ?_
  refine V_iconst dX7_lay_100 ci_1 rfl ?_
  exact A_ireturn dX7_lay_101 rfl h
theorem okX7_lay {N d : Nat} {l1 : Int32} {l2 : Int32} {l3 : Int32} {F : FF} {res : Int32 × FF} (h : fX7_lay N l1 l2 l3 F = some res) : FV cX7_lay 4 RX7 (d + 1) (some .int) none 0 [.ref 82, .int l1, .int l2, .int l3] [] F (RI res) := by
  unfold fX7_lay at h
  refine V_iload_n dX7_lay_0 rfl rfl rfl ?_
  refine V_i2l dX7_lay_1 rfl ?_
  refine V_lconst dX7_lay_2 cl_0 rfl ?_
  refine V_ldc2 dX7_lay_3 kc_X7_172 rfl ?_
  refine P_callS dX7_lay_6 cl_X7_56 (cq_X7_in (d := d)) (As := [.long l1.toInt64, .long 0, .long 3]) (st := []) rfl rfl (Nat.le_of_ble_eq_true rfl) rfl ?_
  refine A_if_ne dX7_lay_9 rfl rfl h (fun h => ?_) (fun h => ?_)
  · refine V_aload_n dX7_lay_14 rfl rfl rfl ?_
    refine F_getR dX7_lay_15 fl_X7_45 ly_82 rfl rfl ?_
    refine V_iload_n dX7_lay_18 rfl rfl rfl ?_
    refine A_ld0 dX7_lay_19 rfl h fun v1 h => ?_
    refine V_bipush dX7_lay_20 cb_m4 rfl ?_
    refine A_icmp_ne dX7_lay_22 rfl rfl h (fun h => ?_) (fun h => ?_)
    · refine V_iload_n dX7_lay_28 rfl rfl rfl ?_
      refine V_i2l dX7_lay_29 rfl ?_
      refine V_lconst dX7_lay_30 cl_0 rfl ?_
      refine V_aload_n dX7_lay_31 rfl rfl rfl ?_
      refine F_getR dX7_lay_32 fl_X7_48 ly_82 rfl rfl ?_
      refine V_iload_n dX7_lay_35 rfl rfl rfl ?_
      refine A_ld0 dX7_lay_36 rfl h fun v2 h => ?_
      refine V_iconst dX7_lay_37 ci_1 rfl ?_
      refine V_isub dX7_lay_38 rfl ?_
      refine V_i2l dX7_lay_39 rfl ?_
      refine P_callS dX7_lay_40 cl_X7_56 (cq_X7_in (d := d)) (As := [.long l2.toInt64, .long 0, .long ((v2 - 1).toInt64)]) (st := []) rfl rfl (Nat.le_of_ble_eq_true rfl) rfl ?_
      refine A_if_ne dX7_lay_43 rfl rfl h (fun h => ?_) (fun h => ?_)
      · refine V_aload_n dX7_lay_49 rfl rfl rfl ?_
        refine F_getR dX7_lay_50 fl_X7_51 ly_82 rfl rfl ?_
        refine V_bipush dX7_lay_53 cb_40 rfl ?_
        refine V_iload_n dX7_lay_55 rfl rfl rfl ?_
        refine V_imul dX7_lay_56 rfl ?_
        refine V_iload_n dX7_lay_57 rfl rfl rfl ?_
        refine V_iadd dX7_lay_58 rfl ?_
        refine V_aload_n dX7_lay_59 rfl rfl rfl ?_
        refine F_getR dX7_lay_60 fl_X7_45 ly_82 rfl rfl ?_
        refine V_iload_n dX7_lay_63 rfl rfl rfl ?_
        refine A_ld0 dX7_lay_64 rfl h fun v3 h => ?_
        refine A_if_ne dX7_lay_65 rfl rfl h (fun h => ?_) (fun h => ?_)
        · refine V_aload_n dX7_lay_78 rfl rfl rfl ?_
          refine F_getR dX7_lay_79 fl_X7_45 ly_82 rfl rfl ?_
          refine V_iload_n dX7_lay_82 rfl rfl rfl ?_
          refine A_ld0 dX7_lay_83 rfl h fun v4 h => ?_
          refine V_iconst dX7_lay_84 ci_1 rfl ?_
          refine V_midI (q := 99) ((if ¬ v4 = 1 then l3 else ((l3 <<< (16 &&& 31)) >>> (16 &&& 31)) : Int32)) [.int ((40 * l1) + l2), .ref 94] (fun yJ hy hJ => ?_) ?_
          · refine V_icmp_ne dX7_lay_85 rfl rfl (fun c => ?_) (fun c => ?_)
            · rw [if_pos c] at hy
              refine V_iload_n dX7_lay_98 rfl rfl rfl ?_
              rw [hy] at hJ
              exact hJ
            · rw [if_neg (fun z => z c)] at hy
              refine V_iload_n dX7_lay_88 rfl rfl rfl ?_
              refine V_bipush dX7_lay_89 cb_16 rfl ?_
              refine V_ishl dX7_lay_91 rfl ?_
              refine V_bipush dX7_lay_92 cb_16 rfl ?_
              refine V_ishr dX7_lay_94 rfl ?_
              refine V_goto dX7_lay_95 rfl ?_
              rw [hy] at hJ
              exact hJ
          · refine A_st0 dX7_lay_99 rfl h fun F1 h => ?_
            refine V_iconst dX7_lay_100 ci_1 rfl ?_
            exact A_ireturn dX7_lay_101 rfl h
        · refine V_iload_n dX7_lay_68 rfl rfl rfl ?_
          refine V_bipush dX7_lay_69 cb_24 rfl ?_
          refine V_ishl dX7_lay_71 rfl ?_
          refine V_bipush dX7_lay_72 cb_24 rfl ?_
          refine V_ishr dX7_lay_74 rfl ?_
          refine V_goto dX7_lay_75 rfl ?_
          refine V_weak [false, false, false, false] rfl ?_
          exact okX7_lay_b99 h
      · refine V_bipush dX7_lay_46 cb_m12 rfl ?_
        exact A_ireturn dX7_lay_48 rfl h
    · refine V_bipush dX7_lay_25 cb_m11 rfl ?_
      exact A_ireturn dX7_lay_27 rfl h
  · refine V_iconst dX7_lay_12 ci_m1 rfl ?_
    exact A_ireturn dX7_lay_13 rfl h
theorem cp_X7_lay {N d : Nat} {l1 : Int32} {l2 : Int32} {l3 : Int32} {F F' : FF} {r : Int32} (h : fX7_lay N l1 l2 l3 F = some (r, F')) : CP (d + 1) mX7_lay [.ref 82, .int l1, .int l2, .int l3] F (fun r' F'' => r' = eI r ∧ F'' = F') := CP_I rfl (Nat.le_of_ble_eq_true rfl) (okX7_lay h)
theorem okX7_read_b173 {N d : Nat} {k56 : Int32 → Int32 → Int32 → FF → Option (Int32 × FF)} {l1 : Int32} {l2 : Int32} {l3 : Int32} {l4 : Int32} {l5 : Int32} {l6 : Int32} {l7 : Int32} {F : FF} {res : Int32 × FF} (hk56 : ∀ (x5 : Int32) (x6 : Int32) (x7 : Int32) (F : FF), k56 x5 x6 x7 F = some res → FV cX7_read 9 RX7 (d + 3) (some .int) none 56 [.ref 82, .int l1, .int l2, .int l3, .int l4, .int x5, .int x6, .int x7, .null] [] F (RI res)) (h : fX7_read_b173 N k56 l1 l2 l3 l4 l5 l6 l7 F = some res) : FV cX7_read 9 RX7 (d + 3) (some .int) none 173 [.ref 82, .int l1, .int l2, .int l3, .int l4, .int l5, .int l6, .int l7, .null] [] F (RI res) := by
  unfold fX7_read_b173 at h
  refine V_iinc dX7_read_173 (v := l7 + 1) rfl (by rw [ci_1]) rfl (ls' := [.ref 82, .int l1, .int l2, .int l3, .int l4, .int l5, .int l6, .int (l7 + 1), .null]) rfl rfl ?_
  refine V_goto dX7_read_176 rfl ?_
  exact hk56 l5 l6 (l7 + 1) F h
theorem okX7_read_b124 {N d : Nat} {k56 : Int32 → Int32 → Int32 → FF → Option (Int32 × FF)} {l1 : Int32} {l2 : Int32} {l3 : Int32} {l4 : Int32} {l6 : Int32} {l7 : Int32} {s0 : Int32} {F : FF} {res : Int32 × FF} (hk56 : ∀ (x5 : Int32) (x6 : Int32) (x7 : Int32) (F : FF), k56 x5 x6 x7 F = some res → FV cX7_read 9 RX7 (d + 3) (some .int) none 56 [.ref 82, .int l1, .int l2, .int l3, .int l4, .int x5, .int x6, .int x7, .null] [] F (RI res)) (h : fX7_read_b124 N k56 l1 l2 l3 l4 l6 l7 s0 F = some res) : FV cX7_read 9 RX7 (d + 3) (some .int) none 124 [.ref 82, .int l1, .int l2, .int l3, .int l4, .null, .int l6, .int l7, .null] [.int s0] F (RI res) := by
  unfold fX7_read_b124 at h
  refine V_istore dX7_read_124 (by decide) rfl (ls' := [.ref 82, .int l1, .int l2, .int l3, .int l4, .int s0, .int l6, .int l7, .null]) rfl rfl ?_
  refine V_iload dX7_read_126 rfl rfl ?_
  refine A_if_ne dX7_read_128 rfl rfl h (fun h => ?_) (fun h => ?_)
  · exact okX7_read_b173 hk56 h
  · refine V_bipush dX7_read_131 cb_40 rfl ?_
    refine V_iload_n dX7_read_133 rfl rfl rfl ?_
    refine V_imul dX7_read_134 rfl ?_
    refine V_iload_n dX7_read_135 rfl rfl rfl ?_
    refine V_iadd dX7_read_136 rfl ?_
    refine V_iload dX7_read_137 rfl rfl ?_
    refine V_iadd dX7_read_139 rfl ?_
    refine V_istore dX7_read_140 (by decide) rfl (ls' := [.ref 82, .int l1, .int l2, .int l3, .int l4, .int s0, .int l6, .int l7, .int (((40 * l1) + l3) + l7)]) rfl rfl ?_
    refine V_aload_n dX7_read_142 rfl rfl rfl ?_
    refine V_aload_n dX7_read_143 rfl rfl rfl ?_
    refine F_getR dX7_read_144 fl_X7_51 ly_82 rfl rfl ?_
    refine V_iload dX7_read_147 rfl rfl ?_
    refine A_ld0 dX7_read_149 rfl h fun v1 h => ?_
    refine A_callC (ci := 7) eI dX7_read_150 cl_X7_178 (by decide) rfl rfl (As := [.int v1]) (st := []) rfl rfl (Nat.le_of_ble_eq_true rfl) rfl h (fun _ _ h => cp_X7_adds (d := d) h) fun v2 F1 h => ?_
    refine A_if_ge dX7_read_153 rfl rfl h (fun h => ?_) (fun h => ?_)
    · refine V_iinc dX7_read_170 (v := l6 + 1) rfl (by rw [ci_1]) rfl (ls' := [.ref 82, .int l1, .int l2, .int l3, .int l4, .int s0, .int (l6 + 1), .int l7, .int (((40 * l1) + l3) + l7)]) rfl rfl ?_
      refine V_weak [true, true, true, true, true, true, true, true, false] rfl ?_
      exact okX7_read_b173 hk56 h
    · refine V_aload_n dX7_read_156 rfl rfl rfl ?_
      refine V_sipush dX7_read_157 cs_225 rfl ?_
      refine V_iconst dX7_read_160 ci_0 rfl ?_
      refine A_callC (ci := 7) eU dX7_read_161 cl_X7_193 (by decide) rfl rfl (As := [.int 225, .int 0]) (st := []) rfl rfl (Nat.le_of_ble_eq_true rfl) rfl h (fun _ _ h => cp_X7_copies (d := d + 2) h) fun _ F2 h => ?_
      refine V_bipush dX7_read_164 cb_m20 rfl ?_
      refine V_iload dX7_read_166 rfl rfl ?_
      refine V_isub dX7_read_168 rfl ?_
      exact A_ireturn dX7_read_169 rfl h
theorem okX7_read_L56 {N d : Nat} {l1 : Int32} {l2 : Int32} {l3 : Int32} {l4 : Int32} {res : Int32 × FF} : ∀ (n : Nat) (l5 : Int32) (l6 : Int32) (l7 : Int32) (F : FF), fX7_read_L56 N l1 l2 l3 l4 n l5 l6 l7 F = some res → FV cX7_read 9 RX7 (d + 3) (some .int) none 56 [.ref 82, .int l1, .int l2, .int l3, .int l4, .int l5, .int l6, .int l7, .null] [] F (RI res) := by
  intro n
  induction n with
  | zero =>
    intro l5 l6 l7 F h
    rw [fX7_read_L56.eq_1] at h
    cases h
  | succ n ih =>
    intro l5 l6 l7 F h
    rw [fX7_read_L56.eq_2] at h
    refine V_iload dX7_read_56 rfl rfl ?_
    refine V_iload dX7_read_58 rfl rfl ?_
    refine A_icmp_ge dX7_read_60 rfl rfl h (fun h => ?_) (fun h => ?_)
    · refine V_aload_n dX7_read_179 rfl rfl rfl ?_
      refine V_iload dX7_read_180 rfl rfl ?_
      refine A_pn dX7_read_182 fl_X7_241 rfl (Or.inl rfl) ly_82 rfl rfl h fun F1 h => ?_
      refine V_iload dX7_read_185 rfl rfl ?_
      exact A_ireturn dX7_read_187 rfl h
    · refine V_iload dX7_read_63 rfl rfl ?_
      refine A_if_ne dX7_read_65 rfl rfl h (fun h => ?_) (fun h => ?_)
      · refine V_aload_n dX7_read_179 rfl rfl rfl ?_
        refine V_iload dX7_read_180 rfl rfl ?_
        refine A_pn dX7_read_182 fl_X7_241 rfl (Or.inl rfl) ly_82 rfl rfl h fun F2 h => ?_
        refine V_iload dX7_read_185 rfl rfl ?_
        exact A_ireturn dX7_read_187 rfl h
      · refine V_aload_n dX7_read_68 rfl rfl rfl ?_
        refine F_getR dX7_read_69 fl_X7_45 ly_82 rfl rfl ?_
        refine V_iload_n dX7_read_72 rfl rfl rfl ?_
        refine A_ld0 dX7_read_73 rfl h fun v1 h => ?_
        refine V_bipush dX7_read_74 cb_m4 rfl ?_
        refine A_icmp_ne dX7_read_76 rfl rfl h (fun h => ?_) (fun h => ?_)
        · refine V_aload_n dX7_read_83 rfl rfl rfl ?_
          refine F_getR dX7_read_84 fl_X7_45 ly_82 rfl rfl ?_
          refine V_iload_n dX7_read_87 rfl rfl rfl ?_
          refine A_ld0 dX7_read_88 rfl h fun v2 h => ?_
          refine V_iload_n dX7_read_89 rfl rfl rfl ?_
          refine A_icmp_eq dX7_read_90 rfl rfl h (fun h => ?_) (fun h => ?_)
          · refine V_iload_n dX7_read_97 rfl rfl rfl ?_
            refine V_i2l dX7_read_98 rfl ?_
            refine V_iload dX7_read_99 rfl rfl ?_
            refine V_i2l dX7_read_101 rfl ?_
            refine V_ladd dX7_read_102 rfl ?_
            refine V_lconst dX7_read_103 cl_0 rfl ?_
            refine V_aload_n dX7_read_104 rfl rfl rfl ?_
            refine F_getR dX7_read_105 fl_X7_48 ly_82 rfl rfl ?_
            refine V_iload_n dX7_read_108 rfl rfl rfl ?_
            refine A_ld0 dX7_read_109 rfl h fun v3 h => ?_
            refine V_iconst dX7_read_110 ci_1 rfl ?_
            refine V_isub dX7_read_111 rfl ?_
            refine V_i2l dX7_read_112 rfl ?_
            refine P_callS dX7_read_113 cl_X7_56 (cq_X7_in (d := d + 2)) (As := [.long (l3.toInt64 + l7.toInt64), .long 0, .long ((v3 - 1).toInt64)]) (st := []) rfl rfl (Nat.le_of_ble_eq_true rfl) rfl ?_
            refine V_midI (q := 124) ((if ¬ (pX7_in (l3.toInt64 + l7.toInt64) 0 ((v3 - 1).toInt64) F) = 0 then 0 else 2 : Int32)) [] (fun yJ hy hJ => ?_) ?_
            · refine V_if_ne dX7_read_116 rfl rfl (fun c => ?_) (fun c => ?_)
              · rw [if_pos c] at hy
                refine V_iconst dX7_read_123 ci_0 rfl ?_
                rw [hy] at hJ
                exact hJ
              · rw [if_neg (fun z => z c)] at hy
                refine V_iconst dX7_read_119 ci_2 rfl ?_
                refine V_goto dX7_read_120 rfl ?_
                rw [hy] at hJ
                exact hJ
            · refine V_istore dX7_read_124 (by decide) rfl (ls' := [.ref 82, .int l1, .int l2, .int l3, .int l4, .int ((if ¬ (pX7_in (l3.toInt64 + l7.toInt64) 0 ((v3 - 1).toInt64) F) = 0 then 0 else 2 : Int32)), .int l6, .int l7, .null]) rfl rfl ?_
              refine V_iload dX7_read_126 rfl rfl ?_
              refine A_if_ne dX7_read_128 rfl rfl h (fun h => ?_) (fun h => ?_)
              · exact okX7_read_b173 (fun x5 x6 x7 F h => ih x5 x6 x7 F h) h
              · refine V_bipush dX7_read_131 cb_40 rfl ?_
                refine V_iload_n dX7_read_133 rfl rfl rfl ?_
                refine V_imul dX7_read_134 rfl ?_
                refine V_iload_n dX7_read_135 rfl rfl rfl ?_
                refine V_iadd dX7_read_136 rfl ?_
                refine V_iload dX7_read_137 rfl rfl ?_
                refine V_iadd dX7_read_139 rfl ?_
                refine V_istore dX7_read_140 (by decide) rfl (ls' := [.ref 82, .int l1, .int l2, .int l3, .int l4, .int ((if ¬ (pX7_in (l3.toInt64 + l7.toInt64) 0 ((v3 - 1).toInt64) F) = 0 then 0 else 2 : Int32)), .int l6, .int l7, .int (((40 * l1) + l3) + l7)]) rfl rfl ?_
                refine V_aload_n dX7_read_142 rfl rfl rfl ?_
                refine V_aload_n dX7_read_143 rfl rfl rfl ?_
                refine F_getR dX7_read_144 fl_X7_51 ly_82 rfl rfl ?_
                refine V_iload dX7_read_147 rfl rfl ?_
                refine A_ld0 dX7_read_149 rfl h fun v4 h => ?_
                refine A_callC (ci := 7) eI dX7_read_150 cl_X7_178 (by decide) rfl rfl (As := [.int v4]) (st := []) rfl rfl (Nat.le_of_ble_eq_true rfl) rfl h (fun _ _ h => cp_X7_adds (d := d) h) fun v5 F3 h => ?_
                refine A_if_ge dX7_read_153 rfl rfl h (fun h => ?_) (fun h => ?_)
                · refine V_iinc dX7_read_170 (v := l6 + 1) rfl (by rw [ci_1]) rfl (ls' := [.ref 82, .int l1, .int l2, .int l3, .int l4, .int ((if ¬ (pX7_in (l3.toInt64 + l7.toInt64) 0 ((v3 - 1).toInt64) F) = 0 then 0 else 2 : Int32)), .int (l6 + 1), .int l7, .int (((40 * l1) + l3) + l7)]) rfl rfl ?_
                  refine V_weak [true, true, true, true, true, true, true, true, false] rfl ?_
                  exact okX7_read_b173 (fun x5 x6 x7 F h => ih x5 x6 x7 F h) h
                · refine V_aload_n dX7_read_156 rfl rfl rfl ?_
                  refine V_sipush dX7_read_157 cs_225 rfl ?_
                  refine V_iconst dX7_read_160 ci_0 rfl ?_
                  refine A_callC (ci := 7) eU dX7_read_161 cl_X7_193 (by decide) rfl rfl (As := [.int 225, .int 0]) (st := []) rfl rfl (Nat.le_of_ble_eq_true rfl) rfl h (fun _ _ h => cp_X7_copies (d := d + 2) h) fun _ F4 h => ?_
                  refine V_bipush dX7_read_164 cb_m20 rfl ?_
                  refine V_iload dX7_read_166 rfl rfl ?_
                  refine V_isub dX7_read_168 rfl ?_
                  exact A_ireturn dX7_read_169 rfl h
          · refine V_iconst dX7_read_93 ci_3 rfl ?_
            refine V_goto dX7_read_94 rfl ?_
            refine V_weak [true, true, true, true, true, false, true, true, false] rfl ?_
            exact okX7_read_b124 (fun x5 x6 x7 F h => ih x5 x6 x7 F h) h
        · refine V_iconst dX7_read_79 ci_1 rfl ?_
          refine V_goto dX7_read_80 rfl ?_
          refine V_weak [true, true, true, true, true, false, true, true, false] rfl ?_
          exact okX7_read_b124 (fun x5 x6 x7 F h => ih x5 x6 x7 F h) h
theorem okX7_read {N d : Nat} {l1 : Int32} {l2 : Int32} {l3 : Int32} {l4 : Int32} {F : FF} {res : Int32 × FF} (h : fX7_read N l1 l2 l3 l4 F = some res) : FV cX7_read 9 RX7 (d + 3) (some .int) none 0 [.ref 82, .int l1, .int l2, .int l3, .int l4, .null, .null, .null, .null] [] F (RI res) := by
  unfold fX7_read at h
  refine V_iload_n dX7_read_0 rfl rfl rfl ?_
  refine V_i2l dX7_read_1 rfl ?_
  refine V_lconst dX7_read_2 cl_0 rfl ?_
  refine V_ldc2 dX7_read_3 kc_X7_172 rfl ?_
  refine P_callS dX7_read_6 cl_X7_56 (cq_X7_in (d := d + 2)) (As := [.long l1.toInt64, .long 0, .long 3]) (st := []) rfl rfl (Nat.le_of_ble_eq_true rfl) rfl ?_
  refine A_if_eq dX7_read_9 rfl rfl h (fun h => ?_) (fun h => ?_)
  · refine V_iconst dX7_read_37 ci_m1 rfl ?_
    exact A_ireturn dX7_read_38 rfl h
  · refine V_iload_n dX7_read_12 rfl rfl rfl ?_
    refine V_i2l dX7_read_13 rfl ?_
    refine V_lconst dX7_read_14 cl_0 rfl ?_
    refine V_ldc2 dX7_read_15 kc_X7_239 rfl ?_
    refine P_callS dX7_read_18 cl_X7_56 (cq_X7_in (d := d + 2)) (As := [.long l2.toInt64, .long 0, .long 2]) (st := []) rfl rfl (Nat.le_of_ble_eq_true rfl) rfl ?_
    refine A_if_eq dX7_read_21 rfl rfl h (fun h => ?_) (fun h => ?_)
    · refine V_iconst dX7_read_37 ci_m1 rfl ?_
      exact A_ireturn dX7_read_38 rfl h
    · refine V_iload dX7_read_24 rfl rfl ?_
      refine V_i2l dX7_read_26 rfl ?_
      refine V_lconst dX7_read_27 cl_0 rfl ?_
      refine V_ldc2 dX7_read_28 kc_X7_227 rfl ?_
      refine P_callS dX7_read_31 cl_X7_56 (cq_X7_in (d := d + 2)) (As := [.long l4.toInt64, .long 0, .long 40]) (st := []) rfl rfl (Nat.le_of_ble_eq_true rfl) rfl ?_
      refine A_if_ne dX7_read_34 rfl rfl h (fun h => ?_) (fun h => ?_)
      · refine V_aload_n dX7_read_39 rfl rfl rfl ?_
        refine V_iconst dX7_read_40 ci_0 rfl ?_
        refine V_sipush dX7_read_41 cs_225 rfl ?_
        refine A_callC (ci := 7) eU dX7_read_44 cl_X7_193 (by decide) rfl rfl (As := [.int 0, .int 225]) (st := []) rfl rfl (Nat.le_of_ble_eq_true rfl) rfl h (fun _ _ h => cp_X7_copies (d := d + 2) h) fun _ F1 h => ?_
        refine V_iconst dX7_read_47 ci_0 rfl ?_
        refine V_istore dX7_read_48 (by decide) rfl (ls' := [.ref 82, .int l1, .int l2, .int l3, .int l4, .int 0, .null, .null, .null]) rfl rfl ?_
        refine V_iconst dX7_read_50 ci_0 rfl ?_
        refine V_istore dX7_read_51 (by decide) rfl (ls' := [.ref 82, .int l1, .int l2, .int l3, .int l4, .int 0, .int 0, .null, .null]) rfl rfl ?_
        refine V_iconst dX7_read_53 ci_0 rfl ?_
        refine V_istore dX7_read_54 (by decide) rfl (ls' := [.ref 82, .int l1, .int l2, .int l3, .int l4, .int 0, .int 0, .int 0, .null]) rfl rfl ?_
        exact okX7_read_L56 _ _ _ _ _ h
      · refine V_iconst dX7_read_37 ci_m1 rfl ?_
        exact A_ireturn dX7_read_38 rfl h
theorem cp_X7_read {N d : Nat} {l1 : Int32} {l2 : Int32} {l3 : Int32} {l4 : Int32} {F F' : FF} {r : Int32} (h : fX7_read N l1 l2 l3 l4 F = some (r, F')) : CP (d + 3) mX7_read [.ref 82, .int l1, .int l2, .int l3, .int l4] F (fun r' F'' => r' = eI r ∧ F'' = F') := CP_I rfl (Nat.le_of_ble_eq_true rfl) (okX7_read h)
theorem okX7_torn {N d : Nat} {F : FF} {res : Int32 × FF} (h : fX7_torn N F = some res) : FV cX7_torn 1 RX7 (d) (some .int) none 0 [.ref 82] [] F (RI res) := by
  unfold fX7_torn at h
  refine V_aload_n dX7_torn_0 rfl rfl rfl ?_
  refine F_getI dX7_torn_1 fl_X7_241 ly_82 rfl rfl ?_
  exact A_ireturn dX7_torn_4 rfl h
theorem cp_X7_torn {N d : Nat} {F F' : FF} {r : Int32} (h : fX7_torn N F = some (r, F')) : CP (d) mX7_torn [.ref 82] F (fun r' F'' => r' = eI r ∧ F'' = F') := CP_I rfl (Nat.le_of_ble_eq_true rfl) (okX7_torn h)
theorem pe_X7_torn {N : Nat} {F : FF} : fX7_torn N F = some (pX7_torn F, F) := by
  simp only [fX7_torn, pX7_torn]
  repeat (first | rfl | split)
theorem cq_X7_torn {d : Nat} {F : FF} : CP (d) mX7_torn [.ref 82] F (fun r' F'' => r' = eI (pX7_torn F) ∧ F'' = F) := cp_X7_torn (N := 0) (pe_X7_torn)
theorem okX7_count_L40 {N d : Nat} {l1 : Int32} {l2 : Int32} {res : Int32 × FF} : ∀ (n : Nat) (l3 : Int32) (l4 : Int32) (F : FF), fX7_count_L40 N l1 l2 n l3 l4 F = some res → FV cX7_count 5 RX7 (d) (some .int) none 40 [.ref 82, .int l1, .int l2, .int l3, .int l4] [] F (RI res) := by
  intro n
  induction n with
  | zero =>
    intro l3 l4 F h
    rw [fX7_count_L40.eq_1] at h
    cases h
  | succ n ih =>
    intro l3 l4 F h
    rw [fX7_count_L40.eq_2] at h
    refine V_iload dX7_count_40 rfl rfl ?_
    refine V_aload_n dX7_count_42 rfl rfl rfl ?_
    refine F_getR dX7_count_43 fl_X7_7 ly_82 rfl rfl ?_
    refine V_bipush dX7_count_46 cb_25 rfl ?_
    refine F_iald dX7_count_48 ly_83 (j := 25) (by decide) (by decide) (by decide) rfl ?_
    refine A_icmp_ge dX7_count_49 rfl rfl h (fun h => ?_) (fun h => ?_)
    · refine V_iload_n dX7_count_71 rfl rfl rfl ?_
      refine A_if h (fun c h => ?_) (fun c0 h => ?_)
      · rw [c]
        refine V_tableIn dX7_count_72 (by decide) (by decide) rfl rfl ?_
        refine V_aload_n dX7_count_112 rfl rfl rfl ?_
        refine F_getI dX7_count_113 fl_X7_135 ly_82 rfl rfl ?_
        exact A_ireturn dX7_count_116 rfl h
      refine A_if h (fun c h => ?_) (fun c1 h => ?_)
      · rw [c]
        refine V_tableIn dX7_count_72 (by decide) (by decide) rfl rfl ?_
        refine V_aload_n dX7_count_117 rfl rfl rfl ?_
        refine F_getR dX7_count_118 fl_X7_41 ly_82 rfl rfl ?_
        refine V_iconst dX7_count_121 ci_0 rfl ?_
        refine F_zald dX7_count_122 ly_91 (j := 0) (by decide) (by decide) (by decide) rfl ?_
        refine V_midI (q := 131) ((if (F 91 0) = 0 then 0 else 1 : Int32)) [] (fun yJ hy hJ => ?_) ?_
        · refine V_if_eq dX7_count_123 rfl rfl (fun c => ?_) (fun c => ?_)
          · rw [if_pos c] at hy
            refine V_iconst dX7_count_130 ci_0 rfl ?_
            rw [hy] at hJ
            exact hJ
          · rw [if_neg c] at hy
            refine V_iconst dX7_count_126 ci_1 rfl ?_
            refine V_goto dX7_count_127 rfl ?_
            rw [hy] at hJ
            exact hJ
        · refine V_aload_n dX7_count_131 rfl rfl rfl ?_
          refine F_getR dX7_count_132 fl_X7_41 ly_82 rfl rfl ?_
          refine V_iconst dX7_count_135 ci_1 rfl ?_
          refine F_zald dX7_count_136 ly_91 (j := 1) (by decide) (by decide) (by decide) rfl ?_
          refine V_midI (q := 145) ((if (F 91 1) = 0 then 0 else 1 : Int32)) [.int ((if (F 91 0) = 0 then 0 else 1 : Int32))] (fun yJ hy hJ => ?_) ?_
          · refine V_if_eq dX7_count_137 rfl rfl (fun c => ?_) (fun c => ?_)
            · rw [if_pos c] at hy
              refine V_iconst dX7_count_144 ci_0 rfl ?_
              rw [hy] at hJ
              exact hJ
            · rw [if_neg c] at hy
              refine V_iconst dX7_count_140 ci_1 rfl ?_
              refine V_goto dX7_count_141 rfl ?_
              rw [hy] at hJ
              exact hJ
          · refine V_iadd dX7_count_145 rfl ?_
            exact A_ireturn dX7_count_146 rfl h
      refine A_if h (fun c h => ?_) (fun c2 h => ?_)
      · rw [c]
        refine V_tableIn dX7_count_72 (by decide) (by decide) rfl rfl ?_
        refine V_aload_n dX7_count_147 rfl rfl rfl ?_
        refine F_getI dX7_count_148 fl_X7_60 ly_82 rfl rfl ?_
        exact A_ireturn dX7_count_151 rfl h
      refine A_if h (fun c h => ?_) (fun c3 h => ?_)
      · rw [c]
        refine V_tableIn dX7_count_72 (by decide) (by decide) rfl rfl ?_
        refine V_aload_n dX7_count_152 rfl rfl rfl ?_
        refine F_getR dX7_count_153 fl_X7_45 ly_82 rfl rfl ?_
        refine V_iconst dX7_count_156 ci_0 rfl ?_
        refine F_iald dX7_count_157 ly_92 (j := 0) (by decide) (by decide) (by decide) rfl ?_
        refine V_bipush dX7_count_158 cb_m4 rfl ?_
        refine V_midI (q := 174) ((if ¬ (F 92 0) = ((-4)) then (F 93 0) else ((-4)) : Int32)) [] (fun yJ hy hJ => ?_) ?_
        · refine V_icmp_ne dX7_count_160 rfl rfl (fun c => ?_) (fun c => ?_)
          · rw [if_pos c] at hy
            refine V_aload_n dX7_count_168 rfl rfl rfl ?_
            refine F_getR dX7_count_169 fl_X7_48 ly_82 rfl rfl ?_
            refine V_iconst dX7_count_172 ci_0 rfl ?_
            refine F_iald dX7_count_173 ly_93 (j := 0) (by decide) (by decide) (by decide) rfl ?_
            rw [hy] at hJ
            exact hJ
          · rw [if_neg (fun z => z c)] at hy
            refine V_bipush dX7_count_163 cb_m4 rfl ?_
            refine V_goto dX7_count_165 rfl ?_
            rw [hy] at hJ
            exact hJ
        · exact A_ireturn dX7_count_174 rfl h
      refine A_if h (fun c h => ?_) (fun c4 h => ?_)
      · rw [c]
        refine V_tableIn dX7_count_72 (by decide) (by decide) rfl rfl ?_
        refine V_iload_n dX7_count_175 rfl rfl rfl ?_
        exact A_ireturn dX7_count_176 rfl h
      refine A_if h (fun c h => ?_) (fun c5 h => ?_)
      · rw [c]
        refine V_tableIn dX7_count_72 (by decide) (by decide) rfl rfl ?_
        refine V_iload_n dX7_count_177 rfl rfl rfl ?_
        exact A_ireturn dX7_count_178 rfl h
      refine V_tableOut dX7_count_72 (tb_out6 c0 c1 c2 c3 c4 c5) rfl ?_
      refine V_iconst dX7_count_179 ci_m1 rfl ?_
      exact A_ireturn dX7_count_180 rfl h
    · refine V_iload_n dX7_count_52 rfl rfl rfl ?_
      refine V_aload_n dX7_count_53 rfl rfl rfl ?_
      refine F_getR dX7_count_54 fl_X7_7 ly_82 rfl rfl ?_
      refine V_bipush dX7_count_57 cb_9 rfl ?_
      refine V_iload dX7_count_59 rfl rfl ?_
      refine V_iadd dX7_count_61 rfl ?_
      refine A_ld0 dX7_count_62 rfl h fun v1 h => ?_
      refine V_iadd dX7_count_63 rfl ?_
      refine V_istore_n dX7_count_64 rfl (by decide) rfl (ls' := [.ref 82, .int l1, .int l2, .int (l3 + v1), .int l4]) rfl rfl ?_
      refine V_iinc dX7_count_65 (v := l4 + 1) rfl (by rw [ci_1]) rfl (ls' := [.ref 82, .int l1, .int l2, .int (l3 + v1), .int (l4 + 1)]) rfl rfl ?_
      refine V_goto dX7_count_68 rfl ?_
      exact ih (l3 + v1) (l4 + 1) F h
theorem okX7_count_L7 {N d : Nat} {l1 : Int32} {l3 : Int32} {res : Int32 × FF} : ∀ (n : Nat) (l2 : Int32) (l4 : Int32) (F : FF), fX7_count_L7 N l1 l3 n l2 l4 F = some res → FV cX7_count 5 RX7 (d) (some .int) none 7 [.ref 82, .int l1, .int l2, .int l3, .int l4] [] F (RI res) := by
  intro n
  induction n with
  | zero =>
    intro l2 l4 F h
    rw [fX7_count_L7.eq_1] at h
    cases h
  | succ n ih =>
    intro l2 l4 F h
    rw [fX7_count_L7.eq_2] at h
    refine V_iload dX7_count_7 rfl rfl ?_
    refine V_aload_n dX7_count_9 rfl rfl rfl ?_
    refine F_getR dX7_count_10 fl_X7_7 ly_82 rfl rfl ?_
    refine V_bipush dX7_count_13 cb_8 rfl ?_
    refine F_iald dX7_count_15 ly_83 (j := 8) (by decide) (by decide) (by decide) rfl ?_
    refine A_icmp_ge dX7_count_16 rfl rfl h (fun h => ?_) (fun h => ?_)
    · refine V_iconst dX7_count_37 ci_0 rfl ?_
      refine V_istore dX7_count_38 (by decide) rfl (ls' := [.ref 82, .int l1, .int l2, .int l3, .int 0]) rfl rfl ?_
      exact okX7_count_L40 _ _ _ _ h
    · refine V_iload_n dX7_count_19 rfl rfl rfl ?_
      refine V_aload_n dX7_count_20 rfl rfl rfl ?_
      refine F_getR dX7_count_21 fl_X7_7 ly_82 rfl rfl ?_
      refine V_iconst dX7_count_24 ci_4 rfl ?_
      refine V_iload dX7_count_25 rfl rfl ?_
      refine V_iadd dX7_count_27 rfl ?_
      refine A_ld0 dX7_count_28 rfl h fun v1 h => ?_
      refine V_iadd dX7_count_29 rfl ?_
      refine V_istore_n dX7_count_30 rfl (by decide) rfl (ls' := [.ref 82, .int l1, .int (l2 + v1), .int l3, .int l4]) rfl rfl ?_
      refine V_iinc dX7_count_31 (v := l4 + 1) rfl (by rw [ci_1]) rfl (ls' := [.ref 82, .int l1, .int (l2 + v1), .int l3, .int (l4 + 1)]) rfl rfl ?_
      refine V_goto dX7_count_34 rfl ?_
      exact ih (l2 + v1) (l4 + 1) F h
theorem okX7_count {N d : Nat} {l1 : Int32} {F : FF} {res : Int32 × FF} (h : fX7_count N l1 F = some res) : FV cX7_count 5 RX7 (d) (some .int) none 0 [.ref 82, .int l1, .null, .null, .null] [] F (RI res) := by
  unfold fX7_count at h
  refine V_iconst dX7_count_0 ci_0 rfl ?_
  refine V_istore_n dX7_count_1 rfl (by decide) rfl (ls' := [.ref 82, .int l1, .int 0, .null, .null]) rfl rfl ?_
  refine V_iconst dX7_count_2 ci_0 rfl ?_
  refine V_istore_n dX7_count_3 rfl (by decide) rfl (ls' := [.ref 82, .int l1, .int 0, .int 0, .null]) rfl rfl ?_
  refine V_iconst dX7_count_4 ci_0 rfl ?_
  refine V_istore dX7_count_5 (by decide) rfl (ls' := [.ref 82, .int l1, .int 0, .int 0, .int 0]) rfl rfl ?_
  exact okX7_count_L7 _ _ _ _ h
theorem cp_X7_count {N d : Nat} {l1 : Int32} {F F' : FF} {r : Int32} (h : fX7_count N l1 F = some (r, F')) : CP (d) mX7_count [.ref 82, .int l1] F (fun r' F'' => r' = eI r ∧ F'' = F') := CP_I rfl (Nat.le_of_ble_eq_true rfl) (okX7_count h)
