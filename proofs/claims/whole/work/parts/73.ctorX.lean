/-! THE CONSTRUCTOR OF ShelfWays (by program, gen_ctor.py) -/
def ws00 : Mem := ((0, 0), fun _ => none)
theorem ws00_w : ma_wf ws00 := fun k c h => by cases h
def ws0 : Mem := ma_new ws00 12 (.inr (6, ma_df 6))
theorem ws0_1 : ws0.1 = (1, 12) := by decide +kernel
theorem ws0_w : ma_wf ws0 := ma_wf_new ws00_w
theorem ws0_c0 : ws0.2 0 = some (.inr (6, [.null, .null, .null, .null, .null, .null, .null, .null, .null, .null, .null, .int 0])) := nw_at (M := ws00)
def ws1 : Mem := ma_new ws0 6 (.inr (0, ma_df 0))
theorem ws1_1 : ws1.1 = (2, 18) := by decide +kernel
theorem ws1_w : ma_wf ws1 := ma_wf_new ws0_w
theorem ws1_c0 : ws1.2 0 = some (.inr (6, [.null, .null, .null, .null, .null, .null, .null, .null, .null, .null, .null, .int 0])) := (nw_lt (M := ws0) (by decide +kernel)).trans ws0_c0
theorem ws1_c1 : ws1.2 1 = some (.inr (0, ma_df 0)) := nw_at (M := ws0)
def ws2 : Mem := hsM ws1 1
theorem ws2_1 : ws2.1 = (16, 102) := by decide +kernel
theorem ws2_w : ma_wf ws2 := hsM_wf ws1_w (by decide +kernel)
theorem ws2_c0 : ws2.2 0 = some (.inr (6, [.null, .null, .null, .null, .null, .null, .null, .null, .null, .null, .null, .int 0])) := (hsM_lt (M := ws1) (by decide +kernel) (by decide)).trans ws1_c0
def ws3 : Mem := ma_put ws2 0 (.inr (6, [.ref 1, .null, .null, .null, .null, .null, .null, .null, .null, .null, .null, .int 0]))
theorem ws3_1 : ws3.1 = (16, 102) := by decide +kernel
theorem ws3_w : ma_wf ws3 := ma_wf_put ws2_w (by decide +kernel)
theorem ws3_c0 : ws3.2 0 = some (.inr (6, [.ref 1, .null, .null, .null, .null, .null, .null, .null, .null, .null, .null, .int 0])) := pu_at
def ws4 : Mem := ma_new ws3 6 (.inr (0, ma_df 0))
theorem ws4_1 : ws4.1 = (17, 108) := by decide +kernel
theorem ws4_w : ma_wf ws4 := ma_wf_new ws3_w
theorem ws4_c0 : ws4.2 0 = some (.inr (6, [.ref 1, .null, .null, .null, .null, .null, .null, .null, .null, .null, .null, .int 0])) := (nw_lt (M := ws3) (by decide +kernel)).trans ws3_c0
theorem ws4_c16 : ws4.2 16 = some (.inr (0, ma_df 0)) := nw_at (M := ws3)
def ws5 : Mem := hsM ws4 16
theorem ws5_1 : ws5.1 = (31, 192) := by decide +kernel
theorem ws5_w : ma_wf ws5 := hsM_wf ws4_w (by decide +kernel)
theorem ws5_c0 : ws5.2 0 = some (.inr (6, [.ref 1, .null, .null, .null, .null, .null, .null, .null, .null, .null, .null, .int 0])) := (hsM_lt (M := ws4) (by decide +kernel) (by decide)).trans ws4_c0
def ws6 : Mem := ma_put ws5 0 (.inr (6, [.ref 1, .ref 16, .null, .null, .null, .null, .null, .null, .null, .null, .null, .int 0]))
theorem ws6_1 : ws6.1 = (31, 192) := by decide +kernel
theorem ws6_w : ma_wf ws6 := ma_wf_put ws5_w (by decide +kernel)
theorem ws6_c0 : ws6.2 0 = some (.inr (6, [.ref 1, .ref 16, .null, .null, .null, .null, .null, .null, .null, .null, .null, .int 0])) := pu_at
def ws7 : Mem := ma_new ws6 2 (.inl (3, 2, .inr (fun _ => none)))
theorem ws7_1 : ws7.1 = (32, 194) := by decide +kernel
theorem ws7_w : ma_wf ws7 := ma_wf_new ws6_w
theorem ws7_c0 : ws7.2 0 = some (.inr (6, [.ref 1, .ref 16, .null, .null, .null, .null, .null, .null, .null, .null, .null, .int 0])) := (nw_lt (M := ws6) (by decide +kernel)).trans ws6_c0
theorem ws7_c31 : ws7.2 31 = some (.inl (3, 2, .inr (fun _ => none))) := nw_at (M := ws6)
def ws8 : Mem := ma_put ws7 0 (.inr (6, [.ref 1, .ref 16, .ref 31, .null, .null, .null, .null, .null, .null, .null, .null, .int 0]))
theorem ws8_1 : ws8.1 = (32, 194) := by decide +kernel
theorem ws8_w : ma_wf ws8 := ma_wf_put ws7_w (by decide +kernel)
theorem ws8_c0 : ws8.2 0 = some (.inr (6, [.ref 1, .ref 16, .ref 31, .null, .null, .null, .null, .null, .null, .null, .null, .int 0])) := pu_at
theorem ws8_c31 : ws8.2 31 = some (.inl (3, 2, .inr (fun _ => none))) := (pu_ne (by decide)).trans ws7_c31
def ws9 : Mem := ma_new ws8 2 (.inl (2, 2, .inl (fun _ => 0)))
theorem ws9_1 : ws9.1 = (33, 196) := by decide +kernel
theorem ws9_w : ma_wf ws9 := ma_wf_new ws8_w
theorem ws9_c0 : ws9.2 0 = some (.inr (6, [.ref 1, .ref 16, .ref 31, .null, .null, .null, .null, .null, .null, .null, .null, .int 0])) := (nw_lt (M := ws8) (by decide +kernel)).trans ws8_c0
theorem ws9_c31 : ws9.2 31 = some (.inl (3, 2, .inr (fun _ => none))) := (nw_lt (M := ws8) (by decide +kernel)).trans ws8_c31
def ws10 : Mem := ma_put ws9 0 (.inr (6, [.ref 1, .ref 16, .ref 31, .ref 32, .null, .null, .null, .null, .null, .null, .null, .int 0]))
theorem ws10_1 : ws10.1 = (33, 196) := by decide +kernel
theorem ws10_w : ma_wf ws10 := ma_wf_put ws9_w (by decide +kernel)
theorem ws10_c0 : ws10.2 0 = some (.inr (6, [.ref 1, .ref 16, .ref 31, .ref 32, .null, .null, .null, .null, .null, .null, .null, .int 0])) := pu_at
theorem ws10_c31 : ws10.2 31 = some (.inl (3, 2, .inr (fun _ => none))) := (pu_ne (by decide)).trans ws9_c31
def ws11 : Mem := ma_new ws10 9 (.inr (5, ma_df 5))
theorem ws11_1 : ws11.1 = (34, 205) := by decide +kernel
theorem ws11_w : ma_wf ws11 := ma_wf_new ws10_w
theorem ws11_c0 : ws11.2 0 = some (.inr (6, [.ref 1, .ref 16, .ref 31, .ref 32, .null, .null, .null, .null, .null, .null, .null, .int 0])) := (nw_lt (M := ws10) (by decide +kernel)).trans ws10_c0
theorem ws11_c31 : ws11.2 31 = some (.inl (3, 2, .inr (fun _ => none))) := (nw_lt (M := ws10) (by decide +kernel)).trans ws10_c31
theorem ws11_c33 : ws11.2 33 = some (.inr (5, ma_df 5)) := nw_at (M := ws10)
def ws12 : Mem := tpM ws11 33
theorem ws12_1 : ws12.1 = (35, 365) := by decide +kernel
theorem ws12_w : ma_wf ws12 := tpM_wf ws11_w (by decide +kernel)
theorem ws12_c0 : ws12.2 0 = some (.inr (6, [.ref 1, .ref 16, .ref 31, .ref 32, .null, .null, .null, .null, .null, .null, .null, .int 0])) := (tpM_lt (M := ws11) (by decide +kernel) (by decide)).trans ws11_c0
theorem ws12_c31 : ws12.2 31 = some (.inl (3, 2, .inr (fun _ => none))) := (tpM_lt (M := ws11) (by decide +kernel) (by decide)).trans ws11_c31
def ws13 : Mem := ma_put ws12 0 (.inr (6, [.ref 1, .ref 16, .ref 31, .ref 32, .ref 33, .null, .null, .null, .null, .null, .null, .int 0]))
theorem ws13_1 : ws13.1 = (35, 365) := by decide +kernel
theorem ws13_w : ma_wf ws13 := ma_wf_put ws12_w (by decide +kernel)
theorem ws13_c0 : ws13.2 0 = some (.inr (6, [.ref 1, .ref 16, .ref 31, .ref 32, .ref 33, .null, .null, .null, .null, .null, .null, .int 0])) := pu_at
theorem ws13_c31 : ws13.2 31 = some (.inl (3, 2, .inr (fun _ => none))) := (pu_ne (by decide)).trans ws12_c31
def ws14 : Mem := ma_new ws13 4 (.inr (2, ma_df 2))
theorem ws14_1 : ws14.1 = (36, 369) := by decide +kernel
theorem ws14_w : ma_wf ws14 := ma_wf_new ws13_w
theorem ws14_c0 : ws14.2 0 = some (.inr (6, [.ref 1, .ref 16, .ref 31, .ref 32, .ref 33, .null, .null, .null, .null, .null, .null, .int 0])) := (nw_lt (M := ws13) (by decide +kernel)).trans ws13_c0
theorem ws14_c31 : ws14.2 31 = some (.inl (3, 2, .inr (fun _ => none))) := (nw_lt (M := ws13) (by decide +kernel)).trans ws13_c31
theorem ws14_c35 : ws14.2 35 = some (.inr (2, ma_df 2)) := nw_at (M := ws13)
def ws15 : Mem := seM ws14 35
theorem ws15_1 : ws15.1 = (39, 387) := by decide +kernel
theorem ws15_w : ma_wf ws15 := seM_wf ws14_w (by decide +kernel)
theorem ws15_c0 : ws15.2 0 = some (.inr (6, [.ref 1, .ref 16, .ref 31, .ref 32, .ref 33, .null, .null, .null, .null, .null, .null, .int 0])) := (seM_lt (M := ws14) (by decide +kernel) (by decide)).trans ws14_c0
theorem ws15_c31 : ws15.2 31 = some (.inl (3, 2, .inr (fun _ => none))) := (seM_lt (M := ws14) (by decide +kernel) (by decide)).trans ws14_c31
def ws16 : Mem := ma_put ws15 0 (.inr (6, [.ref 1, .ref 16, .ref 31, .ref 32, .ref 33, .ref 35, .null, .null, .null, .null, .null, .int 0]))
theorem ws16_1 : ws16.1 = (39, 387) := by decide +kernel
theorem ws16_w : ma_wf ws16 := ma_wf_put ws15_w (by decide +kernel)
theorem ws16_c0 : ws16.2 0 = some (.inr (6, [.ref 1, .ref 16, .ref 31, .ref 32, .ref 33, .ref 35, .null, .null, .null, .null, .null, .int 0])) := pu_at
theorem ws16_c31 : ws16.2 31 = some (.inl (3, 2, .inr (fun _ => none))) := (pu_ne (by decide)).trans ws15_c31
def ws17 : Mem := ma_new ws16 4 (.inl (4, 4, .inr (fun _ => none)))
theorem ws17_1 : ws17.1 = (40, 391) := by decide +kernel
theorem ws17_w : ma_wf ws17 := ma_wf_new ws16_w
theorem ws17_c0 : ws17.2 0 = some (.inr (6, [.ref 1, .ref 16, .ref 31, .ref 32, .ref 33, .ref 35, .null, .null, .null, .null, .null, .int 0])) := (nw_lt (M := ws16) (by decide +kernel)).trans ws16_c0
theorem ws17_c31 : ws17.2 31 = some (.inl (3, 2, .inr (fun _ => none))) := (nw_lt (M := ws16) (by decide +kernel)).trans ws16_c31
theorem ws17_c39 : ws17.2 39 = some (.inl (4, 4, .inr (fun _ => none))) := nw_at (M := ws16)
def ws18 : Mem := ma_put ws17 0 (.inr (6, [.ref 1, .ref 16, .ref 31, .ref 32, .ref 33, .ref 35, .ref 39, .null, .null, .null, .null, .int 0]))
theorem ws18_1 : ws18.1 = (40, 391) := by decide +kernel
theorem ws18_w : ma_wf ws18 := ma_wf_put ws17_w (by decide +kernel)
theorem ws18_c0 : ws18.2 0 = some (.inr (6, [.ref 1, .ref 16, .ref 31, .ref 32, .ref 33, .ref 35, .ref 39, .null, .null, .null, .null, .int 0])) := pu_at
theorem ws18_c31 : ws18.2 31 = some (.inl (3, 2, .inr (fun _ => none))) := (pu_ne (by decide)).trans ws17_c31
theorem ws18_c39 : ws18.2 39 = some (.inl (4, 4, .inr (fun _ => none))) := (pu_ne (by decide)).trans ws17_c39
def ws19 : Mem := ma_new ws18 2 (.inr (1, ma_df 1))
theorem ws19_1 : ws19.1 = (41, 393) := by decide +kernel
theorem ws19_w : ma_wf ws19 := ma_wf_new ws18_w
theorem ws19_c0 : ws19.2 0 = some (.inr (6, [.ref 1, .ref 16, .ref 31, .ref 32, .ref 33, .ref 35, .ref 39, .null, .null, .null, .null, .int 0])) := (nw_lt (M := ws18) (by decide +kernel)).trans ws18_c0
theorem ws19_c31 : ws19.2 31 = some (.inl (3, 2, .inr (fun _ => none))) := (nw_lt (M := ws18) (by decide +kernel)).trans ws18_c31
theorem ws19_c39 : ws19.2 39 = some (.inl (4, 4, .inr (fun _ => none))) := (nw_lt (M := ws18) (by decide +kernel)).trans ws18_c39
theorem ws19_c40 : ws19.2 40 = some (.inr (1, ma_df 1)) := nw_at (M := ws18)
def ws20 : Mem := ma_put ws19 0 (.inr (6, [.ref 1, .ref 16, .ref 31, .ref 32, .ref 33, .ref 35, .ref 39, .ref 40, .null, .null, .null, .int 0]))
theorem ws20_1 : ws20.1 = (41, 393) := by decide +kernel
theorem ws20_w : ma_wf ws20 := ma_wf_put ws19_w (by decide +kernel)
theorem ws20_c0 : ws20.2 0 = some (.inr (6, [.ref 1, .ref 16, .ref 31, .ref 32, .ref 33, .ref 35, .ref 39, .ref 40, .null, .null, .null, .int 0])) := pu_at
theorem ws20_c31 : ws20.2 31 = some (.inl (3, 2, .inr (fun _ => none))) := (pu_ne (by decide)).trans ws19_c31
theorem ws20_c39 : ws20.2 39 = some (.inl (4, 4, .inr (fun _ => none))) := (pu_ne (by decide)).trans ws19_c39
def ws21 : Mem := ma_new ws20 6 (.inl (0, 6, .inl (fun _ => 0)))
theorem ws21_1 : ws21.1 = (42, 399) := by decide +kernel
theorem ws21_w : ma_wf ws21 := ma_wf_new ws20_w
theorem ws21_c0 : ws21.2 0 = some (.inr (6, [.ref 1, .ref 16, .ref 31, .ref 32, .ref 33, .ref 35, .ref 39, .ref 40, .null, .null, .null, .int 0])) := (nw_lt (M := ws20) (by decide +kernel)).trans ws20_c0
theorem ws21_c31 : ws21.2 31 = some (.inl (3, 2, .inr (fun _ => none))) := (nw_lt (M := ws20) (by decide +kernel)).trans ws20_c31
theorem ws21_c39 : ws21.2 39 = some (.inl (4, 4, .inr (fun _ => none))) := (nw_lt (M := ws20) (by decide +kernel)).trans ws20_c39
def ws22 : Mem := ma_put ws21 0 (.inr (6, [.ref 1, .ref 16, .ref 31, .ref 32, .ref 33, .ref 35, .ref 39, .ref 40, .ref 41, .null, .null, .int 0]))
theorem ws22_1 : ws22.1 = (42, 399) := by decide +kernel
theorem ws22_w : ma_wf ws22 := ma_wf_put ws21_w (by decide +kernel)
theorem ws22_c0 : ws22.2 0 = some (.inr (6, [.ref 1, .ref 16, .ref 31, .ref 32, .ref 33, .ref 35, .ref 39, .ref 40, .ref 41, .null, .null, .int 0])) := pu_at
theorem ws22_c31 : ws22.2 31 = some (.inl (3, 2, .inr (fun _ => none))) := (pu_ne (by decide)).trans ws21_c31
theorem ws22_c39 : ws22.2 39 = some (.inl (4, 4, .inr (fun _ => none))) := (pu_ne (by decide)).trans ws21_c39
def ws23 : Mem := ma_new ws22 6 (.inl (0, 6, .inl (fun _ => 0)))
theorem ws23_1 : ws23.1 = (43, 405) := by decide +kernel
theorem ws23_w : ma_wf ws23 := ma_wf_new ws22_w
theorem ws23_c0 : ws23.2 0 = some (.inr (6, [.ref 1, .ref 16, .ref 31, .ref 32, .ref 33, .ref 35, .ref 39, .ref 40, .ref 41, .null, .null, .int 0])) := (nw_lt (M := ws22) (by decide +kernel)).trans ws22_c0
theorem ws23_c31 : ws23.2 31 = some (.inl (3, 2, .inr (fun _ => none))) := (nw_lt (M := ws22) (by decide +kernel)).trans ws22_c31
theorem ws23_c39 : ws23.2 39 = some (.inl (4, 4, .inr (fun _ => none))) := (nw_lt (M := ws22) (by decide +kernel)).trans ws22_c39
def ws24 : Mem := ma_put ws23 0 (.inr (6, [.ref 1, .ref 16, .ref 31, .ref 32, .ref 33, .ref 35, .ref 39, .ref 40, .ref 41, .ref 42, .null, .int 0]))
theorem ws24_1 : ws24.1 = (43, 405) := by decide +kernel
theorem ws24_w : ma_wf ws24 := ma_wf_put ws23_w (by decide +kernel)
theorem ws24_c0 : ws24.2 0 = some (.inr (6, [.ref 1, .ref 16, .ref 31, .ref 32, .ref 33, .ref 35, .ref 39, .ref 40, .ref 41, .ref 42, .null, .int 0])) := pu_at
theorem ws24_c31 : ws24.2 31 = some (.inl (3, 2, .inr (fun _ => none))) := (pu_ne (by decide)).trans ws23_c31
theorem ws24_c39 : ws24.2 39 = some (.inl (4, 4, .inr (fun _ => none))) := (pu_ne (by decide)).trans ws23_c39
def ws25 : Mem := ma_new ws24 164 (.inl (0, 164, .inl (fun _ => 0)))
theorem ws25_1 : ws25.1 = (44, 569) := by decide +kernel
theorem ws25_w : ma_wf ws25 := ma_wf_new ws24_w
theorem ws25_c0 : ws25.2 0 = some (.inr (6, [.ref 1, .ref 16, .ref 31, .ref 32, .ref 33, .ref 35, .ref 39, .ref 40, .ref 41, .ref 42, .null, .int 0])) := (nw_lt (M := ws24) (by decide +kernel)).trans ws24_c0
theorem ws25_c31 : ws25.2 31 = some (.inl (3, 2, .inr (fun _ => none))) := (nw_lt (M := ws24) (by decide +kernel)).trans ws24_c31
theorem ws25_c39 : ws25.2 39 = some (.inl (4, 4, .inr (fun _ => none))) := (nw_lt (M := ws24) (by decide +kernel)).trans ws24_c39
def ws26 : Mem := ma_put ws25 0 (.inr (6, [.ref 1, .ref 16, .ref 31, .ref 32, .ref 33, .ref 35, .ref 39, .ref 40, .ref 41, .ref 42, .ref 43, .int 0]))
theorem ws26_1 : ws26.1 = (44, 569) := by decide +kernel
theorem ws26_w : ma_wf ws26 := ma_wf_put ws25_w (by decide +kernel)
theorem ws26_c0 : ws26.2 0 = some (.inr (6, [.ref 1, .ref 16, .ref 31, .ref 32, .ref 33, .ref 35, .ref 39, .ref 40, .ref 41, .ref 42, .ref 43, .int 0])) := pu_at
theorem ws26_c31 : ws26.2 31 = some (.inl (3, 2, .inr (fun _ => none))) := (pu_ne (by decide)).trans ws25_c31
theorem ws26_c39 : ws26.2 39 = some (.inl (4, 4, .inr (fun _ => none))) := (pu_ne (by decide)).trans ws25_c39
def ws27 : Mem := ma_put ws26 0 (.inr (6, [.ref 1, .ref 16, .ref 31, .ref 32, .ref 33, .ref 35, .ref 39, .ref 40, .ref 41, .ref 42, .ref 43, .int (nI 0)]))
theorem ws27_1 : ws27.1 = (44, 569) := by decide +kernel
theorem ws27_w : ma_wf ws27 := ma_wf_put ws26_w (by decide +kernel)
theorem ws27_c0 : ws27.2 0 = some (.inr (6, [.ref 1, .ref 16, .ref 31, .ref 32, .ref 33, .ref 35, .ref 39, .ref 40, .ref 41, .ref 42, .ref 43, .int (nI 0)])) := pu_at
theorem ws27_c31 : ws27.2 31 = some (.inl (3, 2, .inr (fun _ => none))) := (pu_ne (by decide)).trans ws26_c31
theorem ws27_c39 : ws27.2 39 = some (.inl (4, 4, .inr (fun _ => none))) := (pu_ne (by decide)).trans ws26_c39
def ws28 : Mem := ma_new ws27 6 (.inr (0, ma_df 0))
theorem ws28_1 : ws28.1 = (45, 575) := by decide +kernel
theorem ws28_w : ma_wf ws28 := ma_wf_new ws27_w
theorem ws28_c0 : ws28.2 0 = some (.inr (6, [.ref 1, .ref 16, .ref 31, .ref 32, .ref 33, .ref 35, .ref 39, .ref 40, .ref 41, .ref 42, .ref 43, .int (nI 0)])) := (nw_lt (M := ws27) (by decide +kernel)).trans ws27_c0
theorem ws28_c31 : ws28.2 31 = some (.inl (3, 2, .inr (fun _ => none))) := (nw_lt (M := ws27) (by decide +kernel)).trans ws27_c31
theorem ws28_c39 : ws28.2 39 = some (.inl (4, 4, .inr (fun _ => none))) := (nw_lt (M := ws27) (by decide +kernel)).trans ws27_c39
theorem ws28_c44 : ws28.2 44 = some (.inr (0, ma_df 0)) := nw_at (M := ws27)
def ws29 : Mem := hsM ws28 44
theorem ws29_1 : ws29.1 = (59, 659) := by decide +kernel
theorem ws29_w : ma_wf ws29 := hsM_wf ws28_w (by decide +kernel)
theorem ws29_c0 : ws29.2 0 = some (.inr (6, [.ref 1, .ref 16, .ref 31, .ref 32, .ref 33, .ref 35, .ref 39, .ref 40, .ref 41, .ref 42, .ref 43, .int (nI 0)])) := (hsM_lt (M := ws28) (by decide +kernel) (by decide)).trans ws28_c0
theorem ws29_c31 : ws29.2 31 = some (.inl (3, 2, .inr (fun _ => none))) := (hsM_lt (M := ws28) (by decide +kernel) (by decide)).trans ws28_c31
theorem ws29_c39 : ws29.2 39 = some (.inl (4, 4, .inr (fun _ => none))) := (hsM_lt (M := ws28) (by decide +kernel) (by decide)).trans ws28_c39
def ws30 : Mem := ma_put ws29 31 (.inl (3, 2, .inr (va_up (fun _ => none) 0 (some 44))))
theorem ws30_1 : ws30.1 = (59, 659) := by decide +kernel
theorem ws30_w : ma_wf ws30 := ma_wf_put ws29_w (by decide +kernel)
theorem ws30_c0 : ws30.2 0 = some (.inr (6, [.ref 1, .ref 16, .ref 31, .ref 32, .ref 33, .ref 35, .ref 39, .ref 40, .ref 41, .ref 42, .ref 43, .int (nI 0)])) := (pu_ne (by decide)).trans ws29_c0
theorem ws30_c31 : ws30.2 31 = some (.inl (3, 2, .inr (va_up (fun _ => none) 0 (some 44)))) := pu_at
theorem ws30_c39 : ws30.2 39 = some (.inl (4, 4, .inr (fun _ => none))) := (pu_ne (by decide)).trans ws29_c39
def ws31 : Mem := ma_new ws30 6 (.inr (0, ma_df 0))
theorem ws31_1 : ws31.1 = (60, 665) := by decide +kernel
theorem ws31_w : ma_wf ws31 := ma_wf_new ws30_w
theorem ws31_c0 : ws31.2 0 = some (.inr (6, [.ref 1, .ref 16, .ref 31, .ref 32, .ref 33, .ref 35, .ref 39, .ref 40, .ref 41, .ref 42, .ref 43, .int (nI 0)])) := (nw_lt (M := ws30) (by decide +kernel)).trans ws30_c0
theorem ws31_c31 : ws31.2 31 = some (.inl (3, 2, .inr (va_up (fun _ => none) 0 (some 44)))) := (nw_lt (M := ws30) (by decide +kernel)).trans ws30_c31
theorem ws31_c39 : ws31.2 39 = some (.inl (4, 4, .inr (fun _ => none))) := (nw_lt (M := ws30) (by decide +kernel)).trans ws30_c39
theorem ws31_c59 : ws31.2 59 = some (.inr (0, ma_df 0)) := nw_at (M := ws30)
def ws32 : Mem := hsM ws31 59
theorem ws32_1 : ws32.1 = (74, 749) := by decide +kernel
theorem ws32_w : ma_wf ws32 := hsM_wf ws31_w (by decide +kernel)
theorem ws32_c0 : ws32.2 0 = some (.inr (6, [.ref 1, .ref 16, .ref 31, .ref 32, .ref 33, .ref 35, .ref 39, .ref 40, .ref 41, .ref 42, .ref 43, .int (nI 0)])) := (hsM_lt (M := ws31) (by decide +kernel) (by decide)).trans ws31_c0
theorem ws32_c31 : ws32.2 31 = some (.inl (3, 2, .inr (va_up (fun _ => none) 0 (some 44)))) := (hsM_lt (M := ws31) (by decide +kernel) (by decide)).trans ws31_c31
theorem ws32_c39 : ws32.2 39 = some (.inl (4, 4, .inr (fun _ => none))) := (hsM_lt (M := ws31) (by decide +kernel) (by decide)).trans ws31_c39
def ws33 : Mem := ma_put ws32 31 (.inl (3, 2, .inr (va_up (va_up (fun _ => none) 0 (some 44)) 1 (some 59))))
theorem ws33_1 : ws33.1 = (74, 749) := by decide +kernel
theorem ws33_w : ma_wf ws33 := ma_wf_put ws32_w (by decide +kernel)
theorem ws33_c0 : ws33.2 0 = some (.inr (6, [.ref 1, .ref 16, .ref 31, .ref 32, .ref 33, .ref 35, .ref 39, .ref 40, .ref 41, .ref 42, .ref 43, .int (nI 0)])) := (pu_ne (by decide)).trans ws32_c0
theorem ws33_c31 : ws33.2 31 = some (.inl (3, 2, .inr (va_up (va_up (fun _ => none) 0 (some 44)) 1 (some 59)))) := pu_at
theorem ws33_c39 : ws33.2 39 = some (.inl (4, 4, .inr (fun _ => none))) := (pu_ne (by decide)).trans ws32_c39
def ws34 : Mem := ma_new ws33 3 (.inr (3, ma_df 3))
theorem ws34_1 : ws34.1 = (75, 752) := by decide +kernel
theorem ws34_w : ma_wf ws34 := ma_wf_new ws33_w
theorem ws34_c0 : ws34.2 0 = some (.inr (6, [.ref 1, .ref 16, .ref 31, .ref 32, .ref 33, .ref 35, .ref 39, .ref 40, .ref 41, .ref 42, .ref 43, .int (nI 0)])) := (nw_lt (M := ws33) (by decide +kernel)).trans ws33_c0
theorem ws34_c31 : ws34.2 31 = some (.inl (3, 2, .inr (va_up (va_up (fun _ => none) 0 (some 44)) 1 (some 59)))) := (nw_lt (M := ws33) (by decide +kernel)).trans ws33_c31
theorem ws34_c39 : ws34.2 39 = some (.inl (4, 4, .inr (fun _ => none))) := (nw_lt (M := ws33) (by decide +kernel)).trans ws33_c39
theorem ws34_c74 : ws34.2 74 = some (.inr (3, ma_df 3)) := nw_at (M := ws33)
def ws35 : Mem := shtM ws34 74
theorem ws35_1 : ws35.1 = (76, 792) := by decide +kernel
theorem ws35_w : ma_wf ws35 := shtM_wf ws34_w (by decide +kernel)
theorem ws35_c0 : ws35.2 0 = some (.inr (6, [.ref 1, .ref 16, .ref 31, .ref 32, .ref 33, .ref 35, .ref 39, .ref 40, .ref 41, .ref 42, .ref 43, .int (nI 0)])) := (shtM_lt (M := ws34) (by decide +kernel) (by decide)).trans ws34_c0
theorem ws35_c31 : ws35.2 31 = some (.inl (3, 2, .inr (va_up (va_up (fun _ => none) 0 (some 44)) 1 (some 59)))) := (shtM_lt (M := ws34) (by decide +kernel) (by decide)).trans ws34_c31
theorem ws35_c39 : ws35.2 39 = some (.inl (4, 4, .inr (fun _ => none))) := (shtM_lt (M := ws34) (by decide +kernel) (by decide)).trans ws34_c39
def ws36 : Mem := ma_put ws35 39 (.inl (4, 4, .inr (va_up (fun _ => none) 0 (some 74))))
theorem ws36_1 : ws36.1 = (76, 792) := by decide +kernel
theorem ws36_w : ma_wf ws36 := ma_wf_put ws35_w (by decide +kernel)
theorem ws36_c0 : ws36.2 0 = some (.inr (6, [.ref 1, .ref 16, .ref 31, .ref 32, .ref 33, .ref 35, .ref 39, .ref 40, .ref 41, .ref 42, .ref 43, .int (nI 0)])) := (pu_ne (by decide)).trans ws35_c0
theorem ws36_c31 : ws36.2 31 = some (.inl (3, 2, .inr (va_up (va_up (fun _ => none) 0 (some 44)) 1 (some 59)))) := (pu_ne (by decide)).trans ws35_c31
theorem ws36_c39 : ws36.2 39 = some (.inl (4, 4, .inr (va_up (fun _ => none) 0 (some 74)))) := pu_at
def ws37 : Mem := ma_new ws36 3 (.inr (3, ma_df 3))
theorem ws37_1 : ws37.1 = (77, 795) := by decide +kernel
theorem ws37_w : ma_wf ws37 := ma_wf_new ws36_w
theorem ws37_c0 : ws37.2 0 = some (.inr (6, [.ref 1, .ref 16, .ref 31, .ref 32, .ref 33, .ref 35, .ref 39, .ref 40, .ref 41, .ref 42, .ref 43, .int (nI 0)])) := (nw_lt (M := ws36) (by decide +kernel)).trans ws36_c0
theorem ws37_c31 : ws37.2 31 = some (.inl (3, 2, .inr (va_up (va_up (fun _ => none) 0 (some 44)) 1 (some 59)))) := (nw_lt (M := ws36) (by decide +kernel)).trans ws36_c31
theorem ws37_c39 : ws37.2 39 = some (.inl (4, 4, .inr (va_up (fun _ => none) 0 (some 74)))) := (nw_lt (M := ws36) (by decide +kernel)).trans ws36_c39
theorem ws37_c76 : ws37.2 76 = some (.inr (3, ma_df 3)) := nw_at (M := ws36)
def ws38 : Mem := shtM ws37 76
theorem ws38_1 : ws38.1 = (78, 835) := by decide +kernel
theorem ws38_w : ma_wf ws38 := shtM_wf ws37_w (by decide +kernel)
theorem ws38_c0 : ws38.2 0 = some (.inr (6, [.ref 1, .ref 16, .ref 31, .ref 32, .ref 33, .ref 35, .ref 39, .ref 40, .ref 41, .ref 42, .ref 43, .int (nI 0)])) := (shtM_lt (M := ws37) (by decide +kernel) (by decide)).trans ws37_c0
theorem ws38_c31 : ws38.2 31 = some (.inl (3, 2, .inr (va_up (va_up (fun _ => none) 0 (some 44)) 1 (some 59)))) := (shtM_lt (M := ws37) (by decide +kernel) (by decide)).trans ws37_c31
theorem ws38_c39 : ws38.2 39 = some (.inl (4, 4, .inr (va_up (fun _ => none) 0 (some 74)))) := (shtM_lt (M := ws37) (by decide +kernel) (by decide)).trans ws37_c39
def ws39 : Mem := ma_put ws38 39 (.inl (4, 4, .inr (va_up (va_up (fun _ => none) 0 (some 74)) 1 (some 76))))
theorem ws39_1 : ws39.1 = (78, 835) := by decide +kernel
theorem ws39_w : ma_wf ws39 := ma_wf_put ws38_w (by decide +kernel)
theorem ws39_c0 : ws39.2 0 = some (.inr (6, [.ref 1, .ref 16, .ref 31, .ref 32, .ref 33, .ref 35, .ref 39, .ref 40, .ref 41, .ref 42, .ref 43, .int (nI 0)])) := (pu_ne (by decide)).trans ws38_c0
theorem ws39_c31 : ws39.2 31 = some (.inl (3, 2, .inr (va_up (va_up (fun _ => none) 0 (some 44)) 1 (some 59)))) := (pu_ne (by decide)).trans ws38_c31
theorem ws39_c39 : ws39.2 39 = some (.inl (4, 4, .inr (va_up (va_up (fun _ => none) 0 (some 74)) 1 (some 76)))) := pu_at
def ws40 : Mem := ma_new ws39 3 (.inr (3, ma_df 3))
theorem ws40_1 : ws40.1 = (79, 838) := by decide +kernel
theorem ws40_w : ma_wf ws40 := ma_wf_new ws39_w
theorem ws40_c0 : ws40.2 0 = some (.inr (6, [.ref 1, .ref 16, .ref 31, .ref 32, .ref 33, .ref 35, .ref 39, .ref 40, .ref 41, .ref 42, .ref 43, .int (nI 0)])) := (nw_lt (M := ws39) (by decide +kernel)).trans ws39_c0
theorem ws40_c31 : ws40.2 31 = some (.inl (3, 2, .inr (va_up (va_up (fun _ => none) 0 (some 44)) 1 (some 59)))) := (nw_lt (M := ws39) (by decide +kernel)).trans ws39_c31
theorem ws40_c39 : ws40.2 39 = some (.inl (4, 4, .inr (va_up (va_up (fun _ => none) 0 (some 74)) 1 (some 76)))) := (nw_lt (M := ws39) (by decide +kernel)).trans ws39_c39
theorem ws40_c78 : ws40.2 78 = some (.inr (3, ma_df 3)) := nw_at (M := ws39)
def ws41 : Mem := shtM ws40 78
theorem ws41_1 : ws41.1 = (80, 878) := by decide +kernel
theorem ws41_w : ma_wf ws41 := shtM_wf ws40_w (by decide +kernel)
theorem ws41_c0 : ws41.2 0 = some (.inr (6, [.ref 1, .ref 16, .ref 31, .ref 32, .ref 33, .ref 35, .ref 39, .ref 40, .ref 41, .ref 42, .ref 43, .int (nI 0)])) := (shtM_lt (M := ws40) (by decide +kernel) (by decide)).trans ws40_c0
theorem ws41_c31 : ws41.2 31 = some (.inl (3, 2, .inr (va_up (va_up (fun _ => none) 0 (some 44)) 1 (some 59)))) := (shtM_lt (M := ws40) (by decide +kernel) (by decide)).trans ws40_c31
theorem ws41_c39 : ws41.2 39 = some (.inl (4, 4, .inr (va_up (va_up (fun _ => none) 0 (some 74)) 1 (some 76)))) := (shtM_lt (M := ws40) (by decide +kernel) (by decide)).trans ws40_c39
def ws42 : Mem := ma_put ws41 39 (.inl (4, 4, .inr (va_up (va_up (va_up (fun _ => none) 0 (some 74)) 1 (some 76)) 2 (some 78))))
theorem ws42_1 : ws42.1 = (80, 878) := by decide +kernel
theorem ws42_w : ma_wf ws42 := ma_wf_put ws41_w (by decide +kernel)
theorem ws42_c0 : ws42.2 0 = some (.inr (6, [.ref 1, .ref 16, .ref 31, .ref 32, .ref 33, .ref 35, .ref 39, .ref 40, .ref 41, .ref 42, .ref 43, .int (nI 0)])) := (pu_ne (by decide)).trans ws41_c0
theorem ws42_c31 : ws42.2 31 = some (.inl (3, 2, .inr (va_up (va_up (fun _ => none) 0 (some 44)) 1 (some 59)))) := (pu_ne (by decide)).trans ws41_c31
theorem ws42_c39 : ws42.2 39 = some (.inl (4, 4, .inr (va_up (va_up (va_up (fun _ => none) 0 (some 74)) 1 (some 76)) 2 (some 78)))) := pu_at
def ws43 : Mem := ma_new ws42 3 (.inr (3, ma_df 3))
theorem ws43_1 : ws43.1 = (81, 881) := by decide +kernel
theorem ws43_w : ma_wf ws43 := ma_wf_new ws42_w
theorem ws43_c0 : ws43.2 0 = some (.inr (6, [.ref 1, .ref 16, .ref 31, .ref 32, .ref 33, .ref 35, .ref 39, .ref 40, .ref 41, .ref 42, .ref 43, .int (nI 0)])) := (nw_lt (M := ws42) (by decide +kernel)).trans ws42_c0
theorem ws43_c31 : ws43.2 31 = some (.inl (3, 2, .inr (va_up (va_up (fun _ => none) 0 (some 44)) 1 (some 59)))) := (nw_lt (M := ws42) (by decide +kernel)).trans ws42_c31
theorem ws43_c39 : ws43.2 39 = some (.inl (4, 4, .inr (va_up (va_up (va_up (fun _ => none) 0 (some 74)) 1 (some 76)) 2 (some 78)))) := (nw_lt (M := ws42) (by decide +kernel)).trans ws42_c39
theorem ws43_c80 : ws43.2 80 = some (.inr (3, ma_df 3)) := nw_at (M := ws42)
def ws44 : Mem := shtM ws43 80
theorem ws44_1 : ws44.1 = (82, 921) := by decide +kernel
theorem ws44_w : ma_wf ws44 := shtM_wf ws43_w (by decide +kernel)
theorem ws44_c0 : ws44.2 0 = some (.inr (6, [.ref 1, .ref 16, .ref 31, .ref 32, .ref 33, .ref 35, .ref 39, .ref 40, .ref 41, .ref 42, .ref 43, .int (nI 0)])) := (shtM_lt (M := ws43) (by decide +kernel) (by decide)).trans ws43_c0
theorem ws44_c31 : ws44.2 31 = some (.inl (3, 2, .inr (va_up (va_up (fun _ => none) 0 (some 44)) 1 (some 59)))) := (shtM_lt (M := ws43) (by decide +kernel) (by decide)).trans ws43_c31
theorem ws44_c39 : ws44.2 39 = some (.inl (4, 4, .inr (va_up (va_up (va_up (fun _ => none) 0 (some 74)) 1 (some 76)) 2 (some 78)))) := (shtM_lt (M := ws43) (by decide +kernel) (by decide)).trans ws43_c39
def ws45 : Mem := ma_put ws44 39 (.inl (4, 4, .inr (va_up (va_up (va_up (va_up (fun _ => none) 0 (some 74)) 1 (some 76)) 2 (some 78)) 3 (some 80))))
theorem ws45_1 : ws45.1 = (82, 921) := by decide +kernel
theorem ws45_w : ma_wf ws45 := ma_wf_put ws44_w (by decide +kernel)
theorem ws45_c0 : ws45.2 0 = some (.inr (6, [.ref 1, .ref 16, .ref 31, .ref 32, .ref 33, .ref 35, .ref 39, .ref 40, .ref 41, .ref 42, .ref 43, .int (nI 0)])) := (pu_ne (by decide)).trans ws44_c0
theorem ws45_c31 : ws45.2 31 = some (.inl (3, 2, .inr (va_up (va_up (fun _ => none) 0 (some 44)) 1 (some 59)))) := (pu_ne (by decide)).trans ws44_c31
theorem ws45_c39 : ws45.2 39 = some (.inl (4, 4, .inr (va_up (va_up (va_up (va_up (fun _ => none) 0 (some 74)) 1 (some 76)) 2 (some 78)) 3 (some 80)))) := pu_at
def wsE : Mem := ws45
theorem wsE_1 : wsE.1 = (82, 921) := ws45_1
theorem wsE_w : ma_wf wsE := ws45_w
theorem wsE_c0 : wsE.2 0 = some (.inr (6, [.ref 1, .ref 16, .ref 31, .ref 32, .ref 33, .ref 35, .ref 39, .ref 40, .ref 41, .ref 42, .ref 43, .int (nI 0)])) := ws45_c0
theorem c_X6_init {d : Nat} : Cl (d + 3) mX6_init [.ref 0] ws0 none wsE := by
  refine Cl_of_V (it := true) rfl (fun _ => rfl) (Nat.le_of_ble_eq_true rfl) (by decide +kernel) (by decide +kernel) ?_
  show V cX6_init 2 RX6 true (d + 3) none none 82 921 0 [.ref 0, .null] [] ws0 _
  refine V_aload_n dX6_init_0 rfl rfl rfl ?_
  refine V_objInit (st := []) dX6_init_1 oi_X6 oi_inst oi_code (Nat.le_of_ble_eq_true rfl) rfl ?_
  refine V_aload_n dX6_init_4 rfl rfl rfl ?_
  refine V_new (ci := 0) (M := ws0) dX6_init_5 (by decide) nw_X6_7 nk_0 ni_0 (by decide) (by decide +kernel) (by decide +kernel) rfl ?_ (fun _ => rfl)
  show V cX6_init 2 RX6 true (d + 3) none none 82 921 8 [.ref 0, .null] [.ref 1, .ref 0] ws1 _
  refine V_dup dX6_init_8 rfl rfl ?_
  refine V_callI (As := []) (st := [.ref 1, .ref 0]) (M := ws1) dX6_init_9 cl_X6_9 (c_X0_init (d := d) (a := 1) (M := ws1) (by decide +kernel) ws1_c1) rfl rfl (Nat.le_of_ble_eq_true rfl) (by decide +kernel) (by decide +kernel) rfl ?_
  show V cX6_init 2 RX6 true (d + 3) none none 82 921 12 [.ref 0, .null] [.ref 1, .ref 0] ws2 _
  refine V_putF (M := ws2) dX6_init_12 fl_X6_10 rfl rfl rfl (Or.inl ⟨_, rfl⟩) ws2_c0 (by decide) rfl ?_
  show V cX6_init 2 RX6 true (d + 3) none none 82 921 15 [.ref 0, .null] [] ws3 _
  refine V_aload_n dX6_init_15 rfl rfl rfl ?_
  refine V_new (ci := 0) (M := ws3) dX6_init_16 (by decide) nw_X6_7 nk_0 ni_0 (by decide) (by decide +kernel) (by decide +kernel) rfl ?_ (fun _ => rfl)
  show V cX6_init 2 RX6 true (d + 3) none none 82 921 19 [.ref 0, .null] [.ref 16, .ref 0] ws4 _
  refine V_dup dX6_init_19 rfl rfl ?_
  refine V_callI (As := []) (st := [.ref 16, .ref 0]) (M := ws4) dX6_init_20 cl_X6_9 (c_X0_init (d := d) (a := 16) (M := ws4) (by decide +kernel) ws4_c16) rfl rfl (Nat.le_of_ble_eq_true rfl) (by decide +kernel) (by decide +kernel) rfl ?_
  show V cX6_init 2 RX6 true (d + 3) none none 82 921 23 [.ref 0, .null] [.ref 16, .ref 0] ws5 _
  refine V_putF (M := ws5) dX6_init_23 fl_X6_16 rfl rfl rfl (Or.inl ⟨_, rfl⟩) ws5_c0 (by decide) rfl ?_
  show V cX6_init 2 RX6 true (d + 3) none none 82 921 26 [.ref 0, .null] [] ws6 _
  refine V_aload_n dX6_init_26 rfl rfl rfl ?_
  refine V_iconst (v := (nI 2)) dX6_init_27 rfl rfl ?_
  refine V_anew (t := 3) (ci := 0) (N := 2) (M := ws6) dX6_init_28 (Or.inl ⟨rfl, rfl⟩) nw_X6_7 rfl (by decide) (by decide +kernel) (by decide +kernel) rfl ?_
  show V cX6_init 2 RX6 true (d + 3) none none 82 921 31 [.ref 0, .null] [.ref 31, .ref 0] ws7 _
  refine V_putF (M := ws7) dX6_init_31 fl_X6_19 rfl rfl rfl (Or.inr ⟨_, rfl⟩) ws7_c0 (by decide) rfl ?_
  show V cX6_init 2 RX6 true (d + 3) none none 82 921 34 [.ref 0, .null] [] ws8 _
  refine V_aload_n dX6_init_34 rfl rfl rfl ?_
  refine V_iconst (v := (nI 2)) dX6_init_35 rfl rfl ?_
  refine V_newa (t := 2) (N := 2) (M := ws8) dX6_init_36 rfl (Or.inr (Or.inr ⟨rfl, rfl⟩)) na_boolean rfl (by decide) (by decide +kernel) (by decide +kernel) rfl ?_
  show V cX6_init 2 RX6 true (d + 3) none none 82 921 38 [.ref 0, .null] [.ref 32, .ref 0] ws9 _
  refine V_putF (M := ws9) dX6_init_38 fl_X6_23 rfl rfl rfl (Or.inr ⟨_, rfl⟩) ws9_c0 (by decide) rfl ?_
  show V cX6_init 2 RX6 true (d + 3) none none 82 921 41 [.ref 0, .null] [] ws10 _
  refine V_aload_n dX6_init_41 rfl rfl rfl ?_
  refine V_new (ci := 5) (M := ws10) dX6_init_42 (by decide) nw_X6_27 nk_5 ni_5 (by decide) (by decide +kernel) (by decide +kernel) rfl ?_ (fun _ => rfl)
  show V cX6_init 2 RX6 true (d + 3) none none 82 921 45 [.ref 0, .null] [.ref 33, .ref 0] ws11 _
  refine V_dup dX6_init_45 rfl rfl ?_
  refine V_callN (As := []) (st := [.ref 33, .ref 0]) (M := ws11) dX6_init_46 cl_X6_29 (c_X5_init (d := d + 1) (a := 33) (M := ws11) (by decide +kernel) ws11_c33) rfl rfl (Nat.le_of_ble_eq_true rfl) (by decide +kernel) (by decide +kernel) rfl ?_
  show V cX6_init 2 RX6 true (d + 3) none none 82 921 49 [.ref 0, .null] [.ref 33, .ref 0] ws12 _
  refine V_putF (M := ws12) dX6_init_49 fl_X6_30 rfl rfl rfl (Or.inl ⟨_, rfl⟩) ws12_c0 (by decide) rfl ?_
  show V cX6_init 2 RX6 true (d + 3) none none 82 921 52 [.ref 0, .null] [] ws13 _
  refine V_aload_n dX6_init_52 rfl rfl rfl ?_
  refine V_new (ci := 2) (M := ws13) dX6_init_53 (by decide) nw_X6_34 nk_2 ni_2 (by decide) (by decide +kernel) (by decide +kernel) rfl ?_ (fun _ => rfl)
  show V cX6_init 2 RX6 true (d + 3) none none 82 921 56 [.ref 0, .null] [.ref 35, .ref 0] ws14 _
  refine V_dup dX6_init_56 rfl rfl ?_
  refine V_callN (As := []) (st := [.ref 35, .ref 0]) (M := ws14) dX6_init_57 cl_X6_36 (c_X2_init (d := d + 1) (a := 35) (M := ws14) (by decide +kernel) ws14_c35) rfl rfl (Nat.le_of_ble_eq_true rfl) (by decide +kernel) (by decide +kernel) rfl ?_
  show V cX6_init 2 RX6 true (d + 3) none none 82 921 60 [.ref 0, .null] [.ref 35, .ref 0] ws15 _
  refine V_putF (M := ws15) dX6_init_60 fl_X6_37 rfl rfl rfl (Or.inl ⟨_, rfl⟩) ws15_c0 (by decide) rfl ?_
  show V cX6_init 2 RX6 true (d + 3) none none 82 921 63 [.ref 0, .null] [] ws16 _
  refine V_aload_n dX6_init_63 rfl rfl rfl ?_
  refine V_iconst (v := (nI 4)) dX6_init_64 rfl rfl ?_
  refine V_anew (t := 4) (ci := 3) (N := 4) (M := ws16) dX6_init_65 (Or.inr (Or.inl ⟨rfl, rfl⟩)) nw_X6_41 rfl (by decide) (by decide +kernel) (by decide +kernel) rfl ?_
  show V cX6_init 2 RX6 true (d + 3) none none 82 921 68 [.ref 0, .null] [.ref 39, .ref 0] ws17 _
  refine V_putF (M := ws17) dX6_init_68 fl_X6_43 rfl rfl rfl (Or.inr ⟨_, rfl⟩) ws17_c0 (by decide) rfl ?_
  show V cX6_init 2 RX6 true (d + 3) none none 82 921 71 [.ref 0, .null] [] ws18 _
  refine V_aload_n dX6_init_71 rfl rfl rfl ?_
  refine V_new (ci := 1) (M := ws18) dX6_init_72 (by decide) nw_X6_47 nk_1 ni_1 (by decide) (by decide +kernel) (by decide +kernel) rfl ?_ (fun _ => rfl)
  show V cX6_init 2 RX6 true (d + 3) none none 82 921 75 [.ref 0, .null] [.ref 40, .ref 0] ws19 _
  refine V_dup dX6_init_75 rfl rfl ?_
  refine V_callN (As := []) (st := [.ref 40, .ref 0]) (M := ws19) dX6_init_76 cl_X6_49 (c_X1_init (d := d + 1) (a := 40) (M := ws19)) rfl rfl (Nat.le_of_ble_eq_true rfl) (by decide +kernel) (by decide +kernel) rfl ?_
  refine V_putF (M := ws19) dX6_init_79 fl_X6_50 rfl rfl rfl (Or.inl ⟨_, rfl⟩) ws19_c0 (by decide) rfl ?_
  show V cX6_init 2 RX6 true (d + 3) none none 82 921 82 [.ref 0, .null] [] ws20 _
  refine V_aload_n dX6_init_82 rfl rfl rfl ?_
  refine V_bipush (v := (nI 6)) dX6_init_83 rfl rfl ?_
  refine V_newa (t := 0) (N := 6) (M := ws20) dX6_init_85 rfl (Or.inl ⟨rfl, rfl⟩) na_int rfl (by decide) (by decide +kernel) (by decide +kernel) rfl ?_
  show V cX6_init 2 RX6 true (d + 3) none none 82 921 87 [.ref 0, .null] [.ref 41, .ref 0] ws21 _
  refine V_putF (M := ws21) dX6_init_87 fl_X6_54 rfl rfl rfl (Or.inr ⟨_, rfl⟩) ws21_c0 (by decide) rfl ?_
  show V cX6_init 2 RX6 true (d + 3) none none 82 921 90 [.ref 0, .null] [] ws22 _
  refine V_aload_n dX6_init_90 rfl rfl rfl ?_
  refine V_bipush (v := (nI 6)) dX6_init_91 rfl rfl ?_
  refine V_newa (t := 0) (N := 6) (M := ws22) dX6_init_93 rfl (Or.inl ⟨rfl, rfl⟩) na_int rfl (by decide) (by decide +kernel) (by decide +kernel) rfl ?_
  show V cX6_init 2 RX6 true (d + 3) none none 82 921 95 [.ref 0, .null] [.ref 42, .ref 0] ws23 _
  refine V_putF (M := ws23) dX6_init_95 fl_X6_58 rfl rfl rfl (Or.inr ⟨_, rfl⟩) ws23_c0 (by decide) rfl ?_
  show V cX6_init 2 RX6 true (d + 3) none none 82 921 98 [.ref 0, .null] [] ws24 _
  refine V_aload_n dX6_init_98 rfl rfl rfl ?_
  refine V_sipush (v := (nI 164)) dX6_init_99 rfl rfl ?_
  refine V_newa (t := 0) (N := 164) (M := ws24) dX6_init_102 rfl (Or.inl ⟨rfl, rfl⟩) na_int rfl (by decide) (by decide +kernel) (by decide +kernel) rfl ?_
  show V cX6_init 2 RX6 true (d + 3) none none 82 921 104 [.ref 0, .null] [.ref 43, .ref 0] ws25 _
  refine V_putF (M := ws25) dX6_init_104 fl_X6_61 rfl rfl rfl (Or.inr ⟨_, rfl⟩) ws25_c0 (by decide) rfl ?_
  show V cX6_init 2 RX6 true (d + 3) none none 82 921 107 [.ref 0, .null] [] ws26 _
  refine V_aload_n dX6_init_107 rfl rfl rfl ?_
  refine V_iconst (v := (nI 0)) dX6_init_108 rfl rfl ?_
  refine V_putI (M := ws26) dX6_init_109 fl_X6_64 rfl (Or.inl rfl) ws26_c0 (by decide) rfl ?_
  show V cX6_init 2 RX6 true (d + 3) none none 82 921 112 [.ref 0, .null] [] ws27 _
  refine V_iconst (v := (nI 0)) dX6_init_112 rfl rfl ?_
  refine V_istore_n dX6_init_113 rfl (by decide) rfl rfl rfl ?_
  refine V_iload_n (x := (nI 0)) dX6_init_114 rfl rfl rfl ?_
  refine V_iconst (v := (nI 2)) dX6_init_115 rfl rfl ?_
  refine V_icmp_ge (tgt := 138) dX6_init_116 rfl rfl (fun h => absurd h (by decide)) (fun _ => ?_)
  refine V_aload_n dX6_init_119 rfl rfl rfl ?_
  refine V_getf (v := .ref 31) (M := ws27) dX6_init_120 fl_X6_19 ws27_c0 rfl rfl ?_
  refine V_iload_n (x := (nI 0)) dX6_init_123 rfl rfl rfl ?_
  refine V_new (ci := 0) (M := ws27) dX6_init_124 (by decide) nw_X6_7 nk_0 ni_0 (by decide) (by decide +kernel) (by decide +kernel) rfl ?_ (fun _ => rfl)
  show V cX6_init 2 RX6 true (d + 3) none none 82 921 127 [.ref 0, .int (nI 0)] [.ref 44, .int (nI 0), .ref 31] ws28 _
  refine V_dup dX6_init_127 rfl rfl ?_
  refine V_callI (As := []) (st := [.ref 44, .int (nI 0), .ref 31]) (M := ws28) dX6_init_128 cl_X6_9 (c_X0_init (d := d) (a := 44) (M := ws28) (by decide +kernel) ws28_c44) rfl rfl (Nat.le_of_ble_eq_true rfl) (by decide +kernel) (by decide +kernel) rfl ?_
  show V cX6_init 2 RX6 true (d + 3) none none 82 921 131 [.ref 0, .int (nI 0)] [.ref 44, .int (nI 0), .ref 31] ws29 _
  refine V_aast (j := 0) (t := 3) (ci := 0) (b := 44) (M := ws29) dX6_init_131 ws29_c31 hsM_at (Or.inl ⟨rfl, rfl⟩) rfl (by decide) (by decide) rfl ?_
  show V cX6_init 2 RX6 true (d + 3) none none 82 921 132 [.ref 0, .int (nI 0)] [] ws30 _
  refine V_iinc (x := nI 0) (v := nI 1) dX6_init_132 rfl (nI_1 0) rfl rfl rfl ?_
  refine V_goto (tgt := 114) dX6_init_135 rfl ?_
  refine V_iload_n (x := (nI 1)) dX6_init_114 rfl rfl rfl ?_
  refine V_iconst (v := (nI 2)) dX6_init_115 rfl rfl ?_
  refine V_icmp_ge (tgt := 138) dX6_init_116 rfl rfl (fun h => absurd h (by decide)) (fun _ => ?_)
  refine V_aload_n dX6_init_119 rfl rfl rfl ?_
  refine V_getf (v := .ref 31) (M := ws30) dX6_init_120 fl_X6_19 ws30_c0 rfl rfl ?_
  refine V_iload_n (x := (nI 1)) dX6_init_123 rfl rfl rfl ?_
  refine V_new (ci := 0) (M := ws30) dX6_init_124 (by decide) nw_X6_7 nk_0 ni_0 (by decide) (by decide +kernel) (by decide +kernel) rfl ?_ (fun _ => rfl)
  show V cX6_init 2 RX6 true (d + 3) none none 82 921 127 [.ref 0, .int (nI 1)] [.ref 59, .int (nI 1), .ref 31] ws31 _
  refine V_dup dX6_init_127 rfl rfl ?_
  refine V_callI (As := []) (st := [.ref 59, .int (nI 1), .ref 31]) (M := ws31) dX6_init_128 cl_X6_9 (c_X0_init (d := d) (a := 59) (M := ws31) (by decide +kernel) ws31_c59) rfl rfl (Nat.le_of_ble_eq_true rfl) (by decide +kernel) (by decide +kernel) rfl ?_
  show V cX6_init 2 RX6 true (d + 3) none none 82 921 131 [.ref 0, .int (nI 1)] [.ref 59, .int (nI 1), .ref 31] ws32 _
  refine V_aast (j := 1) (t := 3) (ci := 0) (b := 59) (M := ws32) dX6_init_131 ws32_c31 hsM_at (Or.inl ⟨rfl, rfl⟩) rfl (by decide) (by decide) rfl ?_
  show V cX6_init 2 RX6 true (d + 3) none none 82 921 132 [.ref 0, .int (nI 1)] [] ws33 _
  refine V_iinc (x := nI 1) (v := nI 2) dX6_init_132 rfl (nI_1 1) rfl rfl rfl ?_
  refine V_goto (tgt := 114) dX6_init_135 rfl ?_
  refine V_iload_n (x := (nI 2)) dX6_init_114 rfl rfl rfl ?_
  refine V_iconst (v := (nI 2)) dX6_init_115 rfl rfl ?_
  refine V_icmp_ge (tgt := 138) dX6_init_116 rfl rfl (fun _ => ?_) (fun h => absurd (by decide) h)
  refine V_iconst (v := (nI 0)) dX6_init_138 rfl rfl ?_
  refine V_istore_n dX6_init_139 rfl (by decide) rfl rfl rfl ?_
  refine V_iload_n (x := (nI 0)) dX6_init_140 rfl rfl rfl ?_
  refine V_iconst (v := (nI 4)) dX6_init_141 rfl rfl ?_
  refine V_icmp_ge (tgt := 164) dX6_init_142 rfl rfl (fun h => absurd h (by decide)) (fun _ => ?_)
  refine V_aload_n dX6_init_145 rfl rfl rfl ?_
  refine V_getf (v := .ref 39) (M := ws33) dX6_init_146 fl_X6_43 ws33_c0 rfl rfl ?_
  refine V_iload_n (x := (nI 0)) dX6_init_149 rfl rfl rfl ?_
  refine V_new (ci := 3) (M := ws33) dX6_init_150 (by decide) nw_X6_41 nk_3 ni_3 (by decide) (by decide +kernel) (by decide +kernel) rfl ?_ (fun _ => rfl)
  show V cX6_init 2 RX6 true (d + 3) none none 82 921 153 [.ref 0, .int (nI 0)] [.ref 74, .int (nI 0), .ref 39] ws34 _
  refine V_dup dX6_init_153 rfl rfl ?_
  refine V_callN (As := []) (st := [.ref 74, .int (nI 0), .ref 39]) (M := ws34) dX6_init_154 cl_X6_68 (c_X3_init (d := d + 1) (a := 74) (M := ws34) (by decide +kernel) ws34_c74) rfl rfl (Nat.le_of_ble_eq_true rfl) (by decide +kernel) (by decide +kernel) rfl ?_
  show V cX6_init 2 RX6 true (d + 3) none none 82 921 157 [.ref 0, .int (nI 0)] [.ref 74, .int (nI 0), .ref 39] ws35 _
  refine V_aast (j := 0) (t := 4) (ci := 3) (b := 74) (M := ws35) dX6_init_157 ws35_c39 pu_at (Or.inr (Or.inl ⟨rfl, rfl⟩)) rfl (by decide) (by decide) rfl ?_
  show V cX6_init 2 RX6 true (d + 3) none none 82 921 158 [.ref 0, .int (nI 0)] [] ws36 _
  refine V_iinc (x := nI 0) (v := nI 1) dX6_init_158 rfl (nI_1 0) rfl rfl rfl ?_
  refine V_goto (tgt := 140) dX6_init_161 rfl ?_
  refine V_iload_n (x := (nI 1)) dX6_init_140 rfl rfl rfl ?_
  refine V_iconst (v := (nI 4)) dX6_init_141 rfl rfl ?_
  refine V_icmp_ge (tgt := 164) dX6_init_142 rfl rfl (fun h => absurd h (by decide)) (fun _ => ?_)
  refine V_aload_n dX6_init_145 rfl rfl rfl ?_
  refine V_getf (v := .ref 39) (M := ws36) dX6_init_146 fl_X6_43 ws36_c0 rfl rfl ?_
  refine V_iload_n (x := (nI 1)) dX6_init_149 rfl rfl rfl ?_
  refine V_new (ci := 3) (M := ws36) dX6_init_150 (by decide) nw_X6_41 nk_3 ni_3 (by decide) (by decide +kernel) (by decide +kernel) rfl ?_ (fun _ => rfl)
  show V cX6_init 2 RX6 true (d + 3) none none 82 921 153 [.ref 0, .int (nI 1)] [.ref 76, .int (nI 1), .ref 39] ws37 _
  refine V_dup dX6_init_153 rfl rfl ?_
  refine V_callN (As := []) (st := [.ref 76, .int (nI 1), .ref 39]) (M := ws37) dX6_init_154 cl_X6_68 (c_X3_init (d := d + 1) (a := 76) (M := ws37) (by decide +kernel) ws37_c76) rfl rfl (Nat.le_of_ble_eq_true rfl) (by decide +kernel) (by decide +kernel) rfl ?_
  show V cX6_init 2 RX6 true (d + 3) none none 82 921 157 [.ref 0, .int (nI 1)] [.ref 76, .int (nI 1), .ref 39] ws38 _
  refine V_aast (j := 1) (t := 4) (ci := 3) (b := 76) (M := ws38) dX6_init_157 ws38_c39 pu_at (Or.inr (Or.inl ⟨rfl, rfl⟩)) rfl (by decide) (by decide) rfl ?_
  show V cX6_init 2 RX6 true (d + 3) none none 82 921 158 [.ref 0, .int (nI 1)] [] ws39 _
  refine V_iinc (x := nI 1) (v := nI 2) dX6_init_158 rfl (nI_1 1) rfl rfl rfl ?_
  refine V_goto (tgt := 140) dX6_init_161 rfl ?_
  refine V_iload_n (x := (nI 2)) dX6_init_140 rfl rfl rfl ?_
  refine V_iconst (v := (nI 4)) dX6_init_141 rfl rfl ?_
  refine V_icmp_ge (tgt := 164) dX6_init_142 rfl rfl (fun h => absurd h (by decide)) (fun _ => ?_)
  refine V_aload_n dX6_init_145 rfl rfl rfl ?_
  refine V_getf (v := .ref 39) (M := ws39) dX6_init_146 fl_X6_43 ws39_c0 rfl rfl ?_
  refine V_iload_n (x := (nI 2)) dX6_init_149 rfl rfl rfl ?_
  refine V_new (ci := 3) (M := ws39) dX6_init_150 (by decide) nw_X6_41 nk_3 ni_3 (by decide) (by decide +kernel) (by decide +kernel) rfl ?_ (fun _ => rfl)
  show V cX6_init 2 RX6 true (d + 3) none none 82 921 153 [.ref 0, .int (nI 2)] [.ref 78, .int (nI 2), .ref 39] ws40 _
  refine V_dup dX6_init_153 rfl rfl ?_
  refine V_callN (As := []) (st := [.ref 78, .int (nI 2), .ref 39]) (M := ws40) dX6_init_154 cl_X6_68 (c_X3_init (d := d + 1) (a := 78) (M := ws40) (by decide +kernel) ws40_c78) rfl rfl (Nat.le_of_ble_eq_true rfl) (by decide +kernel) (by decide +kernel) rfl ?_
  show V cX6_init 2 RX6 true (d + 3) none none 82 921 157 [.ref 0, .int (nI 2)] [.ref 78, .int (nI 2), .ref 39] ws41 _
  refine V_aast (j := 2) (t := 4) (ci := 3) (b := 78) (M := ws41) dX6_init_157 ws41_c39 pu_at (Or.inr (Or.inl ⟨rfl, rfl⟩)) rfl (by decide) (by decide) rfl ?_
  show V cX6_init 2 RX6 true (d + 3) none none 82 921 158 [.ref 0, .int (nI 2)] [] ws42 _
  refine V_iinc (x := nI 2) (v := nI 3) dX6_init_158 rfl (nI_1 2) rfl rfl rfl ?_
  refine V_goto (tgt := 140) dX6_init_161 rfl ?_
  refine V_iload_n (x := (nI 3)) dX6_init_140 rfl rfl rfl ?_
  refine V_iconst (v := (nI 4)) dX6_init_141 rfl rfl ?_
  refine V_icmp_ge (tgt := 164) dX6_init_142 rfl rfl (fun h => absurd h (by decide)) (fun _ => ?_)
  refine V_aload_n dX6_init_145 rfl rfl rfl ?_
  refine V_getf (v := .ref 39) (M := ws42) dX6_init_146 fl_X6_43 ws42_c0 rfl rfl ?_
  refine V_iload_n (x := (nI 3)) dX6_init_149 rfl rfl rfl ?_
  refine V_new (ci := 3) (M := ws42) dX6_init_150 (by decide) nw_X6_41 nk_3 ni_3 (by decide) (by decide +kernel) (by decide +kernel) rfl ?_ (fun _ => rfl)
  show V cX6_init 2 RX6 true (d + 3) none none 82 921 153 [.ref 0, .int (nI 3)] [.ref 80, .int (nI 3), .ref 39] ws43 _
  refine V_dup dX6_init_153 rfl rfl ?_
  refine V_callN (As := []) (st := [.ref 80, .int (nI 3), .ref 39]) (M := ws43) dX6_init_154 cl_X6_68 (c_X3_init (d := d + 1) (a := 80) (M := ws43) (by decide +kernel) ws43_c80) rfl rfl (Nat.le_of_ble_eq_true rfl) (by decide +kernel) (by decide +kernel) rfl ?_
  show V cX6_init 2 RX6 true (d + 3) none none 82 921 157 [.ref 0, .int (nI 3)] [.ref 80, .int (nI 3), .ref 39] ws44 _
  refine V_aast (j := 3) (t := 4) (ci := 3) (b := 80) (M := ws44) dX6_init_157 ws44_c39 pu_at (Or.inr (Or.inl ⟨rfl, rfl⟩)) rfl (by decide) (by decide) rfl ?_
  show V cX6_init 2 RX6 true (d + 3) none none 82 921 158 [.ref 0, .int (nI 3)] [] ws45 _
  refine V_iinc (x := nI 3) (v := nI 4) dX6_init_158 rfl (nI_1 3) rfl rfl rfl ?_
  refine V_goto (tgt := 140) dX6_init_161 rfl ?_
  refine V_iload_n (x := (nI 4)) dX6_init_140 rfl rfl rfl ?_
  refine V_iconst (v := (nI 4)) dX6_init_141 rfl rfl ?_
  refine V_icmp_ge (tgt := 164) dX6_init_142 rfl rfl (fun _ => ?_) (fun h => absurd (by decide) h)
  exact V_return dX6_init_164 rfl ⟨rfl, rfl⟩
