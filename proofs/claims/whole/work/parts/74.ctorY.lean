/-! THE CONSTRUCTOR OF the reference (by program, gen_ctor.py) -/
def ym0 : Mem := ma_new wsE 29 (.inr (7, ma_df 7))
theorem ym0_1 : ym0.1 = (83, 950) := by decide +kernel
theorem ym0_w : ma_wf ym0 := ma_wf_new wsE_w
theorem ym0_c82 : ym0.2 82 = some (.inr (7, [.null, .int 0, .null, .int 0, .int 0, .int 0, .null, .int 0, .int 0, .int 0, .int 0, .int 0, .int 0, .int 0, .int 0, .null, .null, .null, .int 0, .int 0, .int 0, .null, .int 0, .null, .null, .null, .null, .null, .int 0])) := nw_at (M := wsE)
def ym1 : Mem := ma_new ym0 450 (.inl (0, 450, .inl (fun _ => 0)))
theorem ym1_1 : ym1.1 = (84, 1400) := by decide +kernel
theorem ym1_w : ma_wf ym1 := ma_wf_new ym0_w
theorem ym1_c82 : ym1.2 82 = some (.inr (7, [.null, .int 0, .null, .int 0, .int 0, .int 0, .null, .int 0, .int 0, .int 0, .int 0, .int 0, .int 0, .int 0, .int 0, .null, .null, .null, .int 0, .int 0, .int 0, .null, .int 0, .null, .null, .null, .null, .null, .int 0])) := (nw_lt (M := ym0) (by decide +kernel)).trans ym0_c82
def ym2 : Mem := ma_put ym1 82 (.inr (7, [.ref 83, .int 0, .null, .int 0, .int 0, .int 0, .null, .int 0, .int 0, .int 0, .int 0, .int 0, .int 0, .int 0, .int 0, .null, .null, .null, .int 0, .int 0, .int 0, .null, .int 0, .null, .null, .null, .null, .null, .int 0]))
theorem ym2_1 : ym2.1 = (84, 1400) := by decide +kernel
theorem ym2_w : ma_wf ym2 := ma_wf_put ym1_w (by decide +kernel)
theorem ym2_c82 : ym2.2 82 = some (.inr (7, [.ref 83, .int 0, .null, .int 0, .int 0, .int 0, .null, .int 0, .int 0, .int 0, .int 0, .int 0, .int 0, .int 0, .int 0, .null, .null, .null, .int 0, .int 0, .int 0, .null, .int 0, .null, .null, .null, .null, .null, .int 0])) := pu_at
def ym3 : Mem := ma_put ym2 82 (.inr (7, [.ref 83, .int (nI 4), .null, .int 0, .int 0, .int 0, .null, .int 0, .int 0, .int 0, .int 0, .int 0, .int 0, .int 0, .int 0, .null, .null, .null, .int 0, .int 0, .int 0, .null, .int 0, .null, .null, .null, .null, .null, .int 0]))
theorem ym3_1 : ym3.1 = (84, 1400) := by decide +kernel
theorem ym3_w : ma_wf ym3 := ma_wf_put ym2_w (by decide +kernel)
theorem ym3_c82 : ym3.2 82 = some (.inr (7, [.ref 83, .int (nI 4), .null, .int 0, .int 0, .int 0, .null, .int 0, .int 0, .int 0, .int 0, .int 0, .int 0, .int 0, .int 0, .null, .null, .null, .int 0, .int 0, .int 0, .null, .int 0, .null, .null, .null, .null, .null, .int 0])) := pu_at
def ym4 : Mem := ma_new ym3 75 (.inl (0, 75, .inl (fun _ => 0)))
theorem ym4_1 : ym4.1 = (85, 1475) := by decide +kernel
theorem ym4_w : ma_wf ym4 := ma_wf_new ym3_w
theorem ym4_c82 : ym4.2 82 = some (.inr (7, [.ref 83, .int (nI 4), .null, .int 0, .int 0, .int 0, .null, .int 0, .int 0, .int 0, .int 0, .int 0, .int 0, .int 0, .int 0, .null, .null, .null, .int 0, .int 0, .int 0, .null, .int 0, .null, .null, .null, .null, .null, .int 0])) := (nw_lt (M := ym3) (by decide +kernel)).trans ym3_c82
def ym5 : Mem := ma_put ym4 82 (.inr (7, [.ref 83, .int (nI 4), .ref 84, .int 0, .int 0, .int 0, .null, .int 0, .int 0, .int 0, .int 0, .int 0, .int 0, .int 0, .int 0, .null, .null, .null, .int 0, .int 0, .int 0, .null, .int 0, .null, .null, .null, .null, .null, .int 0]))
theorem ym5_1 : ym5.1 = (85, 1475) := by decide +kernel
theorem ym5_w : ma_wf ym5 := ma_wf_put ym4_w (by decide +kernel)
theorem ym5_c82 : ym5.2 82 = some (.inr (7, [.ref 83, .int (nI 4), .ref 84, .int 0, .int 0, .int 0, .null, .int 0, .int 0, .int 0, .int 0, .int 0, .int 0, .int 0, .int 0, .null, .null, .null, .int 0, .int 0, .int 0, .null, .int 0, .null, .null, .null, .null, .null, .int 0])) := pu_at
def ym6 : Mem := ma_new ym5 160 (.inl (0, 160, .inl (fun _ => 0)))
theorem ym6_1 : ym6.1 = (86, 1635) := by decide +kernel
theorem ym6_w : ma_wf ym6 := ma_wf_new ym5_w
theorem ym6_c82 : ym6.2 82 = some (.inr (7, [.ref 83, .int (nI 4), .ref 84, .int 0, .int 0, .int 0, .null, .int 0, .int 0, .int 0, .int 0, .int 0, .int 0, .int 0, .int 0, .null, .null, .null, .int 0, .int 0, .int 0, .null, .int 0, .null, .null, .null, .null, .null, .int 0])) := (nw_lt (M := ym5) (by decide +kernel)).trans ym5_c82
def ym7 : Mem := ma_put ym6 82 (.inr (7, [.ref 83, .int (nI 4), .ref 84, .int 0, .int 0, .int 0, .ref 85, .int 0, .int 0, .int 0, .int 0, .int 0, .int 0, .int 0, .int 0, .null, .null, .null, .int 0, .int 0, .int 0, .null, .int 0, .null, .null, .null, .null, .null, .int 0]))
theorem ym7_1 : ym7.1 = (86, 1635) := by decide +kernel
theorem ym7_w : ma_wf ym7 := ma_wf_put ym6_w (by decide +kernel)
theorem ym7_c82 : ym7.2 82 = some (.inr (7, [.ref 83, .int (nI 4), .ref 84, .int 0, .int 0, .int 0, .ref 85, .int 0, .int 0, .int 0, .int 0, .int 0, .int 0, .int 0, .int 0, .null, .null, .null, .int 0, .int 0, .int 0, .null, .int 0, .null, .null, .null, .null, .null, .int 0])) := pu_at
def ym8 : Mem := ma_new ym7 7 (.inl (0, 7, .inl (fun _ => 0)))
theorem ym8_1 : ym8.1 = (87, 1642) := by decide +kernel
theorem ym8_w : ma_wf ym8 := ma_wf_new ym7_w
theorem ym8_c82 : ym8.2 82 = some (.inr (7, [.ref 83, .int (nI 4), .ref 84, .int 0, .int 0, .int 0, .ref 85, .int 0, .int 0, .int 0, .int 0, .int 0, .int 0, .int 0, .int 0, .null, .null, .null, .int 0, .int 0, .int 0, .null, .int 0, .null, .null, .null, .null, .null, .int 0])) := (nw_lt (M := ym7) (by decide +kernel)).trans ym7_c82
theorem ym8_c86 : ym8.2 86 = some (.inl (0, 7, .inl (fun _ => 0))) := nw_at (M := ym7)
def ymf1 : Nat → Int32 := upd (fun _ => 0) 0 (nI 0)
def ym9 : Mem := ma_put ym8 86 (.inl (0, 7, .inl ymf1))
theorem ym9_1 : ym9.1 = (87, 1642) := by decide +kernel
theorem ym9_w : ma_wf ym9 := ma_wf_put ym8_w (by decide +kernel)
theorem ym9_c82 : ym9.2 82 = some (.inr (7, [.ref 83, .int (nI 4), .ref 84, .int 0, .int 0, .int 0, .ref 85, .int 0, .int 0, .int 0, .int 0, .int 0, .int 0, .int 0, .int 0, .null, .null, .null, .int 0, .int 0, .int 0, .null, .int 0, .null, .null, .null, .null, .null, .int 0])) := (pu_ne (by decide)).trans ym8_c82
theorem ym9_c86 : ym9.2 86 = some (.inl (0, 7, .inl ymf1)) := pu_at
def ymf2 : Nat → Int32 := upd ymf1 1 (nI 4)
def ym10 : Mem := ma_put ym9 86 (.inl (0, 7, .inl ymf2))
theorem ym10_1 : ym10.1 = (87, 1642) := by decide +kernel
theorem ym10_w : ma_wf ym10 := ma_wf_put ym9_w (by decide +kernel)
theorem ym10_c82 : ym10.2 82 = some (.inr (7, [.ref 83, .int (nI 4), .ref 84, .int 0, .int 0, .int 0, .ref 85, .int 0, .int 0, .int 0, .int 0, .int 0, .int 0, .int 0, .int 0, .null, .null, .null, .int 0, .int 0, .int 0, .null, .int 0, .null, .null, .null, .null, .null, .int 0])) := (pu_ne (by decide)).trans ym9_c82
theorem ym10_c86 : ym10.2 86 = some (.inl (0, 7, .inl ymf2)) := pu_at
def ymf3 : Nat → Int32 := upd ymf2 2 (nI 8)
def ym11 : Mem := ma_put ym10 86 (.inl (0, 7, .inl ymf3))
theorem ym11_1 : ym11.1 = (87, 1642) := by decide +kernel
theorem ym11_w : ma_wf ym11 := ma_wf_put ym10_w (by decide +kernel)
theorem ym11_c82 : ym11.2 82 = some (.inr (7, [.ref 83, .int (nI 4), .ref 84, .int 0, .int 0, .int 0, .ref 85, .int 0, .int 0, .int 0, .int 0, .int 0, .int 0, .int 0, .int 0, .null, .null, .null, .int 0, .int 0, .int 0, .null, .int 0, .null, .null, .null, .null, .null, .int 0])) := (pu_ne (by decide)).trans ym10_c82
theorem ym11_c86 : ym11.2 86 = some (.inl (0, 7, .inl ymf3)) := pu_at
def ymf4 : Nat → Int32 := upd ymf3 3 (nI 13)
def ym12 : Mem := ma_put ym11 86 (.inl (0, 7, .inl ymf4))
theorem ym12_1 : ym12.1 = (87, 1642) := by decide +kernel
theorem ym12_w : ma_wf ym12 := ma_wf_put ym11_w (by decide +kernel)
theorem ym12_c82 : ym12.2 82 = some (.inr (7, [.ref 83, .int (nI 4), .ref 84, .int 0, .int 0, .int 0, .ref 85, .int 0, .int 0, .int 0, .int 0, .int 0, .int 0, .int 0, .int 0, .null, .null, .null, .int 0, .int 0, .int 0, .null, .int 0, .null, .null, .null, .null, .null, .int 0])) := (pu_ne (by decide)).trans ym11_c82
theorem ym12_c86 : ym12.2 86 = some (.inl (0, 7, .inl ymf4)) := pu_at
def ymf5 : Nat → Int32 := upd ymf4 4 (nI 18)
def ym13 : Mem := ma_put ym12 86 (.inl (0, 7, .inl ymf5))
theorem ym13_1 : ym13.1 = (87, 1642) := by decide +kernel
theorem ym13_w : ma_wf ym13 := ma_wf_put ym12_w (by decide +kernel)
theorem ym13_c82 : ym13.2 82 = some (.inr (7, [.ref 83, .int (nI 4), .ref 84, .int 0, .int 0, .int 0, .ref 85, .int 0, .int 0, .int 0, .int 0, .int 0, .int 0, .int 0, .int 0, .null, .null, .null, .int 0, .int 0, .int 0, .null, .int 0, .null, .null, .null, .null, .null, .int 0])) := (pu_ne (by decide)).trans ym12_c82
theorem ym13_c86 : ym13.2 86 = some (.inl (0, 7, .inl ymf5)) := pu_at
def ymf6 : Nat → Int32 := upd ymf5 5 (nI 23)
def ym14 : Mem := ma_put ym13 86 (.inl (0, 7, .inl ymf6))
theorem ym14_1 : ym14.1 = (87, 1642) := by decide +kernel
theorem ym14_w : ma_wf ym14 := ma_wf_put ym13_w (by decide +kernel)
theorem ym14_c82 : ym14.2 82 = some (.inr (7, [.ref 83, .int (nI 4), .ref 84, .int 0, .int 0, .int 0, .ref 85, .int 0, .int 0, .int 0, .int 0, .int 0, .int 0, .int 0, .int 0, .null, .null, .null, .int 0, .int 0, .int 0, .null, .int 0, .null, .null, .null, .null, .null, .int 0])) := (pu_ne (by decide)).trans ym13_c82
theorem ym14_c86 : ym14.2 86 = some (.inl (0, 7, .inl ymf6)) := pu_at
def ymf7 : Nat → Int32 := upd ymf6 6 (nI 27)
def ym15 : Mem := ma_put ym14 86 (.inl (0, 7, .inl ymf7))
theorem ym15_1 : ym15.1 = (87, 1642) := by decide +kernel
theorem ym15_w : ma_wf ym15 := ma_wf_put ym14_w (by decide +kernel)
theorem ym15_c82 : ym15.2 82 = some (.inr (7, [.ref 83, .int (nI 4), .ref 84, .int 0, .int 0, .int 0, .ref 85, .int 0, .int 0, .int 0, .int 0, .int 0, .int 0, .int 0, .int 0, .null, .null, .null, .int 0, .int 0, .int 0, .null, .int 0, .null, .null, .null, .null, .null, .int 0])) := (pu_ne (by decide)).trans ym14_c82
theorem ym15_c86 : ym15.2 86 = some (.inl (0, 7, .inl ymf7)) := pu_at
def ym16 : Mem := ma_put ym15 82 (.inr (7, [.ref 83, .int (nI 4), .ref 84, .int 0, .int 0, .int 0, .ref 85, .int 0, .int 0, .int 0, .int 0, .int 0, .int 0, .int 0, .int 0, .ref 86, .null, .null, .int 0, .int 0, .int 0, .null, .int 0, .null, .null, .null, .null, .null, .int 0]))
theorem ym16_1 : ym16.1 = (87, 1642) := by decide +kernel
theorem ym16_w : ma_wf ym16 := ma_wf_put ym15_w (by decide +kernel)
theorem ym16_c82 : ym16.2 82 = some (.inr (7, [.ref 83, .int (nI 4), .ref 84, .int 0, .int 0, .int 0, .ref 85, .int 0, .int 0, .int 0, .int 0, .int 0, .int 0, .int 0, .int 0, .ref 86, .null, .null, .int 0, .int 0, .int 0, .null, .int 0, .null, .null, .null, .null, .null, .int 0])) := pu_at
theorem ym16_c86 : ym16.2 86 = some (.inl (0, 7, .inl ymf7)) := (pu_ne (by decide)).trans ym15_c86
def ym17 : Mem := ma_new ym16 27 (.inl (0, 27, .inl (fun _ => 0)))
theorem ym17_1 : ym17.1 = (88, 1669) := by decide +kernel
theorem ym17_w : ma_wf ym17 := ma_wf_new ym16_w
theorem ym17_c82 : ym17.2 82 = some (.inr (7, [.ref 83, .int (nI 4), .ref 84, .int 0, .int 0, .int 0, .ref 85, .int 0, .int 0, .int 0, .int 0, .int 0, .int 0, .int 0, .int 0, .ref 86, .null, .null, .int 0, .int 0, .int 0, .null, .int 0, .null, .null, .null, .null, .null, .int 0])) := (nw_lt (M := ym16) (by decide +kernel)).trans ym16_c82
theorem ym17_c87 : ym17.2 87 = some (.inl (0, 27, .inl (fun _ => 0))) := nw_at (M := ym16)
def ymf8 : Nat → Int32 := upd (fun _ => 0) 0 (nI 115)
def ym18 : Mem := ma_put ym17 87 (.inl (0, 27, .inl ymf8))
theorem ym18_1 : ym18.1 = (88, 1669) := by decide +kernel
theorem ym18_w : ma_wf ym18 := ma_wf_put ym17_w (by decide +kernel)
theorem ym18_c82 : ym18.2 82 = some (.inr (7, [.ref 83, .int (nI 4), .ref 84, .int 0, .int 0, .int 0, .ref 85, .int 0, .int 0, .int 0, .int 0, .int 0, .int 0, .int 0, .int 0, .ref 86, .null, .null, .int 0, .int 0, .int 0, .null, .int 0, .null, .null, .null, .null, .null, .int 0])) := (pu_ne (by decide)).trans ym17_c82
theorem ym18_c87 : ym18.2 87 = some (.inl (0, 27, .inl ymf8)) := pu_at
def ymf9 : Nat → Int32 := upd ymf8 1 (nI 116)
def ym19 : Mem := ma_put ym18 87 (.inl (0, 27, .inl ymf9))
theorem ym19_1 : ym19.1 = (88, 1669) := by decide +kernel
theorem ym19_w : ma_wf ym19 := ma_wf_put ym18_w (by decide +kernel)
theorem ym19_c82 : ym19.2 82 = some (.inr (7, [.ref 83, .int (nI 4), .ref 84, .int 0, .int 0, .int 0, .ref 85, .int 0, .int 0, .int 0, .int 0, .int 0, .int 0, .int 0, .int 0, .ref 86, .null, .null, .int 0, .int 0, .int 0, .null, .int 0, .null, .null, .null, .null, .null, .int 0])) := (pu_ne (by decide)).trans ym18_c82
theorem ym19_c87 : ym19.2 87 = some (.inl (0, 27, .inl ymf9)) := pu_at
def ymf10 : Nat → Int32 := upd ymf9 2 (nI 97)
def ym20 : Mem := ma_put ym19 87 (.inl (0, 27, .inl ymf10))
theorem ym20_1 : ym20.1 = (88, 1669) := by decide +kernel
theorem ym20_w : ma_wf ym20 := ma_wf_put ym19_w (by decide +kernel)
theorem ym20_c82 : ym20.2 82 = some (.inr (7, [.ref 83, .int (nI 4), .ref 84, .int 0, .int 0, .int 0, .ref 85, .int 0, .int 0, .int 0, .int 0, .int 0, .int 0, .int 0, .int 0, .ref 86, .null, .null, .int 0, .int 0, .int 0, .null, .int 0, .null, .null, .null, .null, .null, .int 0])) := (pu_ne (by decide)).trans ym19_c82
theorem ym20_c87 : ym20.2 87 = some (.inl (0, 27, .inl ymf10)) := pu_at
def ymf11 : Nat → Int32 := upd ymf10 3 (nI 121)
def ym21 : Mem := ma_put ym20 87 (.inl (0, 27, .inl ymf11))
theorem ym21_1 : ym21.1 = (88, 1669) := by decide +kernel
theorem ym21_w : ma_wf ym21 := ma_wf_put ym20_w (by decide +kernel)
theorem ym21_c82 : ym21.2 82 = some (.inr (7, [.ref 83, .int (nI 4), .ref 84, .int 0, .int 0, .int 0, .ref 85, .int 0, .int 0, .int 0, .int 0, .int 0, .int 0, .int 0, .int 0, .ref 86, .null, .null, .int 0, .int 0, .int 0, .null, .int 0, .null, .null, .null, .null, .null, .int 0])) := (pu_ne (by decide)).trans ym20_c82
theorem ym21_c87 : ym21.2 87 = some (.inl (0, 27, .inl ymf11)) := pu_at
def ymf12 : Nat → Int32 := upd ymf11 4 (nI 115)
def ym22 : Mem := ma_put ym21 87 (.inl (0, 27, .inl ymf12))
theorem ym22_1 : ym22.1 = (88, 1669) := by decide +kernel
theorem ym22_w : ma_wf ym22 := ma_wf_put ym21_w (by decide +kernel)
theorem ym22_c82 : ym22.2 82 = some (.inr (7, [.ref 83, .int (nI 4), .ref 84, .int 0, .int 0, .int 0, .ref 85, .int 0, .int 0, .int 0, .int 0, .int 0, .int 0, .int 0, .int 0, .ref 86, .null, .null, .int 0, .int 0, .int 0, .null, .int 0, .null, .null, .null, .null, .null, .int 0])) := (pu_ne (by decide)).trans ym21_c82
theorem ym22_c87 : ym22.2 87 = some (.inl (0, 27, .inl ymf12)) := pu_at
def ymf13 : Nat → Int32 := upd ymf12 5 (nI 116)
def ym23 : Mem := ma_put ym22 87 (.inl (0, 27, .inl ymf13))
theorem ym23_1 : ym23.1 = (88, 1669) := by decide +kernel
theorem ym23_w : ma_wf ym23 := ma_wf_put ym22_w (by decide +kernel)
theorem ym23_c82 : ym23.2 82 = some (.inr (7, [.ref 83, .int (nI 4), .ref 84, .int 0, .int 0, .int 0, .ref 85, .int 0, .int 0, .int 0, .int 0, .int 0, .int 0, .int 0, .int 0, .ref 86, .null, .null, .int 0, .int 0, .int 0, .null, .int 0, .null, .null, .null, .null, .null, .int 0])) := (pu_ne (by decide)).trans ym22_c82
theorem ym23_c87 : ym23.2 87 = some (.inl (0, 27, .inl ymf13)) := pu_at
def ymf14 : Nat → Int32 := upd ymf13 6 (nI 101)
def ym24 : Mem := ma_put ym23 87 (.inl (0, 27, .inl ymf14))
theorem ym24_1 : ym24.1 = (88, 1669) := by decide +kernel
theorem ym24_w : ma_wf ym24 := ma_wf_put ym23_w (by decide +kernel)
theorem ym24_c82 : ym24.2 82 = some (.inr (7, [.ref 83, .int (nI 4), .ref 84, .int 0, .int 0, .int 0, .ref 85, .int 0, .int 0, .int 0, .int 0, .int 0, .int 0, .int 0, .int 0, .ref 86, .null, .null, .int 0, .int 0, .int 0, .null, .int 0, .null, .null, .null, .null, .null, .int 0])) := (pu_ne (by decide)).trans ym23_c82
theorem ym24_c87 : ym24.2 87 = some (.inl (0, 27, .inl ymf14)) := pu_at
def ymf15 : Nat → Int32 := upd ymf14 7 (nI 112)
def ym25 : Mem := ma_put ym24 87 (.inl (0, 27, .inl ymf15))
theorem ym25_1 : ym25.1 = (88, 1669) := by decide +kernel
theorem ym25_w : ma_wf ym25 := ma_wf_put ym24_w (by decide +kernel)
theorem ym25_c82 : ym25.2 82 = some (.inr (7, [.ref 83, .int (nI 4), .ref 84, .int 0, .int 0, .int 0, .ref 85, .int 0, .int 0, .int 0, .int 0, .int 0, .int 0, .int 0, .int 0, .ref 86, .null, .null, .int 0, .int 0, .int 0, .null, .int 0, .null, .null, .null, .null, .null, .int 0])) := (pu_ne (by decide)).trans ym24_c82
theorem ym25_c87 : ym25.2 87 = some (.inl (0, 27, .inl ymf15)) := pu_at
def ymf16 : Nat → Int32 := upd ymf15 8 (nI 102)
def ym26 : Mem := ma_put ym25 87 (.inl (0, 27, .inl ymf16))
theorem ym26_1 : ym26.1 = (88, 1669) := by decide +kernel
theorem ym26_w : ma_wf ym26 := ma_wf_put ym25_w (by decide +kernel)
theorem ym26_c82 : ym26.2 82 = some (.inr (7, [.ref 83, .int (nI 4), .ref 84, .int 0, .int 0, .int 0, .ref 85, .int 0, .int 0, .int 0, .int 0, .int 0, .int 0, .int 0, .int 0, .ref 86, .null, .null, .int 0, .int 0, .int 0, .null, .int 0, .null, .null, .null, .null, .null, .int 0])) := (pu_ne (by decide)).trans ym25_c82
theorem ym26_c87 : ym26.2 87 = some (.inl (0, 27, .inl ymf16)) := pu_at
def ymf17 : Nat → Int32 := upd ymf16 9 (nI 114)
def ym27 : Mem := ma_put ym26 87 (.inl (0, 27, .inl ymf17))
theorem ym27_1 : ym27.1 = (88, 1669) := by decide +kernel
theorem ym27_w : ma_wf ym27 := ma_wf_put ym26_w (by decide +kernel)
theorem ym27_c82 : ym27.2 82 = some (.inr (7, [.ref 83, .int (nI 4), .ref 84, .int 0, .int 0, .int 0, .ref 85, .int 0, .int 0, .int 0, .int 0, .int 0, .int 0, .int 0, .int 0, .ref 86, .null, .null, .int 0, .int 0, .int 0, .null, .int 0, .null, .null, .null, .null, .null, .int 0])) := (pu_ne (by decide)).trans ym26_c82
theorem ym27_c87 : ym27.2 87 = some (.inl (0, 27, .inl ymf17)) := pu_at
def ymf18 : Nat → Int32 := upd ymf17 10 (nI 111)
def ym28 : Mem := ma_put ym27 87 (.inl (0, 27, .inl ymf18))
theorem ym28_1 : ym28.1 = (88, 1669) := by decide +kernel
theorem ym28_w : ma_wf ym28 := ma_wf_put ym27_w (by decide +kernel)
theorem ym28_c82 : ym28.2 82 = some (.inr (7, [.ref 83, .int (nI 4), .ref 84, .int 0, .int 0, .int 0, .ref 85, .int 0, .int 0, .int 0, .int 0, .int 0, .int 0, .int 0, .int 0, .ref 86, .null, .null, .int 0, .int 0, .int 0, .null, .int 0, .null, .null, .null, .null, .null, .int 0])) := (pu_ne (by decide)).trans ym27_c82
theorem ym28_c87 : ym28.2 87 = some (.inl (0, 27, .inl ymf18)) := pu_at
def ymf19 : Nat → Int32 := upd ymf18 11 (nI 110)
def ym29 : Mem := ma_put ym28 87 (.inl (0, 27, .inl ymf19))
theorem ym29_1 : ym29.1 = (88, 1669) := by decide +kernel
theorem ym29_w : ma_wf ym29 := ma_wf_put ym28_w (by decide +kernel)
theorem ym29_c82 : ym29.2 82 = some (.inr (7, [.ref 83, .int (nI 4), .ref 84, .int 0, .int 0, .int 0, .ref 85, .int 0, .int 0, .int 0, .int 0, .int 0, .int 0, .int 0, .int 0, .ref 86, .null, .null, .int 0, .int 0, .int 0, .null, .int 0, .null, .null, .null, .null, .null, .int 0])) := (pu_ne (by decide)).trans ym28_c82
theorem ym29_c87 : ym29.2 87 = some (.inl (0, 27, .inl ymf19)) := pu_at
def ymf20 : Nat → Int32 := upd ymf19 12 (nI 116)
def ym30 : Mem := ma_put ym29 87 (.inl (0, 27, .inl ymf20))
theorem ym30_1 : ym30.1 = (88, 1669) := by decide +kernel
theorem ym30_w : ma_wf ym30 := ma_wf_put ym29_w (by decide +kernel)
theorem ym30_c82 : ym30.2 82 = some (.inr (7, [.ref 83, .int (nI 4), .ref 84, .int 0, .int 0, .int 0, .ref 85, .int 0, .int 0, .int 0, .int 0, .int 0, .int 0, .int 0, .int 0, .ref 86, .null, .null, .int 0, .int 0, .int 0, .null, .int 0, .null, .null, .null, .null, .null, .int 0])) := (pu_ne (by decide)).trans ym29_c82
theorem ym30_c87 : ym30.2 87 = some (.inl (0, 27, .inl ymf20)) := pu_at
def ymf21 : Nat → Int32 := upd ymf20 13 (nI 111)
def ym31 : Mem := ma_put ym30 87 (.inl (0, 27, .inl ymf21))
theorem ym31_1 : ym31.1 = (88, 1669) := by decide +kernel
theorem ym31_w : ma_wf ym31 := ma_wf_put ym30_w (by decide +kernel)
theorem ym31_c82 : ym31.2 82 = some (.inr (7, [.ref 83, .int (nI 4), .ref 84, .int 0, .int 0, .int 0, .ref 85, .int 0, .int 0, .int 0, .int 0, .int 0, .int 0, .int 0, .int 0, .ref 86, .null, .null, .int 0, .int 0, .int 0, .null, .int 0, .null, .null, .null, .null, .null, .int 0])) := (pu_ne (by decide)).trans ym30_c82
theorem ym31_c87 : ym31.2 87 = some (.inl (0, 27, .inl ymf21)) := pu_at
def ymf22 : Nat → Int32 := upd ymf21 14 (nI 102)
def ym32 : Mem := ma_put ym31 87 (.inl (0, 27, .inl ymf22))
theorem ym32_1 : ym32.1 = (88, 1669) := by decide +kernel
theorem ym32_w : ma_wf ym32 := ma_wf_put ym31_w (by decide +kernel)
theorem ym32_c82 : ym32.2 82 = some (.inr (7, [.ref 83, .int (nI 4), .ref 84, .int 0, .int 0, .int 0, .ref 85, .int 0, .int 0, .int 0, .int 0, .int 0, .int 0, .int 0, .int 0, .ref 86, .null, .null, .int 0, .int 0, .int 0, .null, .int 0, .null, .null, .null, .null, .null, .int 0])) := (pu_ne (by decide)).trans ym31_c82
theorem ym32_c87 : ym32.2 87 = some (.inl (0, 27, .inl ymf22)) := pu_at
def ymf23 : Nat → Int32 := upd ymf22 15 (nI 116)
def ym33 : Mem := ma_put ym32 87 (.inl (0, 27, .inl ymf23))
theorem ym33_1 : ym33.1 = (88, 1669) := by decide +kernel
theorem ym33_w : ma_wf ym33 := ma_wf_put ym32_w (by decide +kernel)
theorem ym33_c82 : ym33.2 82 = some (.inr (7, [.ref 83, .int (nI 4), .ref 84, .int 0, .int 0, .int 0, .ref 85, .int 0, .int 0, .int 0, .int 0, .int 0, .int 0, .int 0, .int 0, .ref 86, .null, .null, .int 0, .int 0, .int 0, .null, .int 0, .null, .null, .null, .null, .null, .int 0])) := (pu_ne (by decide)).trans ym32_c82
theorem ym33_c87 : ym33.2 87 = some (.inl (0, 27, .inl ymf23)) := pu_at
def ymf24 : Nat → Int32 := upd ymf23 16 (nI 101)
def ym34 : Mem := ma_put ym33 87 (.inl (0, 27, .inl ymf24))
theorem ym34_1 : ym34.1 = (88, 1669) := by decide +kernel
theorem ym34_w : ma_wf ym34 := ma_wf_put ym33_w (by decide +kernel)
theorem ym34_c82 : ym34.2 82 = some (.inr (7, [.ref 83, .int (nI 4), .ref 84, .int 0, .int 0, .int 0, .ref 85, .int 0, .int 0, .int 0, .int 0, .int 0, .int 0, .int 0, .int 0, .ref 86, .null, .null, .int 0, .int 0, .int 0, .null, .int 0, .null, .null, .null, .null, .null, .int 0])) := (pu_ne (by decide)).trans ym33_c82
theorem ym34_c87 : ym34.2 87 = some (.inl (0, 27, .inl ymf24)) := pu_at
def ymf25 : Nat → Int32 := upd ymf24 17 (nI 110)
def ym35 : Mem := ma_put ym34 87 (.inl (0, 27, .inl ymf25))
theorem ym35_1 : ym35.1 = (88, 1669) := by decide +kernel
theorem ym35_w : ma_wf ym35 := ma_wf_put ym34_w (by decide +kernel)
theorem ym35_c82 : ym35.2 82 = some (.inr (7, [.ref 83, .int (nI 4), .ref 84, .int 0, .int 0, .int 0, .ref 85, .int 0, .int 0, .int 0, .int 0, .int 0, .int 0, .int 0, .int 0, .ref 86, .null, .null, .int 0, .int 0, .int 0, .null, .int 0, .null, .null, .null, .null, .null, .int 0])) := (pu_ne (by decide)).trans ym34_c82
theorem ym35_c87 : ym35.2 87 = some (.inl (0, 27, .inl ymf25)) := pu_at
def ymf26 : Nat → Int32 := upd ymf25 18 (nI 98)
def ym36 : Mem := ma_put ym35 87 (.inl (0, 27, .inl ymf26))
theorem ym36_1 : ym36.1 = (88, 1669) := by decide +kernel
theorem ym36_w : ma_wf ym36 := ma_wf_put ym35_w (by decide +kernel)
theorem ym36_c82 : ym36.2 82 = some (.inr (7, [.ref 83, .int (nI 4), .ref 84, .int 0, .int 0, .int 0, .ref 85, .int 0, .int 0, .int 0, .int 0, .int 0, .int 0, .int 0, .int 0, .ref 86, .null, .null, .int 0, .int 0, .int 0, .null, .int 0, .null, .null, .null, .null, .null, .int 0])) := (pu_ne (by decide)).trans ym35_c82
theorem ym36_c87 : ym36.2 87 = some (.inl (0, 27, .inl ymf26)) := pu_at
def ymf27 : Nat → Int32 := upd ymf26 19 (nI 111)
def ym37 : Mem := ma_put ym36 87 (.inl (0, 27, .inl ymf27))
theorem ym37_1 : ym37.1 = (88, 1669) := by decide +kernel
theorem ym37_w : ma_wf ym37 := ma_wf_put ym36_w (by decide +kernel)
theorem ym37_c82 : ym37.2 82 = some (.inr (7, [.ref 83, .int (nI 4), .ref 84, .int 0, .int 0, .int 0, .ref 85, .int 0, .int 0, .int 0, .int 0, .int 0, .int 0, .int 0, .int 0, .ref 86, .null, .null, .int 0, .int 0, .int 0, .null, .int 0, .null, .null, .null, .null, .null, .int 0])) := (pu_ne (by decide)).trans ym36_c82
theorem ym37_c87 : ym37.2 87 = some (.inl (0, 27, .inl ymf27)) := pu_at
def ymf28 : Nat → Int32 := upd ymf27 20 (nI 111)
def ym38 : Mem := ma_put ym37 87 (.inl (0, 27, .inl ymf28))
theorem ym38_1 : ym38.1 = (88, 1669) := by decide +kernel
theorem ym38_w : ma_wf ym38 := ma_wf_put ym37_w (by decide +kernel)
theorem ym38_c82 : ym38.2 82 = some (.inr (7, [.ref 83, .int (nI 4), .ref 84, .int 0, .int 0, .int 0, .ref 85, .int 0, .int 0, .int 0, .int 0, .int 0, .int 0, .int 0, .int 0, .ref 86, .null, .null, .int 0, .int 0, .int 0, .null, .int 0, .null, .null, .null, .null, .null, .int 0])) := (pu_ne (by decide)).trans ym37_c82
theorem ym38_c87 : ym38.2 87 = some (.inl (0, 27, .inl ymf28)) := pu_at
def ymf29 : Nat → Int32 := upd ymf28 21 (nI 107)
def ym39 : Mem := ma_put ym38 87 (.inl (0, 27, .inl ymf29))
theorem ym39_1 : ym39.1 = (88, 1669) := by decide +kernel
theorem ym39_w : ma_wf ym39 := ma_wf_put ym38_w (by decide +kernel)
theorem ym39_c82 : ym39.2 82 = some (.inr (7, [.ref 83, .int (nI 4), .ref 84, .int 0, .int 0, .int 0, .ref 85, .int 0, .int 0, .int 0, .int 0, .int 0, .int 0, .int 0, .int 0, .ref 86, .null, .null, .int 0, .int 0, .int 0, .null, .int 0, .null, .null, .null, .null, .null, .int 0])) := (pu_ne (by decide)).trans ym38_c82
theorem ym39_c87 : ym39.2 87 = some (.inl (0, 27, .inl ymf29)) := pu_at
def ymf30 : Nat → Int32 := upd ymf29 22 (nI 115)
def ym40 : Mem := ma_put ym39 87 (.inl (0, 27, .inl ymf30))
theorem ym40_1 : ym40.1 = (88, 1669) := by decide +kernel
theorem ym40_w : ma_wf ym40 := ma_wf_put ym39_w (by decide +kernel)
theorem ym40_c82 : ym40.2 82 = some (.inr (7, [.ref 83, .int (nI 4), .ref 84, .int 0, .int 0, .int 0, .ref 85, .int 0, .int 0, .int 0, .int 0, .int 0, .int 0, .int 0, .int 0, .ref 86, .null, .null, .int 0, .int 0, .int 0, .null, .int 0, .null, .null, .null, .null, .null, .int 0])) := (pu_ne (by decide)).trans ym39_c82
theorem ym40_c87 : ym40.2 87 = some (.inl (0, 27, .inl ymf30)) := pu_at
def ymf31 : Nat → Int32 := upd ymf30 23 (nI 119)
def ym41 : Mem := ma_put ym40 87 (.inl (0, 27, .inl ymf31))
theorem ym41_1 : ym41.1 = (88, 1669) := by decide +kernel
theorem ym41_w : ma_wf ym41 := ma_wf_put ym40_w (by decide +kernel)
theorem ym41_c82 : ym41.2 82 = some (.inr (7, [.ref 83, .int (nI 4), .ref 84, .int 0, .int 0, .int 0, .ref 85, .int 0, .int 0, .int 0, .int 0, .int 0, .int 0, .int 0, .int 0, .ref 86, .null, .null, .int 0, .int 0, .int 0, .null, .int 0, .null, .null, .null, .null, .null, .int 0])) := (pu_ne (by decide)).trans ym40_c82
theorem ym41_c87 : ym41.2 87 = some (.inl (0, 27, .inl ymf31)) := pu_at
def ymf32 : Nat → Int32 := upd ymf31 24 (nI 97)
def ym42 : Mem := ma_put ym41 87 (.inl (0, 27, .inl ymf32))
theorem ym42_1 : ym42.1 = (88, 1669) := by decide +kernel
theorem ym42_w : ma_wf ym42 := ma_wf_put ym41_w (by decide +kernel)
theorem ym42_c82 : ym42.2 82 = some (.inr (7, [.ref 83, .int (nI 4), .ref 84, .int 0, .int 0, .int 0, .ref 85, .int 0, .int 0, .int 0, .int 0, .int 0, .int 0, .int 0, .int 0, .ref 86, .null, .null, .int 0, .int 0, .int 0, .null, .int 0, .null, .null, .null, .null, .null, .int 0])) := (pu_ne (by decide)).trans ym41_c82
theorem ym42_c87 : ym42.2 87 = some (.inl (0, 27, .inl ymf32)) := pu_at
def ymf33 : Nat → Int32 := upd ymf32 25 (nI 110)
def ym43 : Mem := ma_put ym42 87 (.inl (0, 27, .inl ymf33))
theorem ym43_1 : ym43.1 = (88, 1669) := by decide +kernel
theorem ym43_w : ma_wf ym43 := ma_wf_put ym42_w (by decide +kernel)
theorem ym43_c82 : ym43.2 82 = some (.inr (7, [.ref 83, .int (nI 4), .ref 84, .int 0, .int 0, .int 0, .ref 85, .int 0, .int 0, .int 0, .int 0, .int 0, .int 0, .int 0, .int 0, .ref 86, .null, .null, .int 0, .int 0, .int 0, .null, .int 0, .null, .null, .null, .null, .null, .int 0])) := (pu_ne (by decide)).trans ym42_c82
theorem ym43_c87 : ym43.2 87 = some (.inl (0, 27, .inl ymf33)) := pu_at
def ymf34 : Nat → Int32 := upd ymf33 26 (nI 116)
def ym44 : Mem := ma_put ym43 87 (.inl (0, 27, .inl ymf34))
theorem ym44_1 : ym44.1 = (88, 1669) := by decide +kernel
theorem ym44_w : ma_wf ym44 := ma_wf_put ym43_w (by decide +kernel)
theorem ym44_c82 : ym44.2 82 = some (.inr (7, [.ref 83, .int (nI 4), .ref 84, .int 0, .int 0, .int 0, .ref 85, .int 0, .int 0, .int 0, .int 0, .int 0, .int 0, .int 0, .int 0, .ref 86, .null, .null, .int 0, .int 0, .int 0, .null, .int 0, .null, .null, .null, .null, .null, .int 0])) := (pu_ne (by decide)).trans ym43_c82
theorem ym44_c87 : ym44.2 87 = some (.inl (0, 27, .inl ymf34)) := pu_at
def ym45 : Mem := ma_put ym44 82 (.inr (7, [.ref 83, .int (nI 4), .ref 84, .int 0, .int 0, .int 0, .ref 85, .int 0, .int 0, .int 0, .int 0, .int 0, .int 0, .int 0, .int 0, .ref 86, .ref 87, .null, .int 0, .int 0, .int 0, .null, .int 0, .null, .null, .null, .null, .null, .int 0]))
theorem ym45_1 : ym45.1 = (88, 1669) := by decide +kernel
theorem ym45_w : ma_wf ym45 := ma_wf_put ym44_w (by decide +kernel)
theorem ym45_c82 : ym45.2 82 = some (.inr (7, [.ref 83, .int (nI 4), .ref 84, .int 0, .int 0, .int 0, .ref 85, .int 0, .int 0, .int 0, .int 0, .int 0, .int 0, .int 0, .int 0, .ref 86, .ref 87, .null, .int 0, .int 0, .int 0, .null, .int 0, .null, .null, .null, .null, .null, .int 0])) := pu_at
theorem ym45_c87 : ym45.2 87 = some (.inl (0, 27, .inl ymf34)) := (pu_ne (by decide)).trans ym44_c87
def ym46 : Mem := ma_new ym45 4 (.inl (0, 4, .inl (fun _ => 0)))
theorem ym46_1 : ym46.1 = (89, 1673) := by decide +kernel
theorem ym46_w : ma_wf ym46 := ma_wf_new ym45_w
theorem ym46_c82 : ym46.2 82 = some (.inr (7, [.ref 83, .int (nI 4), .ref 84, .int 0, .int 0, .int 0, .ref 85, .int 0, .int 0, .int 0, .int 0, .int 0, .int 0, .int 0, .int 0, .ref 86, .ref 87, .null, .int 0, .int 0, .int 0, .null, .int 0, .null, .null, .null, .null, .null, .int 0])) := (nw_lt (M := ym45) (by decide +kernel)).trans ym45_c82
def ym47 : Mem := ma_put ym46 82 (.inr (7, [.ref 83, .int (nI 4), .ref 84, .int 0, .int 0, .int 0, .ref 85, .int 0, .int 0, .int 0, .int 0, .int 0, .int 0, .int 0, .int 0, .ref 86, .ref 87, .ref 88, .int 0, .int 0, .int 0, .null, .int 0, .null, .null, .null, .null, .null, .int 0]))
theorem ym47_1 : ym47.1 = (89, 1673) := by decide +kernel
theorem ym47_w : ma_wf ym47 := ma_wf_put ym46_w (by decide +kernel)
theorem ym47_c82 : ym47.2 82 = some (.inr (7, [.ref 83, .int (nI 4), .ref 84, .int 0, .int 0, .int 0, .ref 85, .int 0, .int 0, .int 0, .int 0, .int 0, .int 0, .int 0, .int 0, .ref 86, .ref 87, .ref 88, .int 0, .int 0, .int 0, .null, .int 0, .null, .null, .null, .null, .null, .int 0])) := pu_at
def ym48 : Mem := ma_put ym47 82 (.inr (7, [.ref 83, .int (nI 4), .ref 84, .int 0, .int 0, .int 0, .ref 85, .int 0, .int 0, .int 0, .int 0, .int 0, .int 0, .int 0, .int 0, .ref 86, .ref 87, .ref 88, .int 0, .int 0, .int (-4), .null, .int 0, .null, .null, .null, .null, .null, .int 0]))
theorem ym48_1 : ym48.1 = (89, 1673) := by decide +kernel
theorem ym48_w : ma_wf ym48 := ma_wf_put ym47_w (by decide +kernel)
theorem ym48_c82 : ym48.2 82 = some (.inr (7, [.ref 83, .int (nI 4), .ref 84, .int 0, .int 0, .int 0, .ref 85, .int 0, .int 0, .int 0, .int 0, .int 0, .int 0, .int 0, .int 0, .ref 86, .ref 87, .ref 88, .int 0, .int 0, .int (-4), .null, .int 0, .null, .null, .null, .null, .null, .int 0])) := pu_at
def ym49 : Mem := ma_new ym48 18 (.inl (0, 18, .inl (fun _ => 0)))
theorem ym49_1 : ym49.1 = (90, 1691) := by decide +kernel
theorem ym49_w : ma_wf ym49 := ma_wf_new ym48_w
theorem ym49_c82 : ym49.2 82 = some (.inr (7, [.ref 83, .int (nI 4), .ref 84, .int 0, .int 0, .int 0, .ref 85, .int 0, .int 0, .int 0, .int 0, .int 0, .int 0, .int 0, .int 0, .ref 86, .ref 87, .ref 88, .int 0, .int 0, .int (-4), .null, .int 0, .null, .null, .null, .null, .null, .int 0])) := (nw_lt (M := ym48) (by decide +kernel)).trans ym48_c82
def ym50 : Mem := ma_put ym49 82 (.inr (7, [.ref 83, .int (nI 4), .ref 84, .int 0, .int 0, .int 0, .ref 85, .int 0, .int 0, .int 0, .int 0, .int 0, .int 0, .int 0, .int 0, .ref 86, .ref 87, .ref 88, .int 0, .int 0, .int (-4), .ref 89, .int 0, .null, .null, .null, .null, .null, .int 0]))
theorem ym50_1 : ym50.1 = (90, 1691) := by decide +kernel
theorem ym50_w : ma_wf ym50 := ma_wf_put ym49_w (by decide +kernel)
theorem ym50_c82 : ym50.2 82 = some (.inr (7, [.ref 83, .int (nI 4), .ref 84, .int 0, .int 0, .int 0, .ref 85, .int 0, .int 0, .int 0, .int 0, .int 0, .int 0, .int 0, .int 0, .ref 86, .ref 87, .ref 88, .int 0, .int 0, .int (-4), .ref 89, .int 0, .null, .null, .null, .null, .null, .int 0])) := pu_at
def ym51 : Mem := ma_new ym50 984 (.inl (0, 984, .inl (fun _ => 0)))
theorem ym51_1 : ym51.1 = (91, 2675) := by decide +kernel
theorem ym51_w : ma_wf ym51 := ma_wf_new ym50_w
theorem ym51_c82 : ym51.2 82 = some (.inr (7, [.ref 83, .int (nI 4), .ref 84, .int 0, .int 0, .int 0, .ref 85, .int 0, .int 0, .int 0, .int 0, .int 0, .int 0, .int 0, .int 0, .ref 86, .ref 87, .ref 88, .int 0, .int 0, .int (-4), .ref 89, .int 0, .null, .null, .null, .null, .null, .int 0])) := (nw_lt (M := ym50) (by decide +kernel)).trans ym50_c82
def ym52 : Mem := ma_put ym51 82 (.inr (7, [.ref 83, .int (nI 4), .ref 84, .int 0, .int 0, .int 0, .ref 85, .int 0, .int 0, .int 0, .int 0, .int 0, .int 0, .int 0, .int 0, .ref 86, .ref 87, .ref 88, .int 0, .int 0, .int (-4), .ref 89, .int 0, .ref 90, .null, .null, .null, .null, .int 0]))
theorem ym52_1 : ym52.1 = (91, 2675) := by decide +kernel
theorem ym52_w : ma_wf ym52 := ma_wf_put ym51_w (by decide +kernel)
theorem ym52_c82 : ym52.2 82 = some (.inr (7, [.ref 83, .int (nI 4), .ref 84, .int 0, .int 0, .int 0, .ref 85, .int 0, .int 0, .int 0, .int 0, .int 0, .int 0, .int 0, .int 0, .ref 86, .ref 87, .ref 88, .int 0, .int 0, .int (-4), .ref 89, .int 0, .ref 90, .null, .null, .null, .null, .int 0])) := pu_at
def ym53 : Mem := ma_new ym52 2 (.inl (2, 2, .inl (fun _ => 0)))
theorem ym53_1 : ym53.1 = (92, 2677) := by decide +kernel
theorem ym53_w : ma_wf ym53 := ma_wf_new ym52_w
theorem ym53_c82 : ym53.2 82 = some (.inr (7, [.ref 83, .int (nI 4), .ref 84, .int 0, .int 0, .int 0, .ref 85, .int 0, .int 0, .int 0, .int 0, .int 0, .int 0, .int 0, .int 0, .ref 86, .ref 87, .ref 88, .int 0, .int 0, .int (-4), .ref 89, .int 0, .ref 90, .null, .null, .null, .null, .int 0])) := (nw_lt (M := ym52) (by decide +kernel)).trans ym52_c82
def ym54 : Mem := ma_put ym53 82 (.inr (7, [.ref 83, .int (nI 4), .ref 84, .int 0, .int 0, .int 0, .ref 85, .int 0, .int 0, .int 0, .int 0, .int 0, .int 0, .int 0, .int 0, .ref 86, .ref 87, .ref 88, .int 0, .int 0, .int (-4), .ref 89, .int 0, .ref 90, .ref 91, .null, .null, .null, .int 0]))
theorem ym54_1 : ym54.1 = (92, 2677) := by decide +kernel
theorem ym54_w : ma_wf ym54 := ma_wf_put ym53_w (by decide +kernel)
theorem ym54_c82 : ym54.2 82 = some (.inr (7, [.ref 83, .int (nI 4), .ref 84, .int 0, .int 0, .int 0, .ref 85, .int 0, .int 0, .int 0, .int 0, .int 0, .int 0, .int 0, .int 0, .ref 86, .ref 87, .ref 88, .int 0, .int 0, .int (-4), .ref 89, .int 0, .ref 90, .ref 91, .null, .null, .null, .int 0])) := pu_at
def ym55 : Mem := ma_new ym54 4 (.inl (0, 4, .inl (fun _ => 0)))
theorem ym55_1 : ym55.1 = (93, 2681) := by decide +kernel
theorem ym55_w : ma_wf ym55 := ma_wf_new ym54_w
theorem ym55_c82 : ym55.2 82 = some (.inr (7, [.ref 83, .int (nI 4), .ref 84, .int 0, .int 0, .int 0, .ref 85, .int 0, .int 0, .int 0, .int 0, .int 0, .int 0, .int 0, .int 0, .ref 86, .ref 87, .ref 88, .int 0, .int 0, .int (-4), .ref 89, .int 0, .ref 90, .ref 91, .null, .null, .null, .int 0])) := (nw_lt (M := ym54) (by decide +kernel)).trans ym54_c82
theorem ym55_c92 : ym55.2 92 = some (.inl (0, 4, .inl (fun _ => 0))) := nw_at (M := ym54)
def ymf35 : Nat → Int32 := upd (fun _ => 0) 0 (-4)
def ym56 : Mem := ma_put ym55 92 (.inl (0, 4, .inl ymf35))
theorem ym56_1 : ym56.1 = (93, 2681) := by decide +kernel
theorem ym56_w : ma_wf ym56 := ma_wf_put ym55_w (by decide +kernel)
theorem ym56_c82 : ym56.2 82 = some (.inr (7, [.ref 83, .int (nI 4), .ref 84, .int 0, .int 0, .int 0, .ref 85, .int 0, .int 0, .int 0, .int 0, .int 0, .int 0, .int 0, .int 0, .ref 86, .ref 87, .ref 88, .int 0, .int 0, .int (-4), .ref 89, .int 0, .ref 90, .ref 91, .null, .null, .null, .int 0])) := (pu_ne (by decide)).trans ym55_c82
theorem ym56_c92 : ym56.2 92 = some (.inl (0, 4, .inl ymf35)) := pu_at
def ymf36 : Nat → Int32 := upd ymf35 1 (-4)
def ym57 : Mem := ma_put ym56 92 (.inl (0, 4, .inl ymf36))
theorem ym57_1 : ym57.1 = (93, 2681) := by decide +kernel
theorem ym57_w : ma_wf ym57 := ma_wf_put ym56_w (by decide +kernel)
theorem ym57_c82 : ym57.2 82 = some (.inr (7, [.ref 83, .int (nI 4), .ref 84, .int 0, .int 0, .int 0, .ref 85, .int 0, .int 0, .int 0, .int 0, .int 0, .int 0, .int 0, .int 0, .ref 86, .ref 87, .ref 88, .int 0, .int 0, .int (-4), .ref 89, .int 0, .ref 90, .ref 91, .null, .null, .null, .int 0])) := (pu_ne (by decide)).trans ym56_c82
theorem ym57_c92 : ym57.2 92 = some (.inl (0, 4, .inl ymf36)) := pu_at
def ymf37 : Nat → Int32 := upd ymf36 2 (-4)
def ym58 : Mem := ma_put ym57 92 (.inl (0, 4, .inl ymf37))
theorem ym58_1 : ym58.1 = (93, 2681) := by decide +kernel
theorem ym58_w : ma_wf ym58 := ma_wf_put ym57_w (by decide +kernel)
theorem ym58_c82 : ym58.2 82 = some (.inr (7, [.ref 83, .int (nI 4), .ref 84, .int 0, .int 0, .int 0, .ref 85, .int 0, .int 0, .int 0, .int 0, .int 0, .int 0, .int 0, .int 0, .ref 86, .ref 87, .ref 88, .int 0, .int 0, .int (-4), .ref 89, .int 0, .ref 90, .ref 91, .null, .null, .null, .int 0])) := (pu_ne (by decide)).trans ym57_c82
theorem ym58_c92 : ym58.2 92 = some (.inl (0, 4, .inl ymf37)) := pu_at
def ymf38 : Nat → Int32 := upd ymf37 3 (-4)
def ym59 : Mem := ma_put ym58 92 (.inl (0, 4, .inl ymf38))
theorem ym59_1 : ym59.1 = (93, 2681) := by decide +kernel
theorem ym59_w : ma_wf ym59 := ma_wf_put ym58_w (by decide +kernel)
theorem ym59_c82 : ym59.2 82 = some (.inr (7, [.ref 83, .int (nI 4), .ref 84, .int 0, .int 0, .int 0, .ref 85, .int 0, .int 0, .int 0, .int 0, .int 0, .int 0, .int 0, .int 0, .ref 86, .ref 87, .ref 88, .int 0, .int 0, .int (-4), .ref 89, .int 0, .ref 90, .ref 91, .null, .null, .null, .int 0])) := (pu_ne (by decide)).trans ym58_c82
theorem ym59_c92 : ym59.2 92 = some (.inl (0, 4, .inl ymf38)) := pu_at
def ym60 : Mem := ma_put ym59 82 (.inr (7, [.ref 83, .int (nI 4), .ref 84, .int 0, .int 0, .int 0, .ref 85, .int 0, .int 0, .int 0, .int 0, .int 0, .int 0, .int 0, .int 0, .ref 86, .ref 87, .ref 88, .int 0, .int 0, .int (-4), .ref 89, .int 0, .ref 90, .ref 91, .ref 92, .null, .null, .int 0]))
theorem ym60_1 : ym60.1 = (93, 2681) := by decide +kernel
theorem ym60_w : ma_wf ym60 := ma_wf_put ym59_w (by decide +kernel)
theorem ym60_c82 : ym60.2 82 = some (.inr (7, [.ref 83, .int (nI 4), .ref 84, .int 0, .int 0, .int 0, .ref 85, .int 0, .int 0, .int 0, .int 0, .int 0, .int 0, .int 0, .int 0, .ref 86, .ref 87, .ref 88, .int 0, .int 0, .int (-4), .ref 89, .int 0, .ref 90, .ref 91, .ref 92, .null, .null, .int 0])) := pu_at
theorem ym60_c92 : ym60.2 92 = some (.inl (0, 4, .inl ymf38)) := (pu_ne (by decide)).trans ym59_c92
def ym61 : Mem := ma_new ym60 4 (.inl (0, 4, .inl (fun _ => 0)))
theorem ym61_1 : ym61.1 = (94, 2685) := by decide +kernel
theorem ym61_w : ma_wf ym61 := ma_wf_new ym60_w
theorem ym61_c82 : ym61.2 82 = some (.inr (7, [.ref 83, .int (nI 4), .ref 84, .int 0, .int 0, .int 0, .ref 85, .int 0, .int 0, .int 0, .int 0, .int 0, .int 0, .int 0, .int 0, .ref 86, .ref 87, .ref 88, .int 0, .int 0, .int (-4), .ref 89, .int 0, .ref 90, .ref 91, .ref 92, .null, .null, .int 0])) := (nw_lt (M := ym60) (by decide +kernel)).trans ym60_c82
def ym62 : Mem := ma_put ym61 82 (.inr (7, [.ref 83, .int (nI 4), .ref 84, .int 0, .int 0, .int 0, .ref 85, .int 0, .int 0, .int 0, .int 0, .int 0, .int 0, .int 0, .int 0, .ref 86, .ref 87, .ref 88, .int 0, .int 0, .int (-4), .ref 89, .int 0, .ref 90, .ref 91, .ref 92, .ref 93, .null, .int 0]))
theorem ym62_1 : ym62.1 = (94, 2685) := by decide +kernel
theorem ym62_w : ma_wf ym62 := ma_wf_put ym61_w (by decide +kernel)
theorem ym62_c82 : ym62.2 82 = some (.inr (7, [.ref 83, .int (nI 4), .ref 84, .int 0, .int 0, .int 0, .ref 85, .int 0, .int 0, .int 0, .int 0, .int 0, .int 0, .int 0, .int 0, .ref 86, .ref 87, .ref 88, .int 0, .int 0, .int (-4), .ref 89, .int 0, .ref 90, .ref 91, .ref 92, .ref 93, .null, .int 0])) := pu_at
def ym63 : Mem := ma_new ym62 160 (.inl (0, 160, .inl (fun _ => 0)))
theorem ym63_1 : ym63.1 = (95, 2845) := by decide +kernel
theorem ym63_w : ma_wf ym63 := ma_wf_new ym62_w
theorem ym63_c82 : ym63.2 82 = some (.inr (7, [.ref 83, .int (nI 4), .ref 84, .int 0, .int 0, .int 0, .ref 85, .int 0, .int 0, .int 0, .int 0, .int 0, .int 0, .int 0, .int 0, .ref 86, .ref 87, .ref 88, .int 0, .int 0, .int (-4), .ref 89, .int 0, .ref 90, .ref 91, .ref 92, .ref 93, .null, .int 0])) := (nw_lt (M := ym62) (by decide +kernel)).trans ym62_c82
def ym64 : Mem := ma_put ym63 82 (.inr (7, [.ref 83, .int (nI 4), .ref 84, .int 0, .int 0, .int 0, .ref 85, .int 0, .int 0, .int 0, .int 0, .int 0, .int 0, .int 0, .int 0, .ref 86, .ref 87, .ref 88, .int 0, .int 0, .int (-4), .ref 89, .int 0, .ref 90, .ref 91, .ref 92, .ref 93, .ref 94, .int 0]))
theorem ym64_1 : ym64.1 = (95, 2845) := by decide +kernel
theorem ym64_w : ma_wf ym64 := ma_wf_put ym63_w (by decide +kernel)
theorem ym64_c82 : ym64.2 82 = some (.inr (7, [.ref 83, .int (nI 4), .ref 84, .int 0, .int 0, .int 0, .ref 85, .int 0, .int 0, .int 0, .int 0, .int 0, .int 0, .int 0, .int 0, .ref 86, .ref 87, .ref 88, .int 0, .int 0, .int (-4), .ref 89, .int 0, .ref 90, .ref 91, .ref 92, .ref 93, .ref 94, .int 0])) := pu_at
def ymE : Mem := ym64
theorem ymE_1 : ymE.1 = (95, 2845) := ym64_1
theorem ymE_w : ma_wf ymE := ym64_w
theorem c_X7_init {d : Nat} : Cl (d + 1) mX7_init [.ref 82] ym0 none ymE := by
  refine Cl_of_V (it := true) rfl (fun _ => rfl) (Nat.le_of_ble_eq_true rfl) (by decide +kernel) (by decide +kernel) ?_
  show V cX7_init 1 RX7 true (d + 1) none none 95 2845 0 [.ref 82] [] ym0 _
  refine V_aload_n dX7_init_0 rfl rfl rfl ?_
  refine V_objInit (st := []) dX7_init_1 oi_X7 oi_inst oi_code (Nat.le_of_ble_eq_true rfl) rfl ?_
  refine V_aload_n dX7_init_4 rfl rfl rfl ?_
  refine V_sipush (v := (nI 450)) dX7_init_5 rfl rfl ?_
  refine V_newa (t := 0) (N := 450) (M := ym0) dX7_init_8 rfl (Or.inl ⟨rfl, rfl⟩) na_int rfl (by decide) (by decide +kernel) (by decide +kernel) rfl ?_
  show V cX7_init 1 RX7 true (d + 1) none none 95 2845 10 [.ref 82] [.ref 83, .ref 82] ym1 _
  refine V_putF (M := ym1) dX7_init_10 fl_X7_7 rfl rfl rfl (Or.inr ⟨_, rfl⟩) ym1_c82 (by decide) rfl ?_
  show V cX7_init 1 RX7 true (d + 1) none none 95 2845 13 [.ref 82] [] ym2 _
  refine V_aload_n dX7_init_13 rfl rfl rfl ?_
  refine V_iconst (v := (nI 4)) dX7_init_14 rfl rfl ?_
  refine V_putI (M := ym2) dX7_init_15 fl_X7_13 rfl (Or.inl rfl) ym2_c82 (by decide) rfl ?_
  show V cX7_init 1 RX7 true (d + 1) none none 95 2845 18 [.ref 82] [] ym3 _
  refine V_aload_n dX7_init_18 rfl rfl rfl ?_
  refine V_bipush (v := (nI 75)) dX7_init_19 rfl rfl ?_
  refine V_newa (t := 0) (N := 75) (M := ym3) dX7_init_21 rfl (Or.inl ⟨rfl, rfl⟩) na_int rfl (by decide) (by decide +kernel) (by decide +kernel) rfl ?_
  show V cX7_init 1 RX7 true (d + 1) none none 95 2845 23 [.ref 82] [.ref 84, .ref 82] ym4 _
  refine V_putF (M := ym4) dX7_init_23 fl_X7_17 rfl rfl rfl (Or.inr ⟨_, rfl⟩) ym4_c82 (by decide) rfl ?_
  show V cX7_init 1 RX7 true (d + 1) none none 95 2845 26 [.ref 82] [] ym5 _
  refine V_aload_n dX7_init_26 rfl rfl rfl ?_
  refine V_sipush (v := (nI 160)) dX7_init_27 rfl rfl ?_
  refine V_newa (t := 0) (N := 160) (M := ym5) dX7_init_30 rfl (Or.inl ⟨rfl, rfl⟩) na_int rfl (by decide) (by decide +kernel) (by decide +kernel) rfl ?_
  show V cX7_init 1 RX7 true (d + 1) none none 95 2845 32 [.ref 82] [.ref 85, .ref 82] ym6 _
  refine V_putF (M := ym6) dX7_init_32 fl_X7_20 rfl rfl rfl (Or.inr ⟨_, rfl⟩) ym6_c82 (by decide) rfl ?_
  show V cX7_init 1 RX7 true (d + 1) none none 95 2845 35 [.ref 82] [] ym7 _
  refine V_aload_n dX7_init_35 rfl rfl rfl ?_
  refine V_bipush (v := (nI 7)) dX7_init_36 rfl rfl ?_
  refine V_newa (t := 0) (N := 7) (M := ym7) dX7_init_38 rfl (Or.inl ⟨rfl, rfl⟩) na_int rfl (by decide) (by decide +kernel) (by decide +kernel) rfl ?_
  show V cX7_init 1 RX7 true (d + 1) none none 95 2845 40 [.ref 82] [.ref 86, .ref 82] ym8 _
  refine V_dup dX7_init_40 rfl rfl ?_
  refine V_iconst (v := (nI 0)) dX7_init_41 rfl rfl ?_
  refine V_iconst (v := (nI 0)) dX7_init_42 rfl rfl ?_
  refine V_iast (j := 0) (M := ym8) dX7_init_43 ym8_c86 rfl (by decide) (by decide) rfl ?_
  show V cX7_init 1 RX7 true (d + 1) none none 95 2845 44 [.ref 82] [.ref 86, .ref 82] ym9 _
  refine V_dup dX7_init_44 rfl rfl ?_
  refine V_iconst (v := (nI 1)) dX7_init_45 rfl rfl ?_
  refine V_iconst (v := (nI 4)) dX7_init_46 rfl rfl ?_
  refine V_iast (j := 1) (M := ym9) dX7_init_47 ym9_c86 rfl (by decide) (by decide) rfl ?_
  show V cX7_init 1 RX7 true (d + 1) none none 95 2845 48 [.ref 82] [.ref 86, .ref 82] ym10 _
  refine V_dup dX7_init_48 rfl rfl ?_
  refine V_iconst (v := (nI 2)) dX7_init_49 rfl rfl ?_
  refine V_bipush (v := (nI 8)) dX7_init_50 rfl rfl ?_
  refine V_iast (j := 2) (M := ym10) dX7_init_52 ym10_c86 rfl (by decide) (by decide) rfl ?_
  show V cX7_init 1 RX7 true (d + 1) none none 95 2845 53 [.ref 82] [.ref 86, .ref 82] ym11 _
  refine V_dup dX7_init_53 rfl rfl ?_
  refine V_iconst (v := (nI 3)) dX7_init_54 rfl rfl ?_
  refine V_bipush (v := (nI 13)) dX7_init_55 rfl rfl ?_
  refine V_iast (j := 3) (M := ym11) dX7_init_57 ym11_c86 rfl (by decide) (by decide) rfl ?_
  show V cX7_init 1 RX7 true (d + 1) none none 95 2845 58 [.ref 82] [.ref 86, .ref 82] ym12 _
  refine V_dup dX7_init_58 rfl rfl ?_
  refine V_iconst (v := (nI 4)) dX7_init_59 rfl rfl ?_
  refine V_bipush (v := (nI 18)) dX7_init_60 rfl rfl ?_
  refine V_iast (j := 4) (M := ym12) dX7_init_62 ym12_c86 rfl (by decide) (by decide) rfl ?_
  show V cX7_init 1 RX7 true (d + 1) none none 95 2845 63 [.ref 82] [.ref 86, .ref 82] ym13 _
  refine V_dup dX7_init_63 rfl rfl ?_
  refine V_iconst (v := (nI 5)) dX7_init_64 rfl rfl ?_
  refine V_bipush (v := (nI 23)) dX7_init_65 rfl rfl ?_
  refine V_iast (j := 5) (M := ym13) dX7_init_67 ym13_c86 rfl (by decide) (by decide) rfl ?_
  show V cX7_init 1 RX7 true (d + 1) none none 95 2845 68 [.ref 82] [.ref 86, .ref 82] ym14 _
  refine V_dup dX7_init_68 rfl rfl ?_
  refine V_bipush (v := (nI 6)) dX7_init_69 rfl rfl ?_
  refine V_bipush (v := (nI 27)) dX7_init_71 rfl rfl ?_
  refine V_iast (j := 6) (M := ym14) dX7_init_73 ym14_c86 rfl (by decide) (by decide) rfl ?_
  show V cX7_init 1 RX7 true (d + 1) none none 95 2845 74 [.ref 82] [.ref 86, .ref 82] ym15 _
  refine V_putF (M := ym15) dX7_init_74 fl_X7_23 rfl rfl rfl (Or.inr ⟨_, rfl⟩) ym15_c82 (by decide) rfl ?_
  show V cX7_init 1 RX7 true (d + 1) none none 95 2845 77 [.ref 82] [] ym16 _
  refine V_aload_n dX7_init_77 rfl rfl rfl ?_
  refine V_bipush (v := (nI 27)) dX7_init_78 rfl rfl ?_
  refine V_newa (t := 0) (N := 27) (M := ym16) dX7_init_80 rfl (Or.inl ⟨rfl, rfl⟩) na_int rfl (by decide) (by decide +kernel) (by decide +kernel) rfl ?_
  show V cX7_init 1 RX7 true (d + 1) none none 95 2845 82 [.ref 82] [.ref 87, .ref 82] ym17 _
  refine V_dup dX7_init_82 rfl rfl ?_
  refine V_iconst (v := (nI 0)) dX7_init_83 rfl rfl ?_
  refine V_bipush (v := (nI 115)) dX7_init_84 rfl rfl ?_
  refine V_iast (j := 0) (M := ym17) dX7_init_86 ym17_c87 rfl (by decide) (by decide) rfl ?_
  show V cX7_init 1 RX7 true (d + 1) none none 95 2845 87 [.ref 82] [.ref 87, .ref 82] ym18 _
  refine V_dup dX7_init_87 rfl rfl ?_
  refine V_iconst (v := (nI 1)) dX7_init_88 rfl rfl ?_
  refine V_bipush (v := (nI 116)) dX7_init_89 rfl rfl ?_
  refine V_iast (j := 1) (M := ym18) dX7_init_91 ym18_c87 rfl (by decide) (by decide) rfl ?_
  show V cX7_init 1 RX7 true (d + 1) none none 95 2845 92 [.ref 82] [.ref 87, .ref 82] ym19 _
  refine V_dup dX7_init_92 rfl rfl ?_
  refine V_iconst (v := (nI 2)) dX7_init_93 rfl rfl ?_
  refine V_bipush (v := (nI 97)) dX7_init_94 rfl rfl ?_
  refine V_iast (j := 2) (M := ym19) dX7_init_96 ym19_c87 rfl (by decide) (by decide) rfl ?_
  show V cX7_init 1 RX7 true (d + 1) none none 95 2845 97 [.ref 82] [.ref 87, .ref 82] ym20 _
  refine V_dup dX7_init_97 rfl rfl ?_
  refine V_iconst (v := (nI 3)) dX7_init_98 rfl rfl ?_
  refine V_bipush (v := (nI 121)) dX7_init_99 rfl rfl ?_
  refine V_iast (j := 3) (M := ym20) dX7_init_101 ym20_c87 rfl (by decide) (by decide) rfl ?_
  show V cX7_init 1 RX7 true (d + 1) none none 95 2845 102 [.ref 82] [.ref 87, .ref 82] ym21 _
  refine V_dup dX7_init_102 rfl rfl ?_
  refine V_iconst (v := (nI 4)) dX7_init_103 rfl rfl ?_
  refine V_bipush (v := (nI 115)) dX7_init_104 rfl rfl ?_
  refine V_iast (j := 4) (M := ym21) dX7_init_106 ym21_c87 rfl (by decide) (by decide) rfl ?_
  show V cX7_init 1 RX7 true (d + 1) none none 95 2845 107 [.ref 82] [.ref 87, .ref 82] ym22 _
  refine V_dup dX7_init_107 rfl rfl ?_
  refine V_iconst (v := (nI 5)) dX7_init_108 rfl rfl ?_
  refine V_bipush (v := (nI 116)) dX7_init_109 rfl rfl ?_
  refine V_iast (j := 5) (M := ym22) dX7_init_111 ym22_c87 rfl (by decide) (by decide) rfl ?_
  show V cX7_init 1 RX7 true (d + 1) none none 95 2845 112 [.ref 82] [.ref 87, .ref 82] ym23 _
  refine V_dup dX7_init_112 rfl rfl ?_
  refine V_bipush (v := (nI 6)) dX7_init_113 rfl rfl ?_
  refine V_bipush (v := (nI 101)) dX7_init_115 rfl rfl ?_
  refine V_iast (j := 6) (M := ym23) dX7_init_117 ym23_c87 rfl (by decide) (by decide) rfl ?_
  show V cX7_init 1 RX7 true (d + 1) none none 95 2845 118 [.ref 82] [.ref 87, .ref 82] ym24 _
  refine V_dup dX7_init_118 rfl rfl ?_
  refine V_bipush (v := (nI 7)) dX7_init_119 rfl rfl ?_
  refine V_bipush (v := (nI 112)) dX7_init_121 rfl rfl ?_
  refine V_iast (j := 7) (M := ym24) dX7_init_123 ym24_c87 rfl (by decide) (by decide) rfl ?_
  show V cX7_init 1 RX7 true (d + 1) none none 95 2845 124 [.ref 82] [.ref 87, .ref 82] ym25 _
  refine V_dup dX7_init_124 rfl rfl ?_
  refine V_bipush (v := (nI 8)) dX7_init_125 rfl rfl ?_
  refine V_bipush (v := (nI 102)) dX7_init_127 rfl rfl ?_
  refine V_iast (j := 8) (M := ym25) dX7_init_129 ym25_c87 rfl (by decide) (by decide) rfl ?_
  show V cX7_init 1 RX7 true (d + 1) none none 95 2845 130 [.ref 82] [.ref 87, .ref 82] ym26 _
  refine V_dup dX7_init_130 rfl rfl ?_
  refine V_bipush (v := (nI 9)) dX7_init_131 rfl rfl ?_
  refine V_bipush (v := (nI 114)) dX7_init_133 rfl rfl ?_
  refine V_iast (j := 9) (M := ym26) dX7_init_135 ym26_c87 rfl (by decide) (by decide) rfl ?_
  show V cX7_init 1 RX7 true (d + 1) none none 95 2845 136 [.ref 82] [.ref 87, .ref 82] ym27 _
  refine V_dup dX7_init_136 rfl rfl ?_
  refine V_bipush (v := (nI 10)) dX7_init_137 rfl rfl ?_
  refine V_bipush (v := (nI 111)) dX7_init_139 rfl rfl ?_
  refine V_iast (j := 10) (M := ym27) dX7_init_141 ym27_c87 rfl (by decide) (by decide) rfl ?_
  show V cX7_init 1 RX7 true (d + 1) none none 95 2845 142 [.ref 82] [.ref 87, .ref 82] ym28 _
  refine V_dup dX7_init_142 rfl rfl ?_
  refine V_bipush (v := (nI 11)) dX7_init_143 rfl rfl ?_
  refine V_bipush (v := (nI 110)) dX7_init_145 rfl rfl ?_
  refine V_iast (j := 11) (M := ym28) dX7_init_147 ym28_c87 rfl (by decide) (by decide) rfl ?_
  show V cX7_init 1 RX7 true (d + 1) none none 95 2845 148 [.ref 82] [.ref 87, .ref 82] ym29 _
  refine V_dup dX7_init_148 rfl rfl ?_
  refine V_bipush (v := (nI 12)) dX7_init_149 rfl rfl ?_
  refine V_bipush (v := (nI 116)) dX7_init_151 rfl rfl ?_
  refine V_iast (j := 12) (M := ym29) dX7_init_153 ym29_c87 rfl (by decide) (by decide) rfl ?_
  show V cX7_init 1 RX7 true (d + 1) none none 95 2845 154 [.ref 82] [.ref 87, .ref 82] ym30 _
  refine V_dup dX7_init_154 rfl rfl ?_
  refine V_bipush (v := (nI 13)) dX7_init_155 rfl rfl ?_
  refine V_bipush (v := (nI 111)) dX7_init_157 rfl rfl ?_
  refine V_iast (j := 13) (M := ym30) dX7_init_159 ym30_c87 rfl (by decide) (by decide) rfl ?_
  show V cX7_init 1 RX7 true (d + 1) none none 95 2845 160 [.ref 82] [.ref 87, .ref 82] ym31 _
  refine V_dup dX7_init_160 rfl rfl ?_
  refine V_bipush (v := (nI 14)) dX7_init_161 rfl rfl ?_
  refine V_bipush (v := (nI 102)) dX7_init_163 rfl rfl ?_
  refine V_iast (j := 14) (M := ym31) dX7_init_165 ym31_c87 rfl (by decide) (by decide) rfl ?_
  show V cX7_init 1 RX7 true (d + 1) none none 95 2845 166 [.ref 82] [.ref 87, .ref 82] ym32 _
  refine V_dup dX7_init_166 rfl rfl ?_
  refine V_bipush (v := (nI 15)) dX7_init_167 rfl rfl ?_
  refine V_bipush (v := (nI 116)) dX7_init_169 rfl rfl ?_
  refine V_iast (j := 15) (M := ym32) dX7_init_171 ym32_c87 rfl (by decide) (by decide) rfl ?_
  show V cX7_init 1 RX7 true (d + 1) none none 95 2845 172 [.ref 82] [.ref 87, .ref 82] ym33 _
  refine V_dup dX7_init_172 rfl rfl ?_
  refine V_bipush (v := (nI 16)) dX7_init_173 rfl rfl ?_
  refine V_bipush (v := (nI 101)) dX7_init_175 rfl rfl ?_
  refine V_iast (j := 16) (M := ym33) dX7_init_177 ym33_c87 rfl (by decide) (by decide) rfl ?_
  show V cX7_init 1 RX7 true (d + 1) none none 95 2845 178 [.ref 82] [.ref 87, .ref 82] ym34 _
  refine V_dup dX7_init_178 rfl rfl ?_
  refine V_bipush (v := (nI 17)) dX7_init_179 rfl rfl ?_
  refine V_bipush (v := (nI 110)) dX7_init_181 rfl rfl ?_
  refine V_iast (j := 17) (M := ym34) dX7_init_183 ym34_c87 rfl (by decide) (by decide) rfl ?_
  show V cX7_init 1 RX7 true (d + 1) none none 95 2845 184 [.ref 82] [.ref 87, .ref 82] ym35 _
  refine V_dup dX7_init_184 rfl rfl ?_
  refine V_bipush (v := (nI 18)) dX7_init_185 rfl rfl ?_
  refine V_bipush (v := (nI 98)) dX7_init_187 rfl rfl ?_
  refine V_iast (j := 18) (M := ym35) dX7_init_189 ym35_c87 rfl (by decide) (by decide) rfl ?_
  show V cX7_init 1 RX7 true (d + 1) none none 95 2845 190 [.ref 82] [.ref 87, .ref 82] ym36 _
  refine V_dup dX7_init_190 rfl rfl ?_
  refine V_bipush (v := (nI 19)) dX7_init_191 rfl rfl ?_
  refine V_bipush (v := (nI 111)) dX7_init_193 rfl rfl ?_
  refine V_iast (j := 19) (M := ym36) dX7_init_195 ym36_c87 rfl (by decide) (by decide) rfl ?_
  show V cX7_init 1 RX7 true (d + 1) none none 95 2845 196 [.ref 82] [.ref 87, .ref 82] ym37 _
  refine V_dup dX7_init_196 rfl rfl ?_
  refine V_bipush (v := (nI 20)) dX7_init_197 rfl rfl ?_
  refine V_bipush (v := (nI 111)) dX7_init_199 rfl rfl ?_
  refine V_iast (j := 20) (M := ym37) dX7_init_201 ym37_c87 rfl (by decide) (by decide) rfl ?_
  show V cX7_init 1 RX7 true (d + 1) none none 95 2845 202 [.ref 82] [.ref 87, .ref 82] ym38 _
  refine V_dup dX7_init_202 rfl rfl ?_
  refine V_bipush (v := (nI 21)) dX7_init_203 rfl rfl ?_
  refine V_bipush (v := (nI 107)) dX7_init_205 rfl rfl ?_
  refine V_iast (j := 21) (M := ym38) dX7_init_207 ym38_c87 rfl (by decide) (by decide) rfl ?_
  show V cX7_init 1 RX7 true (d + 1) none none 95 2845 208 [.ref 82] [.ref 87, .ref 82] ym39 _
  refine V_dup dX7_init_208 rfl rfl ?_
  refine V_bipush (v := (nI 22)) dX7_init_209 rfl rfl ?_
  refine V_bipush (v := (nI 115)) dX7_init_211 rfl rfl ?_
  refine V_iast (j := 22) (M := ym39) dX7_init_213 ym39_c87 rfl (by decide) (by decide) rfl ?_
  show V cX7_init 1 RX7 true (d + 1) none none 95 2845 214 [.ref 82] [.ref 87, .ref 82] ym40 _
  refine V_dup dX7_init_214 rfl rfl ?_
  refine V_bipush (v := (nI 23)) dX7_init_215 rfl rfl ?_
  refine V_bipush (v := (nI 119)) dX7_init_217 rfl rfl ?_
  refine V_iast (j := 23) (M := ym40) dX7_init_219 ym40_c87 rfl (by decide) (by decide) rfl ?_
  show V cX7_init 1 RX7 true (d + 1) none none 95 2845 220 [.ref 82] [.ref 87, .ref 82] ym41 _
  refine V_dup dX7_init_220 rfl rfl ?_
  refine V_bipush (v := (nI 24)) dX7_init_221 rfl rfl ?_
  refine V_bipush (v := (nI 97)) dX7_init_223 rfl rfl ?_
  refine V_iast (j := 24) (M := ym41) dX7_init_225 ym41_c87 rfl (by decide) (by decide) rfl ?_
  show V cX7_init 1 RX7 true (d + 1) none none 95 2845 226 [.ref 82] [.ref 87, .ref 82] ym42 _
  refine V_dup dX7_init_226 rfl rfl ?_
  refine V_bipush (v := (nI 25)) dX7_init_227 rfl rfl ?_
  refine V_bipush (v := (nI 110)) dX7_init_229 rfl rfl ?_
  refine V_iast (j := 25) (M := ym42) dX7_init_231 ym42_c87 rfl (by decide) (by decide) rfl ?_
  show V cX7_init 1 RX7 true (d + 1) none none 95 2845 232 [.ref 82] [.ref 87, .ref 82] ym43 _
  refine V_dup dX7_init_232 rfl rfl ?_
  refine V_bipush (v := (nI 26)) dX7_init_233 rfl rfl ?_
  refine V_bipush (v := (nI 116)) dX7_init_235 rfl rfl ?_
  refine V_iast (j := 26) (M := ym43) dX7_init_237 ym43_c87 rfl (by decide) (by decide) rfl ?_
  show V cX7_init 1 RX7 true (d + 1) none none 95 2845 238 [.ref 82] [.ref 87, .ref 82] ym44 _
  refine V_putF (M := ym44) dX7_init_238 fl_X7_26 rfl rfl rfl (Or.inr ⟨_, rfl⟩) ym44_c82 (by decide) rfl ?_
  show V cX7_init 1 RX7 true (d + 1) none none 95 2845 241 [.ref 82] [] ym45 _
  refine V_aload_n dX7_init_241 rfl rfl rfl ?_
  refine V_iconst (v := (nI 4)) dX7_init_242 rfl rfl ?_
  refine V_newa (t := 0) (N := 4) (M := ym45) dX7_init_243 rfl (Or.inl ⟨rfl, rfl⟩) na_int rfl (by decide) (by decide +kernel) (by decide +kernel) rfl ?_
  show V cX7_init 1 RX7 true (d + 1) none none 95 2845 245 [.ref 82] [.ref 88, .ref 82] ym46 _
  refine V_putF (M := ym46) dX7_init_245 fl_X7_29 rfl rfl rfl (Or.inr ⟨_, rfl⟩) ym46_c82 (by decide) rfl ?_
  show V cX7_init 1 RX7 true (d + 1) none none 95 2845 248 [.ref 82] [] ym47 _
  refine V_aload_n dX7_init_248 rfl rfl rfl ?_
  refine V_bipush (v := (-4)) dX7_init_249 rfl rfl ?_
  refine V_putI (M := ym47) dX7_init_251 fl_X7_32 rfl (Or.inl rfl) ym47_c82 (by decide) rfl ?_
  show V cX7_init 1 RX7 true (d + 1) none none 95 2845 254 [.ref 82] [] ym48 _
  refine V_aload_n dX7_init_254 rfl rfl rfl ?_
  refine V_bipush (v := (nI 18)) dX7_init_255 rfl rfl ?_
  refine V_newa (t := 0) (N := 18) (M := ym48) dX7_init_257 rfl (Or.inl ⟨rfl, rfl⟩) na_int rfl (by decide) (by decide +kernel) (by decide +kernel) rfl ?_
  show V cX7_init 1 RX7 true (d + 1) none none 95 2845 259 [.ref 82] [.ref 89, .ref 82] ym49 _
  refine V_putF (M := ym49) dX7_init_259 fl_X7_35 rfl rfl rfl (Or.inr ⟨_, rfl⟩) ym49_c82 (by decide) rfl ?_
  show V cX7_init 1 RX7 true (d + 1) none none 95 2845 262 [.ref 82] [] ym50 _
  refine V_aload_n dX7_init_262 rfl rfl rfl ?_
  refine V_sipush (v := (nI 984)) dX7_init_263 rfl rfl ?_
  refine V_newa (t := 0) (N := 984) (M := ym50) dX7_init_266 rfl (Or.inl ⟨rfl, rfl⟩) na_int rfl (by decide) (by decide +kernel) (by decide +kernel) rfl ?_
  show V cX7_init 1 RX7 true (d + 1) none none 95 2845 268 [.ref 82] [.ref 90, .ref 82] ym51 _
  refine V_putF (M := ym51) dX7_init_268 fl_X7_38 rfl rfl rfl (Or.inr ⟨_, rfl⟩) ym51_c82 (by decide) rfl ?_
  show V cX7_init 1 RX7 true (d + 1) none none 95 2845 271 [.ref 82] [] ym52 _
  refine V_aload_n dX7_init_271 rfl rfl rfl ?_
  refine V_iconst (v := (nI 2)) dX7_init_272 rfl rfl ?_
  refine V_newa (t := 2) (N := 2) (M := ym52) dX7_init_273 rfl (Or.inr (Or.inr ⟨rfl, rfl⟩)) na_boolean rfl (by decide) (by decide +kernel) (by decide +kernel) rfl ?_
  show V cX7_init 1 RX7 true (d + 1) none none 95 2845 275 [.ref 82] [.ref 91, .ref 82] ym53 _
  refine V_putF (M := ym53) dX7_init_275 fl_X7_41 rfl rfl rfl (Or.inr ⟨_, rfl⟩) ym53_c82 (by decide) rfl ?_
  show V cX7_init 1 RX7 true (d + 1) none none 95 2845 278 [.ref 82] [] ym54 _
  refine V_aload_n dX7_init_278 rfl rfl rfl ?_
  refine V_iconst (v := (nI 4)) dX7_init_279 rfl rfl ?_
  refine V_newa (t := 0) (N := 4) (M := ym54) dX7_init_280 rfl (Or.inl ⟨rfl, rfl⟩) na_int rfl (by decide) (by decide +kernel) (by decide +kernel) rfl ?_
  show V cX7_init 1 RX7 true (d + 1) none none 95 2845 282 [.ref 82] [.ref 92, .ref 82] ym55 _
  refine V_dup dX7_init_282 rfl rfl ?_
  refine V_iconst (v := (nI 0)) dX7_init_283 rfl rfl ?_
  refine V_bipush (v := (-4)) dX7_init_284 rfl rfl ?_
  refine V_iast (j := 0) (M := ym55) dX7_init_286 ym55_c92 rfl (by decide) (by decide) rfl ?_
  show V cX7_init 1 RX7 true (d + 1) none none 95 2845 287 [.ref 82] [.ref 92, .ref 82] ym56 _
  refine V_dup dX7_init_287 rfl rfl ?_
  refine V_iconst (v := (nI 1)) dX7_init_288 rfl rfl ?_
  refine V_bipush (v := (-4)) dX7_init_289 rfl rfl ?_
  refine V_iast (j := 1) (M := ym56) dX7_init_291 ym56_c92 rfl (by decide) (by decide) rfl ?_
  show V cX7_init 1 RX7 true (d + 1) none none 95 2845 292 [.ref 82] [.ref 92, .ref 82] ym57 _
  refine V_dup dX7_init_292 rfl rfl ?_
  refine V_iconst (v := (nI 2)) dX7_init_293 rfl rfl ?_
  refine V_bipush (v := (-4)) dX7_init_294 rfl rfl ?_
  refine V_iast (j := 2) (M := ym57) dX7_init_296 ym57_c92 rfl (by decide) (by decide) rfl ?_
  show V cX7_init 1 RX7 true (d + 1) none none 95 2845 297 [.ref 82] [.ref 92, .ref 82] ym58 _
  refine V_dup dX7_init_297 rfl rfl ?_
  refine V_iconst (v := (nI 3)) dX7_init_298 rfl rfl ?_
  refine V_bipush (v := (-4)) dX7_init_299 rfl rfl ?_
  refine V_iast (j := 3) (M := ym58) dX7_init_301 ym58_c92 rfl (by decide) (by decide) rfl ?_
  show V cX7_init 1 RX7 true (d + 1) none none 95 2845 302 [.ref 82] [.ref 92, .ref 82] ym59 _
  refine V_putF (M := ym59) dX7_init_302 fl_X7_45 rfl rfl rfl (Or.inr ⟨_, rfl⟩) ym59_c82 (by decide) rfl ?_
  show V cX7_init 1 RX7 true (d + 1) none none 95 2845 305 [.ref 82] [] ym60 _
  refine V_aload_n dX7_init_305 rfl rfl rfl ?_
  refine V_iconst (v := (nI 4)) dX7_init_306 rfl rfl ?_
  refine V_newa (t := 0) (N := 4) (M := ym60) dX7_init_307 rfl (Or.inl ⟨rfl, rfl⟩) na_int rfl (by decide) (by decide +kernel) (by decide +kernel) rfl ?_
  show V cX7_init 1 RX7 true (d + 1) none none 95 2845 309 [.ref 82] [.ref 93, .ref 82] ym61 _
  refine V_putF (M := ym61) dX7_init_309 fl_X7_48 rfl rfl rfl (Or.inr ⟨_, rfl⟩) ym61_c82 (by decide) rfl ?_
  show V cX7_init 1 RX7 true (d + 1) none none 95 2845 312 [.ref 82] [] ym62 _
  refine V_aload_n dX7_init_312 rfl rfl rfl ?_
  refine V_sipush (v := (nI 160)) dX7_init_313 rfl rfl ?_
  refine V_newa (t := 0) (N := 160) (M := ym62) dX7_init_316 rfl (Or.inl ⟨rfl, rfl⟩) na_int rfl (by decide) (by decide +kernel) (by decide +kernel) rfl ?_
  show V cX7_init 1 RX7 true (d + 1) none none 95 2845 318 [.ref 82] [.ref 94, .ref 82] ym63 _
  refine V_putF (M := ym63) dX7_init_318 fl_X7_51 rfl rfl rfl (Or.inr ⟨_, rfl⟩) ym63_c82 (by decide) rfl ?_
  show V cX7_init 1 RX7 true (d + 1) none none 95 2845 321 [.ref 82] [] ym64 _
  exact V_return dX7_init_321 rfl ⟨rfl, rfl⟩
