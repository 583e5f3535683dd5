/-! CHANGES: what stays in common -/
def IP (F : FF) (H : Hs) : Prop := RH F H ∧ RIm F H.1.1 ∧ RT F ∧ RS F ∧ RK F ∧ RC F ∧ F 33 2 = F 82 8 ∧ F 0 11 = F 82 28
def KH (F F2 : FF) : Prop := (∀ c, c ≠ 82 → c ≠ 83 → c ≠ 88 → c ≠ 90 → (c < 1 ∨ 31 ≤ c) → (c < 40 ∨ 44 ≤ c) → F2 c = F c) ∧ (∀ k, k ≠ 18 → k ≠ 19 → F2 82 k = F 82 k) ∧ ∀ k, 75 ≤ k → k < 225 → F2 83 k = F 83 k
theorem KH.of {F F1 F2 : FF} (a : FrH 1 F F1) (b : FrA 0 F1 F2) : KH F F2 :=
  ⟨fun c h1 h2 h3 h4 h5 h6 => (b.1 c h2 h1 h3).trans (a c (by omega)), fun k h1 h2 => by rw [b.2.1 k h1 h2, a 82 (by omega)], fun k h1 h2 => by rw [b.2.2 k (by omega), a 83 (by omega)]⟩
theorem inv_H {F F2 : FF} {H H' : Hs} (h : IP F H) (hR : RH F2 H') (hn : H'.1.1 = H.1.1) (k : KH F F2) : Inv F2 := by
  obtain ⟨a1, a2, a3, a4, a5, a6, a7, a8⟩ := h
  have k1 : ∀ c, c < 1 ∨ (31 ≤ c ∧ c < 40) ∨ (44 ≤ c ∧ c < 82) ∨ c = 84 ∨ c = 85 ∨ c = 86 ∨ c = 87 ∨ c = 89 ∨ 91 ≤ c → F2 c = F c := fun c hc => k.1 c (by omega) (by omega) (by omega) (by omega) (by omega) (by omega)
  refine ⟨H', hR, ?_, a3.mv (by rw [k1 33 (by omega)]) (k1 _ (by omega)) (k.2.1 7 (by omega) (by omega)) (k1 _ (by omega)), a4.mv (k1 _ (by omega)) (k1 _ (by omega)) (k1 _ (by omega)) (k1 _ (by omega)) (k.2.1 22 (by omega) (by omega)) (k1 _ (by omega)), a5.mv (fun c _ _ => k1 c (by omega)) (k1 _ (by omega)) (k1 _ (by omega)) (k1 _ (by omega)), a6.mv (k1 _ (by omega)) (k1 _ (by omega)), by rw [k1 33 (by omega), k.2.1 8 (by omega) (by omega)]; exact a7, by rw [k1 0 (by omega), k.2.1 28 (by omega) (by omega)]; exact a8⟩
  rw [hn]
  exact a2.mv (k1 _ (by omega)) (k1 _ (by omega)) (fun c _ _ => k1 c (by omega)) (k.2.1 1 (by omega) (by omega)) (k.2.1 20 (by omega) (by omega)) (fun c h1 h2 => k.2.2 c h1 h2)
/-- a house that both have gone on from -/
theorem RH.go {F F1 F2 : FF} {H H' : Hs} (h : RH F H) (hX : HR 1 F1 H') (hY : PR 0 F2 H') (hW : WH H') (hA : okA H') (hs : H'.1.2.2.2 ≤ 9999) (b : FrA 0 F1 F2) (a : FrH 1 F F1) : RH F2 H' :=
  ⟨hX.keep hW.2.1 (fun c _ _ => b.1 c (by omega) (by omega) (by omega)), hY, hW, hA, hs, by rw [b.2.1 20 (by omega) (by omega), a 82 (by omega)]; exact h.2.2.2.2.2⟩
theorem MOK.no {α : Type} {fx fy : FF → Option (α × FF)} {F : FF} {r : α} (h1 : fx F = some (r, F)) (h2 : fy F = some (r, F)) (hI : Inv F) : MOK fx fy F := ⟨r, F, F, h1, h2, hI⟩
theorem RH.mv {F F' : FF} {H : Hs} (h : RH F H) (hx : ∀ c, 1 ≤ c → c < 16 → F' c = F c) (h1 : F' 82 1 = F 82 1) (h20 : F' 82 20 = F 82 20) (hy : ∀ k, k < 75 → F' 83 k = F 83 k) : RH F' H :=
  ⟨h.1.keep h.ns (fun c _ _ => hx c (by omega) (by omega)), h.2.1.keep h.2.2.1 h1 h20 (fun k _ _ => hy k (by omega)), h.2.2.1, h.2.2.2.1, h.2.2.2.2.1, by rw [h20]; exact h.2.2.2.2.2⟩
theorem i8_ok : ∀ j, j < 128 → (nI j).toInt8.toInt32.toInt8.toInt32 = nI j := by decide +kernel
theorem m_feed {N : Nat} {l1 : Int32} {F : FF} (hI : Inv F) : MOK (fX6_feed N l1) (fX7_feed N l1) F := by
  obtain ⟨H, a1, a2, ⟨n, b, t1, t2, t3, t4⟩, a4, a5, a6, a7, a8⟩ := id hI
  rcases guard (x := l1) 128 with ⟨j, hj, rfl⟩ | hg
  · by_cases hn : n = 160
    · subst hn
      refine MOK.no (r := -3) ?_ ?_ hI
      · unfold fX6_feed
        rw [xR127, bI_nI hj (by omega), if_pos n10, t2, if_neg (by decide)]
      · unfold fX7_feed
        rw [yR127, bI_nI hj (by omega), if_pos n10, t3, if_neg (by decide)]
    · obtain ⟨F1, hF1⟩ : ∃ F1, fput (fput F 34 n (nI j)) 33 1 (nI (n + 1)) = F1 := ⟨_, rfl⟩
      have x1 : F1 33 1 = nI (n + 1) := by rw [← hF1, fpu, if_pos ⟨rfl, rfl⟩]
      have x2 : ∀ k, k ≠ 1 → F1 33 k = F 33 k := fun k hk => by rw [← hF1, fpu, if_neg (fun h => hk h.2), fput_a (by omega)]
      have x3 : ∀ k, F1 34 k = if k = n then nI j else F 34 k := fun k => by
        rw [← hF1, fput_a (by omega), fpu]
        by_cases e : k = n
        · rw [if_pos ⟨rfl, e⟩, if_pos e]
        · rw [if_neg (fun h => e h.2), if_neg e]
      have x4 : ∀ c, c ≠ 33 → c ≠ 34 → F1 c = F c := fun c h3 h4 => by rw [← hF1, fput_a h3, fput_a h4]
      obtain ⟨F2, hF2⟩ : ∃ F2, fput (fput F1 85 n (nI j)) 82 7 (nI (n + 1)) = F2 := ⟨_, rfl⟩
      have y1 : F2 82 7 = nI (n + 1) := by rw [← hF2, fpu, if_pos ⟨rfl, rfl⟩]
      have y2 : ∀ k, k ≠ 7 → F2 82 k = F 82 k := fun k hk => by rw [← hF2, fpu, if_neg (fun h => hk h.2), fput_a (by omega), x4 82 (by omega) (by omega)]
      have y3 : ∀ k, F2 85 k = if k = n then nI j else F 85 k := fun k => by
        rw [← hF2, fput_a (by omega), fpu, x4 85 (by omega) (by omega)]
        by_cases e : k = n
        · rw [if_pos ⟨rfl, e⟩, if_pos e]
        · rw [if_neg (fun h => e h.2), if_neg e]
      have y4 : ∀ c, c ≠ 82 → c ≠ 85 → F2 c = F1 c := fun c h3 h4 => by rw [← hF2, fput_a h3, fput_a h4]
      have k : ∀ c, c ≠ 33 → c ≠ 34 → c ≠ 82 → c ≠ 85 → F2 c = F c := fun c h1 h2 h3 h4 => (y4 c h3 h4).trans (x4 c h1 h2)
      refine ⟨nI (n + 1), F1, F2, ?_, ?_, H, a1.mv (fun c _ _ => k c (by omega) (by omega) (by omega) (by omega)) (y2 1 (by omega)) (y2 20 (by omega)) (fun q _ => by rw [k 83 (by omega) (by omega) (by omega) (by omega)]), a2.mv (k _ (by omega) (by omega) (by omega) (by omega)) (k _ (by omega) (by omega) (by omega) (by omega)) (fun c _ _ => k c (by omega) (by omega) (by omega) (by omega)) (y2 1 (by omega)) (y2 20 (by omega)) (fun q _ _ => by rw [k 83 (by omega) (by omega) (by omega) (by omega)]), ⟨n + 1, fun i => if i = n then j else b i, by omega, by rw [y4 33 (by omega) (by omega), x1], y1, fun i hi => ?_⟩, a4.mv (k _ (by omega) (by omega) (by omega) (by omega)) (k _ (by omega) (by omega) (by omega) (by omega)) (k _ (by omega) (by omega) (by omega) (by omega)) (k _ (by omega) (by omega) (by omega) (by omega)) (y2 22 (by omega)) (k _ (by omega) (by omega) (by omega) (by omega)), a5.mv (fun c _ _ => k c (by omega) (by omega) (by omega) (by omega)) (k _ (by omega) (by omega) (by omega) (by omega)) (k _ (by omega) (by omega) (by omega) (by omega)) (k _ (by omega) (by omega) (by omega) (by omega)), a6.mv (k _ (by omega) (by omega) (by omega) (by omega)) (k _ (by omega) (by omega) (by omega) (by omega)), ?_, ?_⟩
      · unfold fX6_feed
        rw [xR127, bI_nI hj (by omega), if_pos n10, t2, if_pos (by show nI n < nI 160; simp (disch := omega) only [nI_ltI]; omega), st_ok a34 (by omega), i8_ok j hj, fput_a (by omega), t2, show nI n + 1 = nI (n + 1) from nI_1 n, hF1, nmE, x1]
      · unfold fX7_feed
        rw [yR127, bI_nI hj (by omega), if_pos n10, x4 82 (by omega) (by omega), t3, if_pos (by show ¬ nI n = nI 160; simp (disch := omega) only [nI_eq]; omega), st_ok a85 (by omega), fput_a (by omega), x4 82 (by omega) (by omega), t3, show nI n + 1 = nI (n + 1) from nI_1 n, hF2, nmE, y1]
      · rw [y4 34 (by omega) (by omega), x3, y3]
        dsimp only
        by_cases e : i = n
        · rw [if_pos e, if_pos e, if_pos e]; exact ⟨rfl, rfl, by omega⟩
        · rw [if_neg e, if_neg e, if_neg e]; exact t4 i (by omega)
      · rw [y4 33 (by omega) (by omega), x2 2 (by omega), y2 8 (by omega)]; exact a7
      · rw [k 0 (by omega) (by omega) (by omega) (by omega), y2 28 (by omega)]; exact a8
  · refine MOK.no (r := -1) ?_ ?_ hI
    · unfold fX6_feed
      rw [xR127, bI_f hg, if_neg (by decide)]
    · unfold fX7_feed
      rw [yR127, bI_f hg, if_neg (by decide)]
theorem nIl {n : Nat} (h : n < 2 ^ 31) : (nI n).toInt64 = lN n := nI_l h
theorem m_end {N : Nat} {l1 : Int32} {F : FF} (hI : Inv F) : MOK (fX6_end N l1) (fX7_end N l1) F := by
  obtain ⟨H, a1, a2, ⟨n, b, t1, t2, t3, t4⟩, a4, a5, a6, a7, a8⟩ := id hI
  unfold MOK fX6_end fX7_end
  rw [t2, xR (by omega)]
  rcases guard (x := l1) (n + 1) with ⟨j, hj, rfl⟩ | hg
  · rw [bI_nI hj (by omega), if_pos n10]
    obtain ⟨F1, hF1⟩ : ∃ F1, fput F 33 1 (nI j) = F1 := ⟨_, rfl⟩
    have x1 : F1 33 1 = nI j := by rw [← hF1, fpu, if_pos ⟨rfl, rfl⟩]
    have x2 : ∀ k, k ≠ 1 → F1 33 k = F 33 k := fun k hk => by rw [← hF1, fpu, if_neg (fun h => hk h.2)]
    have x4 : ∀ c, c ≠ 33 → F1 c = F c := fun c h3 => by rw [← hF1, fput_a h3]
    obtain ⟨F2, hF2⟩ : ∃ F2, fput F1 82 7 (nI j) = F2 := ⟨_, rfl⟩
    have y1 : F2 82 7 = nI j := by rw [← hF2, fpu, if_pos ⟨rfl, rfl⟩]
    have y2 : ∀ k, k ≠ 7 → F2 82 k = F 82 k := fun k hk => by rw [← hF2, fpu, if_neg (fun h => hk h.2), x4 82 (by omega)]
    have y4 : ∀ c, c ≠ 82 → F2 c = F1 c := fun c h3 => by rw [← hF2, fput_a h3]
    have k : ∀ c, c ≠ 33 → c ≠ 82 → F2 c = F c := fun c h1 h3 => (y4 c h3).trans (x4 c h1)
    refine ⟨nI n, F1, F2, ?_, ?_, H, a1.mv (fun c _ _ => k c (by omega) (by omega)) (y2 1 (by omega)) (y2 20 (by omega)) (fun q _ => by rw [k 83 (by omega) (by omega)]), a2.mv (k _ (by omega) (by omega)) (k _ (by omega) (by omega)) (fun c _ _ => k c (by omega) (by omega)) (y2 1 (by omega)) (y2 20 (by omega)) (fun q _ _ => by rw [k 83 (by omega) (by omega)]), ⟨j, b, by omega, by rw [y4 33 (by omega), x1], y1, fun i hi => by rw [k 34 (by omega) (by omega), k 85 (by omega) (by omega)]; exact t4 i (by omega)⟩, a4.mv (k _ (by omega) (by omega)) (k _ (by omega) (by omega)) (k _ (by omega) (by omega)) (k _ (by omega) (by omega)) (y2 22 (by omega)) (k _ (by omega) (by omega)), a5.mv (fun c _ _ => k c (by omega) (by omega)) (k _ (by omega) (by omega)) (k _ (by omega) (by omega)) (k _ (by omega) (by omega)), a6.mv (k _ (by omega) (by omega)) (k _ (by omega) (by omega)), ?_, ?_⟩
    · rw [hF1, nmE]
    · rw [x4 82 (by omega), t3, nIl (n := n) (by omega), yR (by omega), bI_nI hj (by omega), if_pos n10, hF2, nmE]
    · rw [y4 33 (by omega), x2 2 (by omega), y2 8 (by omega)]; exact a7
    · rw [k 0 (by omega) (by omega), y2 28 (by omega)]; exact a8
  · refine ⟨-1, F, F, ?_, ?_, hI⟩
    · rw [bI_f hg, if_neg (by decide)]
    · rw [t3, nIl (n := n) (by omega), yR (by omega), bI_f hg, if_neg (by decide)]
theorem m_forget {N : Nat} {l1 : Int32} {F : FF} (hI : Inv F) : MOK (fX6_forget N l1) (fX7_forget N l1) F := by
  obtain ⟨H, a1, a2, a3, ⟨n, e, t1, t2, t3, t4⟩, a5, a6, a7, a8⟩ := id hI
  unfold MOK fX6_forget fX7_forget
  rw [t2, xR (by omega)]
  rcases guard (x := l1) (n + 1) with ⟨j, hj, rfl⟩ | hg
  · rw [bI_nI hj (by omega), if_pos n10]
    obtain ⟨F1, hF1⟩ : ∃ F1, fput F 35 0 (nI j) = F1 := ⟨_, rfl⟩
    have x1 : F1 35 0 = nI j := by rw [← hF1, fpu, if_pos ⟨rfl, rfl⟩]
    have x4 : ∀ c, c ≠ 35 → F1 c = F c := fun c h3 => by rw [← hF1, fput_a h3]
    obtain ⟨F2, hF2⟩ : ∃ F2, fput F1 82 22 (nI j) = F2 := ⟨_, rfl⟩
    have y1 : F2 82 22 = nI j := by rw [← hF2, fpu, if_pos ⟨rfl, rfl⟩]
    have y2 : ∀ k, k ≠ 22 → F2 82 k = F 82 k := fun k hk => by rw [← hF2, fpu, if_neg (fun h => hk h.2), x4 82 (by omega)]
    have y4 : ∀ c, c ≠ 82 → F2 c = F1 c := fun c h3 => by rw [← hF2, fput_a h3]
    have k : ∀ c, c ≠ 35 → c ≠ 82 → F2 c = F c := fun c h1 h3 => (y4 c h3).trans (x4 c h1)
    refine ⟨nI n, F1, F2, ?_, ?_, H, a1.mv (fun c _ _ => k c (by omega) (by omega)) (y2 1 (by omega)) (y2 20 (by omega)) (fun q _ => by rw [k 83 (by omega) (by omega)]), a2.mv (k _ (by omega) (by omega)) (k _ (by omega) (by omega)) (fun c _ _ => k c (by omega) (by omega)) (y2 1 (by omega)) (y2 20 (by omega)) (fun q _ _ => by rw [k 83 (by omega) (by omega)]), a3.mv (by rw [k 33 (by omega) (by omega)]) (k _ (by omega) (by omega)) (y2 7 (by omega)) (k _ (by omega) (by omega)), ⟨j, e, by omega, by rw [y4 35 (by omega), x1], y1, fun i hi => by rw [k 36 (by omega) (by omega), k 37 (by omega) (by omega), k 38 (by omega) (by omega), k 89 (by omega) (by omega)]; exact t4 i (by omega)⟩, a5.mv (fun c _ _ => k c (by omega) (by omega)) (k _ (by omega) (by omega)) (k _ (by omega) (by omega)) (k _ (by omega) (by omega)), a6.mv (k _ (by omega) (by omega)) (k _ (by omega) (by omega)), ?_, ?_⟩
    · rw [hF1, nmE]
    · rw [x4 82 (by omega), t3, nIl (n := n) (by omega), yR (by omega), bI_nI hj (by omega), if_pos n10, hF2, nmE]
    · rw [k 33 (by omega) (by omega), y2 8 (by omega)]; exact a7
    · rw [k 0 (by omega) (by omega), y2 28 (by omega)]; exact a8
  · refine ⟨-1, F, F, ?_, ?_, hI⟩
    · rw [bI_f hg, if_neg (by decide)]
    · rw [t3, nIl (n := n) (by omega), yR (by omega), bI_f hg, if_neg (by decide)]
/-! shelves and wants are fewer -/
theorem m_cut {N : Nat} {l1 : Int32} {F : FF} (hI : Inv F) : MOK (fX6_cut N l1) (fX7_cut N l1) F := by
  obtain ⟨H, hIP⟩ := id hI
  have h := hIP.1
  have hns := h.ns
  obtain ⟨w1, w2, w3, w4, w5, w6⟩ := h.2.2.1
  unfold MOK fX6_cut fX7_cut
  rw [show F 1 1 = nI H.1.2.1 from h.1.1.2.1, xR (by omega)]
  have h8 : F 83 8 = nI H.1.2.1 := h.2.1.1.2.1
  rcases guard (x := l1) (H.1.2.1 + 1) with ⟨j, hj, rfl⟩ | hg
  · rw [bI_nI hj (by omega), if_pos n10]
    obtain ⟨F1, hF1⟩ : ∃ F1, fput F 1 1 (nI j) = F1 := ⟨_, rfl⟩
    have x1 : ∀ k, F1 1 k = if k = 1 then nI j else F 1 k := fun k => by
      rw [← hF1, fpu]
      by_cases e : k = 1
      · rw [if_pos ⟨rfl, e⟩, if_pos e]
      · rw [if_neg (fun h => e h.2), if_neg e]
    have x4 : ∀ c, c ≠ 1 → F1 c = F c := fun c h3 => by rw [← hF1, fput_a h3]
    obtain ⟨F2, hF2⟩ : ∃ F2, fput F1 83 8 (nI j) = F2 := ⟨_, rfl⟩
    have y1 : F2 83 8 = nI j := by rw [← hF2, fpu, if_pos ⟨rfl, rfl⟩]
    have y2 : ∀ k, k ≠ 8 → F2 83 k = F 83 k := fun k hk => by rw [← hF2, fpu, if_neg (fun h => hk h.2), x4 83 (by omega)]
    have y4 : ∀ c, c ≠ 83 → F2 c = F1 c := fun c h3 => by rw [← hF2, fput_a h3]
    have fa : FrH 1 F F1 := fun c hc => x4 c (by omega)
    have fb : FrA 0 F1 F2 := ⟨fun c h3 _ _ => y4 c h3, fun k _ _ => by rw [y4 82 (by omega)], fun k hk => by rw [y2 k (by omega), x4 83 (by omega)]⟩
    have hX : HR 1 F1 ((H.1.1, j, H.1.2.2.1, H.1.2.2.2), H.2.1, H.2.2) := by
      obtain ⟨⟨a1, a2, a3, a4⟩, a5, a6⟩ := h.1
      exact ⟨⟨by rw [x1, if_neg (by omega)]; exact a1, by rw [x1, if_pos rfl], by rw [x1, if_neg (by omega)]; exact a3, by rw [x1, if_neg (by omega)]; exact a4⟩, fun i hi => by rw [x4 _ (by omega)]; exact a5 i hi, fun s hs => by
        have hs : s < j := hs
        exact (a6 s (by omega)).same (x4 _ (by omega)) (x4 _ (by omega)) (x4 _ (by omega))⟩
    have hY : PR 0 F2 ((H.1.1, j, H.1.2.2.1, H.1.2.2.2), H.2.1, H.2.2) := by
      obtain ⟨⟨a1, a2, a3, a4⟩, a5, a6⟩ := h.2.1
      have e82 : F2 82 = F 82 := by rw [y4 82 (by omega), x4 82 (by omega)]
      exact ⟨⟨by rw [e82]; exact a1, y1, by rw [y2 _ (by omega)]; exact a3, by rw [y2 _ (by omega)]; exact a4⟩, fun i hi => by
        have hi : i < H.1.2.2.1 := hi
        exact (a5 i hi).same (y2 _ (by omega)) (by rw [e82]), fun s hs => by
        have hs : s < j := hs
        exact (a6 s (by omega)).same (y2 _ (by omega)) (y2 _ (by omega)) (fun p hp => y2 _ (by omega)) (fun p hp => y2 _ (by omega))⟩
    have hR := h.go hX hY ⟨w1, (show j ≤ 4 by omega), w3, w4, w5, fun s hs => w6 s (by have hs : s < j := hs; omega)⟩ h.2.2.2.1 h.2.2.2.2.1 fb fa
    refine ⟨nI H.1.2.1, F1, F2, ?_, ?_, inv_H hIP hR rfl (KH.of fa fb)⟩
    · rw [hF1, nmE]
    · rw [x4 83 (by omega), h8, nIl (n := H.1.2.1) (by omega), yR (by omega), bI_nI hj (by omega), fX7_puts, if_pos n10, show (8 : Int32) = nI 8 from rfl, ld_ok a83 (by omega), st_ok a83 (by omega), hF2, bnd_some, x4 83 (by omega), h8]
  · refine ⟨-1, F, F, ?_, ?_, hI⟩
    · rw [bI_f hg, if_neg (by decide)]
    · rw [h8, nIl (n := H.1.2.1) (by omega), yR (by omega), bI_f hg, fX7_puts, if_neg (fun h => h rfl), bnd_some]
theorem m_drop {N : Nat} {l1 : Int32} {F : FF} (hI : Inv F) : MOK (fX6_drop N l1) (fX7_drop N l1) F := by
  obtain ⟨H, hIP⟩ := id hI
  have h := hIP.1
  have hns := h.ns
  have hnw := h.nw
  obtain ⟨w1, w2, w3, w4, w5, w6⟩ := h.2.2.1
  unfold MOK fX6_drop fX7_drop
  rw [show F 1 2 = nI H.1.2.2.1 from h.1.1.2.2.1, xR (by omega)]
  have h8 : F 83 25 = nI H.1.2.2.1 := h.2.1.1.2.2.1
  rcases guard (x := l1) (H.1.2.2.1 + 1) with ⟨j, hj, rfl⟩ | hg
  · rw [bI_nI hj (by omega), if_pos n10]
    obtain ⟨F1, hF1⟩ : ∃ F1, fput F 1 2 (nI j) = F1 := ⟨_, rfl⟩
    have x1 : ∀ k, F1 1 k = if k = 2 then nI j else F 1 k := fun k => by
      rw [← hF1, fpu]
      by_cases e : k = 2
      · rw [if_pos ⟨rfl, e⟩, if_pos e]
      · rw [if_neg (fun h => e h.2), if_neg e]
    have x4 : ∀ c, c ≠ 1 → F1 c = F c := fun c h3 => by rw [← hF1, fput_a h3]
    obtain ⟨F2, hF2⟩ : ∃ F2, fput F1 83 25 (nI j) = F2 := ⟨_, rfl⟩
    have y1 : F2 83 25 = nI j := by rw [← hF2, fpu, if_pos ⟨rfl, rfl⟩]
    have y2 : ∀ k, k ≠ 25 → F2 83 k = F 83 k := fun k hk => by rw [← hF2, fpu, if_neg (fun h => hk h.2), x4 83 (by omega)]
    have y4 : ∀ c, c ≠ 83 → F2 c = F1 c := fun c h3 => by rw [← hF2, fput_a h3]
    have fa : FrH 1 F F1 := fun c hc => x4 c (by omega)
    have fb : FrA 0 F1 F2 := ⟨fun c h3 _ _ => y4 c h3, fun k _ _ => by rw [y4 82 (by omega)], fun k hk => by rw [y2 k (by omega), x4 83 (by omega)]⟩
    have hX : HR 1 F1 ((H.1.1, H.1.2.1, j, H.1.2.2.2), H.2.1, H.2.2) := by
      obtain ⟨⟨a1, a2, a3, a4⟩, a5, a6⟩ := h.1
      exact ⟨⟨by rw [x1, if_neg (by omega)]; exact a1, by rw [x1, if_neg (by omega)]; exact a2, by rw [x1, if_pos rfl], by rw [x1, if_neg (by omega)]; exact a4⟩, fun i hi => by
        have hi : i < j := hi
        rw [x4 _ (by omega)]; exact a5 i (by omega), fun s hs => by
        have hs : s < H.1.2.1 := hs
        exact (a6 s (by omega)).same (x4 _ (by omega)) (x4 _ (by omega)) (x4 _ (by omega))⟩
    have hY : PR 0 F2 ((H.1.1, H.1.2.1, j, H.1.2.2.2), H.2.1, H.2.2) := by
      obtain ⟨⟨a1, a2, a3, a4⟩, a5, a6⟩ := h.2.1
      have e82 : F2 82 = F 82 := by rw [y4 82 (by omega), x4 82 (by omega)]
      exact ⟨⟨by rw [e82]; exact a1, by rw [y2 _ (by omega)]; exact a2, y1, by rw [y2 _ (by omega)]; exact a4⟩, fun i hi => by
        have hi : i < j := hi
        exact (a5 i (by omega)).same (y2 _ (by omega)) (by rw [e82]), fun s hs => by
        have hs : s < H.1.2.1 := hs
        exact (a6 s (by omega)).same (y2 _ (by omega)) (y2 _ (by omega)) (fun p hp => y2 _ (by omega)) (fun p hp => y2 _ (by omega))⟩
    have hR := h.go hX hY ⟨w1, w2, (show j ≤ 16 by omega), w4, fun i hi => w5 i (by have hi : i < j := hi; omega), w6⟩ (fun i hi => h.2.2.2.1 i (by have hi : i < j := hi; omega)) h.2.2.2.2.1 fb fa
    refine ⟨nI H.1.2.2.1, F1, F2, ?_, ?_, inv_H hIP hR rfl (KH.of fa fb)⟩
    · rw [hF1, nmE]
    · rw [x4 83 (by omega), h8, nIl (n := H.1.2.2.1) (by omega), yR (by omega), bI_nI hj (by omega), fX7_puts, if_pos n10, show (25 : Int32) = nI 25 from rfl, ld_ok a83 (by omega), st_ok a83 (by omega), hF2, bnd_some, x4 83 (by omega), h8]
  · refine ⟨-1, F, F, ?_, ?_, hI⟩
    · rw [bI_f hg, if_neg (by decide)]
    · rw [h8, nIl (n := H.1.2.2.1) (by omega), yR (by omega), bI_f hg, fX7_puts, if_neg (fun h => h rfl), bnd_some]
theorem okA_setW {H : Hs} {i b : Nat} (h : okA H) : okA (setW H i (some b)) := by
  intro j hj
  show ∃ c, (if j = i then some b else H.2.2 j) = some c
  by_cases e : j = i
  · exact ⟨b, if_pos e⟩
  · rw [if_neg e]; exact h j hj
theorem m_set {N : Nat} {l1 l2 : Int32} {F : FF} (hI : Inv F) : MOK (fX6_set N l1 l2) (fX7_set N l1 l2) F := by
  obtain ⟨H, hIP⟩ := id hI
  have h := hIP.1
  have hnw := h.nw
  have hnb := h.nb
  unfold MOK fX6_set fX7_set
  rw [h.xW, h.xB]
  rcases guard (x := l1) H.1.2.2.1 with ⟨i, hi, rfl⟩ | hg
  · rw [bI_nI hi (by omega), if_neg n10]
    rcases guard (x := l2) H.1.1 with ⟨b, hb, rfl⟩ | hg2
    · rw [bI_nI hb (by omega), if_pos n10]
      obtain ⟨c, v1, v2, v3, v4⟩ := h.w hi
      obtain ⟨hX, fa⟩ := h.1.setW (i := i) (o := some b)
      have e3 : F 3 i = nI c := v3
      have e83 : fput F (1 + 2) i (wI (some b)) 83 = F 83 := fput_a (by omega)
      have hY := (h.2.1.keep (F' := fput F (1 + 2) i (wI (some b))) h.2.2.1 (by rw [fput_a (by omega)]) (by rw [fput_a (by omega)]) (fun k _ _ => by rw [e83])).setW (i := i) (b := b) h.2.2.1 (by rw [fput_a (by omega)]; exact h.2.2.2.2.2) (by omega)
      have fb : FrA 0 (fput F (1 + 2) i (wI (some b))) (fput (fput F (1 + 2) i (wI (some b))) 83 (0 + 9 + i) (nI b)) := ⟨fun c h3 _ _ => fput_a h3, fun k _ _ => by rw [fput_a (by omega)], fun k hk => by rw [fpu, if_neg (by omega)]⟩
      have hR := h.go hX hY (h.2.2.1.setW (fun b' e => by cases e; exact hb)) (okA_setW h.2.2.2.1) h.2.2.2.2.1 fb fa
      have h1 : RH (fput F (1 + 2) i (wI (some b))) H ∨ True := Or.inr trivial
      have q1 : fX7_isWant N (nI i) (fput F (1 + 2) i (wI (some b))) = some (1, fput F (1 + 2) i (wI (some b))) := by
        rw [y_isWant (by rw [e83]; exact h.2.1.1.2.2.1) h.nw, bI_nI hi (by omega)]
      have q2 : fX7_isBook N (nI b) (fput F (1 + 2) i (wI (some b))) = some (1, fput F (1 + 2) i (wI (some b))) := by
        rw [y_isBook (by rw [fput_a (by omega)]; exact h.2.1.1.1) h.nb.2, bI_nI hb (by omega)]
      refine ⟨nI c, fput F (1 + 2) i (wI (some b)), fput (fput F (1 + 2) i (wI (some b))) 83 (0 + 9 + i) (nI b), ?_, ?_, inv_H hIP hR rfl (KH.of fa fb)⟩
      · rw [ld_ok a3 (by omega), st_ok a3 (by omega), e3]; rfl
      · rw [q1, bnd_some, if_neg n10, q2, bnd_some, if_neg n10, fX7_puts, if_pos n10, show 9 + nI i = nI (0 + 9 + i) by rw [show 0 + 9 + i = 9 + i by omega]; exact nI_add 9 i, ld_ok a83 (by omega), st_ok a83 (by omega), bnd_some, e83, show 0 + 9 + i = 9 + i by omega, v4]
    · refine ⟨-1, F, F, ?_, ?_, hI⟩
      · rw [bI_f hg2, if_neg (by decide)]
      · rw [h.yW, bnd_some, bI_nI hi (by omega), if_neg n10, h.yB, bnd_some, bI_f hg2, if_pos rfl, fX7_puts, if_neg (fun h => h rfl), bnd_some]
  · refine ⟨-1, F, F, ?_, ?_, hI⟩
    · rw [bI_f hg, if_pos rfl]
    · rw [h.yW, bnd_some, bI_f hg, if_pos rfl, fX7_set_b21, fX7_set_b22, fX7_puts, if_neg (fun h => h rfl), bnd_some]
