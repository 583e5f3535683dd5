/-! CHANGES: shelves, wants, steps -/
theorem RH.X1 {F F1 : FF} {H : Hs} (h : RH F H) (fa : FrH 1 F F1) : PR 0 F1 H := h.2.1.keep h.2.2.1 (by rw [fa 82 (by omega)]) (by rw [fa 82 (by omega)]) (fun k _ _ => by rw [fa 83 (by omega)])
theorem m_stand {N : Nat} {l1 l2 l3 : Int32} {F : FF} (hN : 1000 ≤ N) (hI : Inv F) : MOK (fX6_stand N l1 l2 l3) (fX7_stand N l1 l2 l3) F := by
  obtain ⟨H, hIP⟩ := id hI
  have h := hIP.1
  have hns := h.ns
  have hnb := h.nb
  have hW := h.2.2.1
  unfold MOK fX6_stand fX7_stand
  rw [h.xS, h.xB, h.xB]
  rcases guard (x := l1) H.1.2.1 with ⟨s, hs, rfl⟩ | hg
  · rw [bI_nI hs (by omega), if_neg n10]
    rcases guard (x := l2) H.1.1 with ⟨b, hb, rfl⟩ | hg2
    · rw [bI_nI hb (by omega), if_neg n10]
      rcases guard (x := l3) H.1.1 with ⟨t, ht, rfl⟩ | hg3
      · rw [bI_nI ht (by omega), if_pos n10]
        have hWS := hW.2.2.2.2.2 s hs
        have hS := isS_of iH1 (show s < 4 by omega)
        have hSR := h.1.2.2 s hs
        have hpl := hWS.plt hnb.2 hb
        obtain ⟨F1, e1, e2, e3⟩ := x_shift (N := N) (f := plc (H.2.1 s).2.1 b) (t := t) hN hS (by omega) (by omega) hSR.2.2.1
        have hSR1 : SR (1 + 3 + 3 * s) F1 ((H.2.1 s).1, mv (H.2.1 s).2.1 (plc (H.2.1 s).2.1 b) t, (H.2.1 s).2.2) := ⟨by rw [e3 _ (by omega)]; exact hSR.1, by rw [e3 _ (by omega)]; exact hSR.2.1, e2, fun q hq => by rw [e3 _ (by omega)]; exact hSR.2.2.2 q hq⟩
        obtain ⟨hX, fa⟩ := h.1.up (F' := F1) hns hs hSR1 (fun c _ hc _ => e3 c hc)
        have hP1 := h.X1 fa
        have hQ := hP1.2.2 s hs
        have hQ3 : ∀ p, p < 6 → F1 83 (0 + 27 + 6 * s + p) = nI ((H.2.1 s).2.1 p) := hQ.2.2.1
        have k1 : F1 82 1 = nI H.1.1 := hP1.1.1
        have y1 := y_place (N := N) (pg := 0) (s := s) (b := b) hN (by omega) (by omega) k1 hQ3 hWS hnb.2 hb
        obtain ⟨F2, z1, z2, z3, z4⟩ := y_stands (N := N) (pg := 0) (s := s) (f := plc (H.2.1 s).2.1 b) (t := t) hN (by omega) (by omega) (by omega) (by omega) hQ3
        have hQ2 : QR 0 s F2 ((H.2.1 s).1, mv (H.2.1 s).2.1 (plc (H.2.1 s).2.1 b) t, (H.2.1 s).2.2) := ⟨by rw [z4 _ (by omega)]; exact hQ.1, by rw [z4 _ (by omega)]; exact hQ.2.1, z2, fun q hq => by rw [z4 _ (by omega)]; exact hQ.2.2.2 q hq⟩
        have hY := hP1.up (F' := F2) h.nw hns hs hQ2 (fun k _ _ => by rw [z3 82 (by omega)]) (fun k _ _ hk _ => z4 k (by omega))
        have fb : FrA 0 F1 F2 := ⟨fun c h3 _ _ => z3 c h3, fun k _ _ => by rw [z3 82 (by omega)], fun k hk => z4 k (by omega)⟩
        have hR := h.go hX hY (hW.up (ws_mv hWS hnb.2 hpl ht hWS.1.1 hWS.1.2 hWS.2.2.2.2.2)) h.2.2.2.1 h.2.2.2.2.1 fb fa
        refine ⟨nI (plc (H.2.1 s).2.1 b), F1, F2, ?_, ?_, inv_H hIP hR rfl (KH.of fa fb)⟩
        · rw [show ldR 5 2 (nI s) = ldR 5 (1 + 1) (nI s) from rfl, ldR_H iH1 (show s < 4 by omega), x_find hN hS hSR hWS.2.1 (by omega), cal_some (okC_S hS), show ldR 5 2 (nI s) = ldR 5 (1 + 1) (nI s) from rfl, ldR_H iH1 (show s < 4 by omega), e1, cal_some (okC_S hS)]
        · rw [y_isShelf hP1.1.2.1 hns, bnd_some, bI_nI hs (by omega), if_neg n10, y_isBook k1 hnb.2, bnd_some, bI_nI hb (by omega), if_neg n10, y_isBook k1 hnb.2, bnd_some, bI_nI ht (by omega), if_pos n10, show (0 : Int32) = nI 0 from rfl, y1, bnd_some, z1, bnd_some]
      · refine ⟨-1, F, F, ?_, ?_, hI⟩
        · rw [bI_f hg3, if_neg (by decide)]
        · rw [h.yS, bnd_some, bI_nI hs (by omega), if_neg n10, h.yB, bnd_some, bI_nI hb (by omega), if_neg n10, h.yB, bnd_some, bI_f hg3, if_neg (by decide)]
    · refine ⟨-1, F, F, ?_, ?_, hI⟩
      · rw [bI_f hg2, if_pos rfl]
      · rw [h.yS, bnd_some, bI_nI hs (by omega), if_neg n10, h.yB, bnd_some, bI_f hg2, if_pos rfl]
  · refine ⟨-1, F, F, ?_, ?_, hI⟩
    · rw [bI_f hg, if_pos rfl]
    · rw [h.yS, bnd_some, bI_f hg, if_pos rfl]
theorem m_take {N : Nat} {l1 : Int32} {F : FF} (hN : 1000 ≤ N) (hI : Inv F) : MOK (fX6_take N l1) (fX7_take N l1) F := by
  obtain ⟨H, hIP⟩ := id hI
  have h := hIP.1
  have hnb := h.nb
  have hW := h.2.2.1
  unfold MOK fX6_take fX7_take
  rw [h.xB]
  rcases guard (x := l1) H.1.1 with ⟨b, hb, rfl⟩ | hg
  · rw [bI_nI hb (by omega), if_neg n10]
    obtain ⟨F1, e1, hX, fa⟩ := x_serveAll (N := N) hN iH1 h.1 hW hb
    have hP1 := h.X1 fa
    obtain ⟨F2, z1, hY, fb, -⟩ := y_asks (N := N) hN (by omega) hP1 hW hb
    have hR := h.go hX hY (hW.srv hb) h.2.2.2.1 h.2.2.2.2.1 fb fa
    refine ⟨_, F1, F2, by rw [e1, bnd_some], ?_, inv_H hIP hR rfl (KH.of fa fb)⟩
    rw [y_isBook hP1.1.1 hnb.2, bnd_some, bI_nI hb (by omega), if_neg n10, show (0 : Int32) = nI 0 from rfl, z1, bnd_some]
  · refine ⟨-1, F, F, ?_, ?_, hI⟩
    · rw [bI_f hg, if_pos rfl]
    · rw [h.yB, bnd_some, bI_f hg, if_pos rfl]
theorem m_add {N : Nat} {l1 : Int32} {F : FF} (hI : Inv F) : MOK (fX6_add N l1) (fX7_add N l1) F := by
  obtain ⟨H, hIP⟩ := id hI
  have h := hIP.1
  have hnb := h.nb
  have hns := h.ns
  have hnw := h.nw
  have hW := h.2.2.1
  obtain ⟨w1, w2, w3, w4, w5, w6⟩ := id hW
  have h25 : F 83 25 = nI H.1.2.2.1 := h.2.1.1.2.2.1
  unfold MOK fX6_add fX7_add fX7_adds
  rw [h.xB]
  rcases guard (x := l1) H.1.1 with ⟨b, hb, rfl⟩ | hg
  · rw [bI_nI hb (by omega), if_pos n10]
    by_cases hw : H.1.2.2.1 = 16
    · refine ⟨-3, F, F, ?_, ?_, hI⟩
      · rw [x_addWant_full iH1 h.1 hw, bnd_some, if_pos rfl]
      · rw [h.yB, bnd_some, bI_nI hb (by omega), if_pos n10, h25, hw, if_neg (by decide), bnd_some]
    · obtain ⟨F1, e1, hX, fa⟩ := x_addWant (N := N) (b := b) iH1 h.1 (by omega)
      have hP1 := h.X1 fa
      have k25 : F1 83 25 = nI H.1.2.2.1 := hP1.1.2.2.1
      have k20 : F1 82 20 = -4 := by rw [fa 82 (by omega)]; exact h.2.2.2.2.2
      obtain ⟨F2, hF2⟩ : ∃ F2, fput (fput F1 83 (9 + H.1.2.2.1) (nI b)) 83 25 (nI (H.1.2.2.1 + 1)) = F2 := ⟨_, rfl⟩
      have y0 : F2 83 25 = nI (H.1.2.2.1 + 1) := by rw [← hF2, fpu, if_pos ⟨rfl, rfl⟩]
      have y1 : F2 83 (9 + H.1.2.2.1) = nI b := by rw [← hF2, fpu, if_neg (by omega), fpu, if_pos ⟨rfl, rfl⟩]
      have y2 : ∀ k, k ≠ 25 → k ≠ 9 + H.1.2.2.1 → F2 83 k = F1 83 k := fun k h1 h2 => by rw [← hF2, fpu, if_neg (by omega), fpu, if_neg (by omega)]
      have y4 : ∀ c, c ≠ 83 → F2 c = F1 c := fun c h3 => by rw [← hF2, fput_a h3, fput_a h3]
      have fb : FrA 0 F1 F2 := ⟨fun c h3 _ _ => y4 c h3, fun k _ _ => by rw [y4 82 (by omega)], fun k hk => y2 k (by omega) (by omega)⟩
      have hY : PR 0 F2 (addW H b) := by
        obtain ⟨⟨a1, a2, a3, a4⟩, a5, a6⟩ := hP1
        have e82 : F2 82 = F1 82 := y4 82 (by omega)
        refine ⟨⟨by rw [e82]; exact a1, by rw [y2 _ (by omega) (by omega)]; exact a2, y0, by rw [y2 _ (by omega) (by omega)]; exact a4⟩, fun i hi => ?_, fun s hs => ?_⟩
        · have hi : i < H.1.2.2.1 + 1 := hi
          show wQ 0 F2 i (if i = H.1.2.2.1 then some b else H.2.2 i)
          by_cases c : i = H.1.2.2.1
          · rw [if_pos c, c]
            refine ⟨by rw [show 0 + 9 + H.1.2.2.1 = 9 + H.1.2.2.1 by omega]; exact y1, ?_⟩
            rw [e82, k20]
            exact fun h => ne_m4 (a := H.1.2.2.1) (by omega) h.symm
          · rw [if_neg c]
            exact (a5 i (by omega)).same (y2 _ (by omega) (by omega)) (by rw [e82])
        · have hs : s < H.1.2.1 := hs
          exact (a6 s hs).same (y2 _ (by omega) (by omega)) (y2 _ (by omega) (by omega)) (fun p hp => y2 _ (by omega) (by omega)) (fun p hp => y2 _ (by omega) (by omega))
      have hW2 : WH (addW H b) := ⟨w1, w2, (show H.1.2.2.1 + 1 ≤ 16 by omega), w4, fun i hi b' e => by
        have hi : i < H.1.2.2.1 + 1 := hi
        have e : (if i = H.1.2.2.1 then some b else H.2.2 i) = some b' := e
        by_cases c : i = H.1.2.2.1
        · rw [if_pos c] at e; cases e; exact hb
        · rw [if_neg c] at e; exact w5 i (by omega) b' e, w6⟩
      have hA2 : okA (addW H b) := fun i hi => by
        have hi : i < H.1.2.2.1 + 1 := hi
        show ∃ c, (if i = H.1.2.2.1 then some b else H.2.2 i) = some c
        by_cases c : i = H.1.2.2.1
        · exact ⟨b, if_pos c⟩
        · rw [if_neg c]; exact h.2.2.2.1 i (by omega)
      have hR := h.go hX hY hW2 hA2 h.2.2.2.2.1 fb fa
      refine ⟨nI (H.1.2.2.1 + 1), F1, F2, ?_, ?_, inv_H hIP hR rfl (KH.of fa fb)⟩
      · rw [e1, bnd_some, if_neg n10, hX.1.2.2.1]; rfl
      · rw [y_isBook hP1.1.1 hnb.2, bnd_some, bI_nI hb (by omega), if_pos n10, k25, if_pos (by show ¬ nI H.1.2.2.1 = nI 16; simp (disch := omega) only [nI_eq]; omega), show 9 + nI H.1.2.2.1 = nI (9 + H.1.2.2.1) from nI_add 9 _, st_ok a83 (by omega), fpu, if_neg (by omega), k25, show nI H.1.2.2.1 + 1 = nI (H.1.2.2.1 + 1) from nI_1 _, hF2, nmE, bnd_some, y0]
  · refine ⟨-1, F, F, ?_, ?_, hI⟩
    · rw [bI_f hg, if_neg (by decide)]
    · rw [h.yB, bnd_some, bI_f hg, if_neg (by decide), bnd_some]
theorem m_put {N : Nat} {l1 : Int32} {F : FF} (hN : 1000 ≤ N) (hI : Inv F) : MOK (fX6_put N l1) (fX7_put N l1) F := by
  obtain ⟨H, hIP⟩ := id hI
  have h := hIP.1
  have hnb := h.nb
  have hns := h.ns
  have hnw := h.nw
  have hW := h.2.2.1
  obtain ⟨w1, w2, w3, w4, w5, w6⟩ := id hW
  have h8 : F 83 8 = nI H.1.2.1 := h.2.1.1.2.1
  unfold MOK fX6_put fX7_put
  rw [xR3]
  rcases guard (x := l1) 4 with ⟨k, hk, rfl⟩ | hg
  · rw [bI_nI hk (by omega), if_pos n10]
    by_cases hw : H.1.2.1 = 4
    · refine ⟨-3, F, F, ?_, ?_, hI⟩
      · rw [x_addShelf_full iH1 h.1 hw, bnd_some, if_pos rfl]
      · rw [yR3, bI_nI hk (by omega), if_pos n10, h8, hw, if_neg (by decide)]
    · obtain ⟨F1, e1, hX, fa⟩ := x_addShelf (N := N) (k := k) hN iH1 h.1 (by omega)
      have hP1 := h.X1 fa
      have k8 : F1 83 8 = nI H.1.2.1 := hP1.1.2.1
      obtain ⟨F2, hF2⟩ : ∃ F2, fput F1 83 H.1.2.1 (nI k) = F2 := ⟨_, rfl⟩
      have y1 : F2 83 H.1.2.1 = nI k := by rw [← hF2, fpu, if_pos ⟨rfl, rfl⟩]
      have y2 : ∀ q, q ≠ H.1.2.1 → F2 83 q = F1 83 q := fun q h1 => by rw [← hF2, fpu, if_neg (by omega)]
      have y4 : ∀ c, c ≠ 83 → F2 c = F1 c := fun c h3 => by rw [← hF2, fput_a h3]
      obtain ⟨F3, o1, o2, o3, o4, o5⟩ := y_orders (N := N) (s := H.1.2.1) (F := F2) hN (by omega)
      obtain ⟨F4, hF4⟩ : ∃ F4, fput F3 83 8 (nI (H.1.2.1 + 1)) = F4 := ⟨_, rfl⟩
      have z1 : F4 83 8 = nI (H.1.2.1 + 1) := by rw [← hF4, fpu, if_pos ⟨rfl, rfl⟩]
      have z2 : ∀ q, q ≠ 8 → F4 83 q = F3 83 q := fun q h1 => by rw [← hF4, fpu, if_neg (by omega)]
      have z3 : ∀ q, q ≠ 8 → q ≠ H.1.2.1 → q ≠ 4 + H.1.2.1 → (q < 27 + 6 * H.1.2.1 ∨ 33 + 6 * H.1.2.1 ≤ q) → (q < 51 + 6 * H.1.2.1 ∨ 57 + 6 * H.1.2.1 ≤ q) → F4 83 q = F1 83 q := fun q h1 h2 h3 h4 h5 => by rw [z2 q h1, o3 q h3 h4 h5, y2 q h2]
      have z4 : ∀ c, c ≠ 83 → F4 c = F1 c := fun c h3 => by rw [← hF4, fput_a h3, o2 c h3, y4 c h3]
      have fb : FrA 0 F1 F4 := ⟨fun c h3 _ _ => z4 c h3, fun k _ _ => by rw [z4 82 (by omega)], fun q hq => z3 q (by omega) (by omega) (by omega) (by omega) (by omega)⟩
      have hY : PR 0 F4 (addS H k) := by
        obtain ⟨⟨a1, a2, a3, a4⟩, a5, a6⟩ := hP1
        have e82 : F4 82 = F1 82 := z4 82 (by omega)
        refine ⟨⟨by rw [e82]; exact a1, z1, by rw [z3 _ (by omega) (by omega) (by omega) (by omega) (by omega)]; exact a3, by rw [z3 _ (by omega) (by omega) (by omega) (by omega) (by omega)]; exact a4⟩, fun i hi => ?_, fun s hs => ?_⟩
        · have hi : i < H.1.2.2.1 := hi
          exact (a5 i hi).same (z3 _ (by omega) (by omega) (by omega) (by omega) (by omega)) (by rw [e82])
        · have hs : s < H.1.2.1 + 1 := hs
          show QR 0 s F4 (if s = H.1.2.1 then newS k else H.2.1 s)
          by_cases c : s = H.1.2.1
          · rw [if_pos c]
            refine ⟨?_, ?_, fun p hp => ?_, fun p hp => ?_⟩
            · rw [c, Nat.zero_add, z2 _ (by omega), o3 _ (by omega) (by omega) (by omega)]; exact y1
            · rw [c, Nat.zero_add, z2 _ (by omega)]; exact o4
            · rw [c, Nat.zero_add, z2 _ (by omega)]; exact (o5 p hp).1
            · rw [c, Nat.zero_add, z2 _ (by omega)]; exact (o5 p hp).2
          · rw [if_neg c]
            exact (a6 s (by omega)).same (z3 _ (by omega) (by omega) (by omega) (by omega) (by omega)) (z3 _ (by omega) (by omega) (by omega) (by omega) (by omega)) (fun p hp => z3 _ (by omega) (by omega) (by omega) (by omega) (by omega)) (fun p hp => z3 _ (by omega) (by omega) (by omega) (by omega) (by omega))
      have hW2 : WH (addS H k) := ⟨w1, (show H.1.2.1 + 1 ≤ 4 by omega), w3, w4, w5, fun s hs => by
        have hs : s < H.1.2.1 + 1 := hs
        show WS H.1.1 (if s = H.1.2.1 then newS k else H.2.1 s)
        by_cases c : s = H.1.2.1
        · rw [if_pos c]; exact ws_new (by omega)
        · rw [if_neg c]; exact w6 s (by omega)⟩
      have hR := h.go hX hY hW2 h.2.2.2.1 h.2.2.2.2.1 fb fa
      refine ⟨nI (H.1.2.1 + 1), F1, F4, ?_, ?_, inv_H hIP hR rfl (KH.of fa fb)⟩
      · rw [e1, bnd_some, if_neg n10, hX.1.2.1]; rfl
      · rw [yR3, bI_nI hk (by omega), if_pos n10, k8, if_pos (by show ¬ nI H.1.2.1 = nI 4; simp (disch := omega) only [nI_eq]; omega), st_ok a83 (by omega), hF2, o1, bnd_some, o3 8 (by omega) (by omega) (by omega), y2 8 (by omega), k8, show nI H.1.2.1 + 1 = nI (H.1.2.1 + 1) from nI_1 _, hF4, nmE, z1]
  · refine ⟨-1, F, F, ?_, ?_, hI⟩
    · rw [bI_f hg, if_neg (by decide)]
    · rw [yR3, bI_f hg, if_neg (by decide)]
/-! steps -/
theorem runH_st {H : Hs} {i : Nat} : stpH (runH H i) = runH H (i + 1) := by
  unfold stpH
  rw [runH_w]
  rfl
theorem totP_s {H : Hs} {i : Nat} : totP H i + sumTo (fun s => pyo (wAt (runH H i) 0) ((runH H i).2.1 s)) (runH H i).1.2.1 = totP H (i + 1) := by
  rw [runH_w]
  exact sum_add _
theorem x_steps_L {N nn : Nat} {H : Hs} (hN : 1000 ≤ N) (hW : WH H) (hs : H.1.2.2.2 + nn ≤ 10000) (hn : nn ≤ 100) : ∀ (m i n : Nat) (F : FF), i + m = nn → m < n → HR 1 F (runH H i) → ∃ F', fX6_steps_L34 N (nI nn) n (nI (totP H i)) (nI i) F = some (nI (totP H nn), F') ∧ HR 1 F' (runH H nn) ∧ FrH 1 F F' := by
  intro m
  induction m with
  | zero =>
    intro i n F hi hlt hR
    obtain ⟨n, rfl⟩ : ∃ k, n = k + 1 := ⟨n - 1, by omega⟩
    have : i = nn := by omega
    subst this
    rw [fX6_steps_L34.eq_2, if_pos (by simp (disch := omega) only [nI_leI]; omega)]
    exact ⟨F, rfl, hR, FrH.rf⟩
  | succ m ih =>
    intro i n F hi hlt hR
    obtain ⟨n, rfl⟩ : ∃ k, n = k + 1 := ⟨n - 1, by omega⟩
    obtain ⟨F1, e1, e2, e3⟩ := x_stepOn (N := N) hN iH1 hR (hW.run (n := i) (by omega)) (by show H.1.2.2.2 + i < 20000; omega)
    rw [runH_st] at e2
    obtain ⟨F2, z1, z2, z3⟩ := ih (i + 1) n F1 (by omega) (by omega) e2
    refine ⟨F2, ?_, z2, e3.tr z3⟩
    rw [fX6_steps_L34.eq_2, if_neg (by simp (disch := omega) only [nI_leI]; omega), e1, bnd_some, nI_add, totP_s, show nI i + 1 = nI (i + 1) from nI_1 i]
    exact z1
theorem y_steps_L {N nn : Nat} {H : Hs} (hN : 1000 ≤ N) (hW : WH H) (hs : H.1.2.2.2 + nn ≤ 10000) (hn : nn ≤ 100) : ∀ (m i n : Nat) (F : FF), i + m = nn → m < n → PR 0 F (runH H i) → ACCn F H (wAt H) i → ∃ F', fX7_steps_L38 N (nI nn) n (nI i) F = some (nI (totP H nn), F') ∧ PR 0 F' (runH H nn) ∧ FrA 0 F F' := by
  intro m
  induction m with
  | zero =>
    intro i n F hi hlt hR hA
    obtain ⟨n, rfl⟩ : ∃ k, n = k + 1 := ⟨n - 1, by omega⟩
    have : i = nn := by omega
    subst this
    rw [fX7_steps_L38.eq_2, if_pos (by simp (disch := omega) only [nI_leI]; omega), y_paidAll hN hA.1, bnd_some]
    refine ⟨F, ?_, hR, FrA.rf⟩
    rw [sum4 hW.2.1]
    rfl
  | succ m ih =>
    intro i n F hi hlt hR hA
    obtain ⟨n, rfl⟩ : ∃ k, n = k + 1 := ⟨n - 1, by omega⟩
    rw [fX7_steps_L38.eq_2, if_neg (by simp (disch := omega) only [nI_leI]; omega)]
    obtain ⟨F1, z1, z2, z3, z4⟩ := y_step (z := false) (pg := 0) hN (by omega) hR (hW.run (n := i) (by omega))
    have e : wAt (runH H i) 0 = wAt H i := runH_w
    have e2 : (if false = true then none else wAt (runH H i) 0) = wAt H i := e
    rw [e2] at z4
    have z2' : PR 0 F1 (runH H (i + 1)) := by
      have : stpO (runH H i) false = runH H (i + 1) := by
        unfold stpO
        rw [e2]
        rfl
      rw [← this]
      exact z2
    obtain ⟨F', y1, y2, y4⟩ := ih (i + 1) n F1 (by omega) (by omega) z2' (hA.step z4)
    refine ⟨F', ?_, y2, z3.tr y4⟩
    rw [show fX7_stepOn N 0 0 F = some ((), F1) from z1, bnd_some, show nI i + 1 = nI (i + 1) from nI_1 i]
    exact y1
theorem m_steps {N : Nat} {l1 : Int32} {F : FF} (hN : 1000 ≤ N) (hI : Inv F) : MOK (fX6_steps N l1) (fX7_steps N l1) F := by
  obtain ⟨H, hIP⟩ := id hI
  have h := hIP.1
  have hW := h.2.2.1
  have hst := h.2.2.2.2.1
  have h3 : F 1 3 = nI H.1.2.2.2 := h.1.1.2.2.2
  have h26 : F 83 26 = nI H.1.2.2.2 := h.2.1.1.2.2.2
  unfold MOK fX6_steps fX7_steps
  rw [xR100]
  rcases guard (x := l1) 101 with ⟨n, hn, rfl⟩ | hg
  · rw [bI_nI hn (by omega), if_pos n10, h3, nI_add]
    by_cases hw : H.1.2.2.2 + n < 10000
    · obtain ⟨F1, e1, hX, fa⟩ := x_steps_L (N := N) (nn := n) hN hW (by omega) (by omega) n 0 N F (by omega) (by omega) h.1
      have hP1 := h.X1 fa
      have k26 : F1 83 26 = nI H.1.2.2.2 := hP1.1.2.2.2
      obtain ⟨F2, b1, b2, b3, b4⟩ := y_starts (N := N) (F := F1) hN
      have hP2 : PR 0 F2 (runH H 0) := hP1.keep hW (b3 1 (by omega) (by omega)) (b3 20 (by omega) (by omega)) (fun k _ _ => by rw [b2 83 (by omega) (by omega)])
      obtain ⟨F3, y1, hY, y3⟩ := y_steps_L (N := N) (nn := n) hN hW (by omega) (by omega) n 0 N F2 (by omega) (by omega) hP2 (ACCn.zero b4)
      have fb : FrA 0 F1 F3 := (show FrA 0 F1 F2 from ⟨fun c h1 h2 h3 => b2 c h3 h2, b3, fun k hk => by rw [b2 83 (by omega) (by omega)]⟩).tr y3
      have hR := h.go hX hY (hW.run (n := n) (by omega)) h.2.2.2.1 (by show H.1.2.2.2 + n ≤ 9999; omega) fb fa
      refine ⟨nI (totP H n), F1, F3, ?_, ?_, inv_H hIP hR rfl (KH.of fa fb)⟩
      · rw [if_pos (by show nI (H.1.2.2.2 + n) < nI 10000; simp (disch := omega) only [nI_ltI]; omega)]
        have e0 : totP H 0 = 0 := by
          have := totP_le (n := 0) hW
          omega
        rw [e0] at e1
        exact e1
      · rw [yR100, bI_nI hn (by omega), if_pos n10, k26, nI_add, if_pos (by show nI (H.1.2.2.2 + n) ≤ nI 9999; simp (disch := omega) only [nI_leI]; omega), b1, bnd_some]
        exact y1
    · refine ⟨-3, F, F, ?_, ?_, hI⟩
      · rw [if_neg (by show ¬ nI (H.1.2.2.2 + n) < nI 10000; simp (disch := omega) only [nI_ltI]; omega)]
      · rw [yR100, bI_nI hn (by omega), if_pos n10, h26, nI_add, if_neg (by show ¬ nI (H.1.2.2.2 + n) ≤ nI 9999; simp (disch := omega) only [nI_leI]; omega)]
  · refine ⟨-1, F, F, ?_, ?_, hI⟩
    · rw [bI_f hg, if_neg (by decide)]
    · rw [yR100, bI_f hg, if_neg (by decide)]
