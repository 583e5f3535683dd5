/-! QUESTIONS: by steps -/
theorem x_trial {N : Nat} {F : FF} {H : Hs} (hN : 1000 ≤ N) (h : RH F H) : ∃ F1, fX0_copy N 16 1 F = some ((), F1) ∧ HR 16 F1 H ∧ KX F F1 ∧ FrH 16 F F1 := by
  obtain ⟨F1, e1, e2, e3⟩ := x_copyH (N := N) hN iH16 iH1 (by decide) h.1 h.2.2.1
  exact ⟨F1, e1, e2, e3.X, e3⟩
theorem cN_big {w : Nat → Option Nat} {x : Sh} {n : Nat} (hn : n ≤ 200) : cN w x 1000000000 n 0 = n := by
  have := pdS_le (w := w) (x := x) n
  rw [cN_all n 0 (by rw [Nat.zero_add]; omega), Nat.zero_add]
theorem q_paid {N : Nat} {l1 l2 : Int32} {F : FF} {H : Hs} (hN : 1000 ≤ N) (h : RH F H) : QOK (fX6_paid N l1 l2) (fX7_paid N l1 l2) F := by
  unfold QOK fX6_paid fX7_paid
  have hns := h.ns
  rw [h.xS, show (200 : Int32) = nI 200 from rfl, xR (by omega)]
  rcases guard (x := l1) H.1.2.1 with ⟨s, hs, rfl⟩ | hg
  · rcases guard (x := l2) 201 with ⟨n, hn, rfl⟩ | hg2
    · obtain ⟨F1, e1, e2, e3, -⟩ := x_trial hN h
      obtain ⟨F2, g1, g2, g3⟩ := x_paidBy (N := N) (s := s) (nn := n) (L := 1000000000) hN iH16 e2 h.2.2.1 hs (by omega) (by omega)
      have hR2 := (h.X e3).X g3.X
      obtain ⟨F3, y1, y2, y3, y4⟩ := y_go (N := N) (nn := n) hN (by omega) hR2.2.1 h.2.2.1 (by have := h.2.2.2.2.1; omega) (by omega)
      rw [cN_big (by omega)] at g1
      refine ⟨nI (pdS (wAt H) (H.2.1 s) n), F2, F3, ?_, ?_, e3.tr g3.X, y4.Y (by omega)⟩
      · rw [bI_nI hs (by omega), if_neg n10, bI_nI hn (by omega), if_pos n10, e1, bnd_some, show (1000000000 : Int32) = nI 1000000000 from rfl, g1, bnd_some]
      · rw [hR2.yS, bnd_some, bI_nI hs (by omega), if_neg n10, show (200 : Int64) = lN 200 from rfl, yR (by omega), bI_nI hn (by omega), if_pos n10, show (0 : Int32) = nI 0 from rfl, y1, bnd_some, ld_ok a88 (by omega), y3.1 s (by omega)]
        show some (nI (if s < H.1.2.1 then _ else 0), F3) = _
        rw [if_pos hs]
    · refine ⟨-1, F, F, ?_, ?_, KX.rf, KY.rf⟩
      · rw [bI_nI hs (by omega), if_neg n10, bI_f hg2, if_neg (by decide)]
      · rw [h.yS, bnd_some, bI_nI hs (by omega), if_neg n10, show (200 : Int64) = lN 200 from rfl, yR (by omega), bI_f hg2, if_neg (by decide)]
  · refine ⟨-1, F, F, ?_, ?_, KX.rf, KY.rf⟩
    · rw [bI_f hg, if_pos rfl]
    · rw [h.yS, bnd_some, bI_f hg, if_pos rfl]
theorem q_ahead {N : Nat} {l1 l2 l3 : Int32} {F : FF} {H : Hs} (hN : 1000 ≤ N) (h : RH F H) : QOK (fX6_ahead N l1 l2 l3) (fX7_ahead N l1 l2 l3) F := by
  unfold QOK fX6_ahead fX7_ahead
  have hns := h.ns
  have hnb := h.nb
  rw [h.xS, show (200 : Int32) = nI 200 from rfl, xR (by omega), h.xB]
  rcases guard (x := l1) H.1.2.1 with ⟨s, hs, rfl⟩ | hg
  · rcases guard (x := l2) 201 with ⟨n, hn, rfl⟩ | hg2
    · rcases guard (x := l3) H.1.1 with ⟨p, hp, rfl⟩ | hg3
      · obtain ⟨F1, e1, e2, e3, -⟩ := x_trial hN h
        obtain ⟨F2, g1, g2, g3⟩ := x_paidBy (N := N) (s := s) (nn := n) (L := 1000000000) hN iH16 e2 h.2.2.1 hs (by omega) (by omega)
        have hR2 := (h.X e3).X g3.X
        obtain ⟨F3, y1, y2, y3, y4⟩ := y_go (N := N) (nn := n) hN (by omega) hR2.2.1 h.2.2.1 (by have := h.2.2.2.2.1; omega) (by omega)
        rw [cN_big (by omega)] at g1 g2
        have hS := isS_of iH16 (show s < 4 by omega)
        have hSR := g2.2.2 s hs
        rw [upS_at] at hSR
        refine ⟨nI ((stS (wAt H) (H.2.1 s) n).2.1 p), F2, F3, ?_, ?_, e3.tr g3.X, y4.Y (by omega)⟩
        · rw [bI_nI hs (by omega), if_neg n10, bI_nI hn (by omega), if_neg n10, bI_nI hp (by omega), if_pos n10, e1, bnd_some, show (1000000000 : Int32) = nI 1000000000 from rfl, g1, bnd_some, ldR_H iH16 (show s < 4 by omega), gR_S2 hS, ld_ok (aS1 hS) (by omega), hSR.2.2.1 p (by omega)]
        · rw [hR2.yS, bnd_some, bI_nI hs (by omega), if_neg n10, show (200 : Int64) = lN 200 from rfl, yR (by omega), bI_nI hn (by omega), if_neg n10, hR2.yB, bnd_some, bI_nI hp (by omega), if_pos n10, show (0 : Int32) = nI 0 from rfl, y1, bnd_some, show (327 : Int32) + 6 * nI s + nI p = nI (300 + 27 + 6 * s + p) by rw [show 6 * nI s = nI (6 * s) from nI_mul 6 s, show 327 + nI (6 * s) = nI (327 + 6 * s) from nI_add 327 _, nI_add], ld_ok a83 (by omega), (y2.2.2 s hs).2.2.1 p (by omega)]
          rfl
      · refine ⟨-1, F, F, ?_, ?_, KX.rf, KY.rf⟩
        · rw [bI_nI hs (by omega), if_neg n10, bI_nI hn (by omega), if_neg n10, bI_f hg3, if_neg (by decide)]
        · rw [h.yS, bnd_some, bI_nI hs (by omega), if_neg n10, show (200 : Int64) = lN 200 from rfl, yR (by omega), bI_nI hn (by omega), if_neg n10, h.yB, bnd_some, bI_f hg3, if_neg (by decide)]
    · refine ⟨-1, F, F, ?_, ?_, KX.rf, KY.rf⟩
      · rw [bI_nI hs (by omega), if_neg n10, bI_f hg2, if_pos rfl]
      · rw [h.yS, bnd_some, bI_nI hs (by omega), if_neg n10, show (200 : Int64) = lN 200 from rfl, yR (by omega), bI_f hg2, if_pos rfl]
  · refine ⟨-1, F, F, ?_, ?_, KX.rf, KY.rf⟩
    · rw [bI_f hg, if_pos rfl]
    · rw [h.yS, bnd_some, bI_f hg, if_pos rfl]
/-! when -/
def whn (w : Nat → Option Nat) (x : Sh) (b : Nat) : Nat → Nat → Option Nat
  | 0, _ => none
  | m + 1, i => if (stS w x i).2.1 0 = b then some i else whn w x b m (i + 1)
theorem x_when_L {N s b : Nat} {H : Hs} (hN : 1000 ≤ N) (hW : WH H) (hs : s < H.1.2.1) (hb : b < 6) : ∀ (m i n : Nat) (F : FF), i + m = 201 → m < n → HR 16 F (upS H s (stS (wAt H) (H.2.1 s) i)) → ∃ F1, fX6_when_L37 N (nI s) (nI b) n (nI i) F = some (oI (whn (wAt H) (H.2.1 s) b m i), F1) ∧ FrH 16 F F1 := by
  have w2 := hW.2.1
  intro m
  induction m with
  | zero =>
    intro i n F hi hn hR
    obtain ⟨n, rfl⟩ : ∃ k, n = k + 1 := ⟨n - 1, by omega⟩
    rw [fX6_when_L37.eq_2, if_pos (by simp (disch := omega) only [il, nI_ltI]; omega)]
    exact ⟨F, rfl, FrH.rf⟩
  | succ m ih =>
    intro i n F hi hn hR
    obtain ⟨n, rfl⟩ : ∃ k, n = k + 1 := ⟨n - 1, by omega⟩
    have hS := isS_of iH16 (show s < 4 by omega)
    have hWS := ws_stS (hW.2.2.2.2.2 s hs) hW.1.2 hW.okW i
    have hSR := hR.2.2 s hs
    rw [upS_at] at hSR
    have h6 := hWS.2.1 0 (by omega)
    rw [fX6_when_L37.eq_2, if_neg (by simp (disch := omega) only [il, nI_ltI]; omega), ldR_H iH16 (show s < 4 by omega), gR_S2 hS, show (0 : Int32) = nI 0 from rfl, ld_ok (aS1 hS) (by omega), hSR.2.2.1 0 (by omega)]
    unfold whn
    by_cases e : (stS (wAt H) (H.2.1 s) i).2.1 0 = b
    · rw [if_neg (by rw [e]; exact fun h => h rfl), if_pos e]
      exact ⟨F, rfl, FrH.rf⟩
    · rw [if_pos (by simp (disch := omega) only [nI_eq]; exact e), if_neg e]
      obtain ⟨F1, e1, e2, e3⟩ := x_serveTurn (t := i) hN iH16 hR (hW.up hWS) hs (by omega)
      rw [upS_up, upS_at, upS_wAt] at e2
      obtain ⟨F2, g1, g2⟩ := ih (i + 1) n F1 (by omega) (by omega) e2
      refine ⟨F2, ?_, e3.tr g2⟩
      rw [e1, bnd_some, show nI i + 1 = nI (i + 1) from nI_1 i]
      exact g1
theorem y_when_L {N s b : Nat} {H : Hs} (hN : 1000 ≤ N) (hW : WH H) (hst : H.1.2.2.2 ≤ 10000) (hs : s < H.1.2.1) (hb : b < 6) : ∀ (m i n : Nat) (F : FF), i + m = 201 → m < n → PR 300 F (runH H i) → ∃ F1, fX7_when_L28 N (nI s) (nI b) n (nI i) F = some (oI (whn (wAt H) (H.2.1 s) b m i), F1) ∧ FrA 300 F F1 := by
  have w2 := hW.2.1
  intro m
  induction m with
  | zero =>
    intro i n F hi hn hR
    obtain ⟨n, rfl⟩ : ∃ k, n = k + 1 := ⟨n - 1, by omega⟩
    rw [fX7_when_L28.eq_2, if_pos (by simp (disch := omega) only [il, nI_ltI]; omega)]
    exact ⟨F, rfl, FrA.rf⟩
  | succ m ih =>
    intro i n F hi hn hR
    obtain ⟨n, rfl⟩ : ∃ k, n = k + 1 := ⟨n - 1, by omega⟩
    have hWS := ws_stS (hW.2.2.2.2.2 s hs) hW.1.2 hW.okW i
    have h6 := hWS.2.1 0 (by omega)
    have q3 : F 83 (300 + 27 + 6 * s + 0) = nI ((stS (wAt H) (H.2.1 s) i).2.1 0) := (hR.2.2 s hs).2.2.1 0 (by omega)
    rw [fX7_when_L28.eq_2, if_neg (by simp (disch := omega) only [il, nI_ltI]; omega), show (327 : Int32) + 6 * nI s = nI (300 + 27 + 6 * s + 0) by rw [show 6 * nI s = nI (6 * s) from nI_mul 6 s]; exact nI_add 327 _, ld_ok a83 (by omega), q3]
    unfold whn
    by_cases e : (stS (wAt H) (H.2.1 s) i).2.1 0 = b
    · rw [if_neg (by rw [e]; exact fun h => h rfl), if_pos e]
      exact ⟨F, rfl, FrA.rf⟩
    · rw [if_pos (by simp (disch := omega) only [nI_eq]; exact e), if_neg e]
      obtain ⟨F1, z1, z2, z3, -⟩ := y_step (z := false) (pg := 300) hN (by omega) hR (hW.run (n := i) (by omega))
      have z2' : PR 300 F1 (runH H (i + 1)) := by
        have : stpO (runH H i) false = runH H (i + 1) := by
          have e2 : (if false = true then none else wAt (runH H i) 0) = wAt H i := runH_w
          unfold stpO
          rw [e2]
          rfl
        rw [← this]
        exact z2
      obtain ⟨F2, g1, g2⟩ := ih (i + 1) n F1 (by omega) (by omega) z2'
      refine ⟨F2, ?_, z3.tr g2⟩
      rw [show (300 : Int32) = nI 300 from rfl, show (0 : Int32) = bI false from rfl, z1, bnd_some, show nI i + 1 = nI (i + 1) from nI_1 i]
      exact g1
theorem q_when {N : Nat} {l1 l2 : Int32} {F : FF} {H : Hs} (hN : 1000 ≤ N) (h : RH F H) : QOK (fX6_when N l1 l2) (fX7_when N l1 l2) F := by
  unfold QOK fX6_when fX7_when
  have hns := h.ns
  have hnb := h.nb
  rw [h.xS, h.xB]
  rcases guard (x := l1) H.1.2.1 with ⟨s, hs, rfl⟩ | hg
  · rcases guard (x := l2) H.1.1 with ⟨b, hb, rfl⟩ | hg2
    · obtain ⟨F1, e1, e2, e3, -⟩ := x_trial hN h
      obtain ⟨F2, g1, g2⟩ := x_when_L (N := N) (b := b) hN h.2.2.1 hs (by omega) 201 0 N F1 rfl (by omega) (upS_self e2)
      have hR2 := (h.X e3).X g2.X
      obtain ⟨F3, c1, c2, c3⟩ := y_copies (N := N) (F := F2) (f := 0) (t := 300) hN (by omega) (by omega) (by omega)
      have hR3 : PR 300 F3 (runH H 0) := hR2.2.1.copy h.2.2.1 c2 c3
      obtain ⟨F4, y1, y2⟩ := y_when_L (N := N) (b := b) hN h.2.2.1 (by have := h.2.2.2.2.1; omega) hs (by omega) 201 0 N F3 rfl (by omega) hR3
      refine ⟨oI (whn (wAt H) (H.2.1 s) b 201 0), F2, F4, ?_, ?_, e3.tr g2.X, (show KY F2 F3 from ⟨fun c _ h83 _ _ => c2 c h83, fun k _ _ => by rw [c2 82 (by omega)], fun k hk => by rw [c3, if_neg (by omega)]⟩).tr (y2.Y (by omega))⟩
      · rw [bI_nI hs (by omega), if_neg n10, bI_nI hb (by omega), if_pos n10, e1, bnd_some]
        exact g1
      · rw [hR2.yS, bnd_some, bI_nI hs (by omega), if_neg n10, hR2.yB, bnd_some, bI_nI hb (by omega), if_pos n10, show (0 : Int32) = nI 0 from rfl, show (300 : Int32) = nI 300 from rfl, c1, bnd_some]
        exact y1
    · refine ⟨-1, F, F, ?_, ?_, KX.rf, KY.rf⟩
      · rw [bI_nI hs (by omega), if_neg n10, bI_f hg2, if_neg (by decide)]
      · rw [h.yS, bnd_some, bI_nI hs (by omega), if_neg n10, h.yB, bnd_some, bI_f hg2, if_neg (by decide)]
  · refine ⟨-1, F, F, ?_, ?_, KX.rf, KY.rf⟩
    · rw [bI_f hg, if_pos rfl]
    · rw [h.yS, bnd_some, bI_f hg, if_pos rfl]
/-! runs -/
theorem x_cheap_L {N nn : Nat} {H : Hs} (hN : 1000 ≤ N) (hW : WH H) (hn : nn ≤ 200) : ∀ (m i n : Nat) (F : FF) (Hc : Hs), i + m = H.1.2.1 → m < n → HR 16 F Hc → WH Hc → Hc.1 = H.1 → Hc.2.2 = H.2.2 → (∀ s, i ≤ s → Hc.2.1 s = H.2.1 s) → F 40 0 = oI (bst (fun s => pdS (wAt H) (H.2.1 s) nn) 1000000000 i).1 → F 40 1 = nI (bst (fun s => pdS (wAt H) (H.2.1 s) nn) 1000000000 i).2 → ∃ F1, fX6_cheapestIn_L11 N (nI nn) n (nI i) F = some (oI (bst (fun s => pdS (wAt H) (H.2.1 s) nn) 1000000000 H.1.2.1).1, F1) ∧ KX F F1 := by
  obtain ⟨w1, w2, w3, w4, w5, w6⟩ := id hW
  intro m
  induction m with
  | zero =>
    intro i n F Hc hi hlt hR hWc h1 h2 h3 h40 h41
    obtain ⟨n, rfl⟩ : ∃ k, n = k + 1 := ⟨n - 1, by omega⟩
    rw [fX6_cheapestIn_L11.eq_2, hR.1.2.1, h1, if_pos (by simp (disch := omega) only [nI_leI]; omega), h40, show i = H.1.2.1 by omega]
    exact ⟨F, rfl, KX.rf⟩
  | succ m ih =>
    intro i n F Hc hi hlt hR hWc h1 h2 h3 h40 h41
    obtain ⟨n, rfl⟩ : ∃ k, n = k + 1 := ⟨n - 1, by omega⟩
    rw [fX6_cheapestIn_L11.eq_2, hR.1.2.1, h1, if_neg (by simp (disch := omega) only [nI_leI]; omega)]
    have hsc : i < Hc.1.2.1 := by rw [h1]; omega
    obtain ⟨F1, e1, e2, e3⟩ := x_paidBy (N := N) (s := i) (nn := nn) (L := 1000000000) hN iH16 hR hWc hsc hn (by omega)
    have hwe : wAt Hc = wAt H := by funext t; unfold wAt; rw [h1, h2]
    rw [h3 i (Nat.le_refl i), hwe, cN_big hn] at e1 e2
    have hv7 := pdS_le (w := wAt H) (x := H.2.1 i) nn
    have hbl := bst_le (f := fun s => pdS (wAt H) (H.2.1 s) nn) (L := 1000000000) i
    obtain ⟨F2, g1, g2, g3, g4⟩ := x_offer (N := N) (i := i) (f := fun s => 0) (v := pdS (wAt H) (H.2.1 i) nn) (F := F1) (by rw [e3 40 (by omega)]; exact h40) (by rw [e3 40 (by omega)]; exact h41) (by omega) (by omega)
    have eb : bst (fun s => pdS (wAt H) (H.2.1 s) nn) 1000000000 (i + 1) = if pdS (wAt H) (H.2.1 i) nn < (bst (fun s => pdS (wAt H) (H.2.1 s) nn) 1000000000 i).2 then (some i, pdS (wAt H) (H.2.1 i) nn) else bst (fun s => pdS (wAt H) (H.2.1 s) nn) 1000000000 i := rfl
    have hWS : WS Hc.1.1 (stS (wAt H) (H.2.1 i) nn) := by
      rw [h1]
      exact ws_stS (w6 i (by omega)) w1.2 hW.okW _
    obtain ⟨F3, k1, k2⟩ := ih (i + 1) n F2 (upS Hc i (stS (wAt H) (H.2.1 i) nn)) (by omega) (by omega) (e2.keep (by show Hc.1.2.1 ≤ 4; rw [h1]; exact w2) (fun c _ _ => g4 c (by omega))) (hWc.up hWS) h1 h2 (fun s hs => by
      show (if s = i then _ else Hc.2.1 s) = _
      rw [if_neg (by omega)]
      exact h3 s (by omega)) (by rw [g2, eb]; split <;> rfl) (by rw [g3, eb]; split <;> rfl)
    refine ⟨F3, ?_, (e3.X.tr (K40 g4)).tr k2⟩
    rw [show (1000000000 : Int32) = nI 1000000000 from rfl, e1, bnd_some, g1, bnd_some, show nI i + 1 = nI (i + 1) from nI_1 i]
    exact k1
theorem q_runs {N : Nat} {l1 l2 : Int32} {F : FF} {H : Hs} (hN : 1000 ≤ N) (h : RH F H) : QOK (fX6_runs N l1 l2) (fX7_runs N l1 l2) F := by
  unfold QOK fX6_runs fX7_runs
  have hns := h.ns
  have hW := h.2.2.1
  rw [show (200 : Int32) = nI 200 from rfl, xR (by omega)]
  rcases guard (x := l1) 201 with ⟨n, hn, rfl⟩ | hg
  · rw [bI_nI hn (by omega), if_pos n10]
    obtain ⟨F1, e1, e2, e3, e3'⟩ := x_trial hN h
    rw [e1, bnd_some]
    have hy : ∀ F2, KX F F2 → ∃ F3, fX7_stepsGo N 0 (nI n) F2 = some (nI (totP H n), F3) ∧ ACCn F3 H (wAt H) n ∧ KY F2 F3 ∧ RH F3 H := by
      intro F2 k
      have hR2 := h.X k
      obtain ⟨F3, y1, y2, y3, y4⟩ := y_go (N := N) (pg := 0) (nn := n) hN (by omega) hR2.2.1 hW (by have := h.2.2.2.2.1; omega) (by omega)
      exact ⟨F3, y1, y3, y4.Y (by omega), hR2.Y (y4.Y (by omega))⟩
    have hyg : ∀ F2, pX7_in ((nI n).toInt64) 0 200 F2 = 1 := fun F2 => by rw [show (200 : Int64) = lN 200 from rfl, yR (by omega), bI_nI hn (by omega)]
    rcases guard (x := l2) 4 with ⟨w, hw, rfl⟩ | hg2
    · have hyw : ∀ F2, pX7_in ((nI w).toInt64) 0 3 F2 = 1 := fun F2 => by rw [show (3 : Int64) = lN 3 from rfl, yR (by omega), bI_nI hw (by omega)]
      rcases (show w = 0 ∨ w = 1 ∨ w = 2 ∨ w = 3 by omega) with rfl | rfl | rfl | rfl
      · obtain ⟨F2, v, g1, -, g3, -, g5⟩ := x_paidByAll (N := N) (nn := n) (L := 1000000000) hN iH16 e2 hW (by omega) (by omega)
        have ht := totP_le (n := n) hW
        obtain ⟨F3, y1, -, y3, -⟩ := hy F2 (e3.tr g5.X)
        refine ⟨nI (totP H n), F2, F3, ?_, ?_, e3.tr g5.X, y3⟩
        · rw [if_pos (show nI 0 = 0 from rfl), show (1000000000 : Int32) = nI 1000000000 from rfl, g1, bnd_some, g3 (by omega)]
        · rw [hyg, if_neg n10, hyw, if_pos n10, y1, bnd_some, if_neg (by decide)]
      · obtain ⟨F2, g1, g2, g3, g4⟩ := x_reset (N := N) (L := 1000000000) (F := F1)
        obtain ⟨F3, k1, k2⟩ := x_cheap_L (N := N) (nn := n) hN hW (by omega) H.1.2.1 0 N F2 H (by omega) (by omega) (e2.keep hns (fun c _ _ => g4 c (by omega))) hW rfl rfl (fun _ _ => rfl) g2 g3
        obtain ⟨F4, y1, y2, y3, y4⟩ := hy F3 ((e3.tr (K40 g4)).tr k2)
        refine ⟨oI (bst (fun s => pdS (wAt H) (H.2.1 s) n) 1000000000 H.1.2.1).1, F3, F4, ?_, ?_, (e3.tr (K40 g4)).tr k2, y3⟩
        · rw [if_neg (by decide), if_pos (show nI 1 = 1 from rfl), fX6_cheapestIn, show (1000000000 : Int32) = nI 1000000000 from rfl, g1, bnd_some]
          rw [show (0 : Int32) = nI 0 from rfl, k1, bnd_some]
        · rw [hyg, if_neg n10, hyw, if_pos n10, y1, bnd_some, if_pos (by decide), if_neg (by decide), y_cheap (P := fun s => if s < H.1.2.1 then pdS (wAt H) (H.2.1 s) n else 0) hN y4.2.1.1.2.1 hns y2.1 (fun s hs => by
            have := pdS_le (w := wAt H) (x := H.2.1 s) n
            show (if _ then _ else _) < _
            split <;> omega), bnd_some, bst_cg (g := fun s => pdS (wAt H) (H.2.1 s) n) H.1.2.1 (fun s hs => if_pos hs)]
      · obtain ⟨F2, g1, g2⟩ := x_dearest (N := N) (nn := n) hN iH16 e2 hW (by omega)
        obtain ⟨F3, y1, y2, y3, -⟩ := hy F2 (e3.tr g2.X)
        refine ⟨nI (mxTo (fun s => mxS (wAt H) (H.2.1 s) n) H.1.2.1), F2, F3, ?_, ?_, e3.tr g2.X, y3⟩
        · rw [if_neg (by decide), if_neg (by decide), if_pos (show nI 2 = 2 from rfl), g1, bnd_some]
        · rw [hyg, if_neg n10, hyw, if_pos n10, y1, bnd_some, if_pos (by decide), if_pos (by decide), if_neg (by decide), y2.2.1]
      · obtain ⟨F2, g1, g2⟩ := x_moves (N := N) (nn := n) hN iH16 e2 hW h.2.2.2.1 (by omega)
        obtain ⟨F3, y1, y2, y3, -⟩ := hy F2 (e3.tr g2.X)
        refine ⟨nI (sumTo (fun s => mvS (wAt H) (H.2.1 s) n) H.1.2.1), F2, F3, ?_, ?_, e3.tr g2.X, y3⟩
        · rw [if_neg (by decide), if_neg (by decide), if_neg (by decide), if_pos (show nI 3 = 3 from rfl), g1, bnd_some]
        · rw [hyg, if_neg n10, hyw, if_pos n10, y1, bnd_some, if_pos (by decide), if_pos (by decide), if_pos (by decide), y2.2.2]
    · have hne : ∀ k : Nat, k < 4 → ¬ l2 = nI k := fun k hk e => hg2 (by rw [e, nI_toInt (by omega)]; omega)
      refine ⟨-1, F1, F1, ?_, ?_, e3, KY.rf⟩
      · rw [if_neg (show ¬ l2 = 0 from hne 0 (by omega)), if_neg (show ¬ l2 = 1 from hne 1 (by omega)), if_neg (show ¬ l2 = 2 from hne 2 (by omega)), if_neg (show ¬ l2 = 3 from hne 3 (by omega))]
      · rw [hyg, if_neg n10, show (3 : Int64) = lN 3 from rfl, yR (by omega), bI_f hg2, if_neg (by decide)]
  · refine ⟨-1, F, F, ?_, ?_, KX.rf, KY.rf⟩
    · rw [bI_f hg, if_neg (by decide)]
    · rw [show (200 : Int64) = lN 200 from rfl, yR (by omega), bI_f hg, if_pos rfl]
