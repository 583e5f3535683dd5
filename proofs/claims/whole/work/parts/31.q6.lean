/-! QUESTIONS: which book first, which want not, which two wants -/
def fSh (x : Sh) (b : Nat) : Sh := (x.1, mv x.2.1 (plc x.2.1 b) 0, x.2.2)
theorem ws_f {nb b : Nat} {x : Sh} (h : WS nb x) (h1 : 1 ≤ nb) (hn : nb ≤ 6) (hb : b < nb) : WS nb (fSh x b) := ws_mv h hn (h.plt hn hb) (by omega) h.1.1 h.1.2 h.2.2.2.2.2
theorem x_first_L {N s nn : Nat} {l3 : Int32} {H : Hs} (hN : 1000 ≤ N) (hW : WH H) (hs : s < H.1.2.1) (hn : nn ≤ 200) : ∀ (m i n : Nat) (F : FF) (x : Sh), i + m = H.1.1 → m < n → HR 1 F H → WS H.1.1 x → HR 16 F (upS H s x) → LE F (bst (fun b => pdS (wAt H) (fSh (H.2.1 s) b) nn) 1000000000 i) → ∃ F1, fX6_first_L67 N (nI s) (nI nn) l3 (16 + 3 + 3 * s) n (nI i) F = some (ansV (bst (fun b => pdS (wAt H) (fSh (H.2.1 s) b) nn) 1000000000 H.1.1) l3, F1) ∧ KX F F1 := by
  obtain ⟨w1, w2, w3, w4, w5, w6⟩ := id hW
  have hS1 := isS_of iH1 (show s < 4 by omega)
  have hS := isS_of iH16 (show s < 4 by omega)
  intro m
  induction m with
  | zero =>
    intro i n F x hi hlt h1 hx hR hL
    obtain ⟨n, rfl⟩ : ∃ k, n = k + 1 := ⟨n - 1, by omega⟩
    have e : i = H.1.1 := by omega
    subst e
    rw [fX6_first_L67.eq_2, h1.1.1, if_pos (by simp (disch := omega) only [nI_leI]; omega), x_answer hL (fun i hi => by have := (bst_lt _ _ hi).1; omega)]
    exact ⟨F, rfl, KX.rf⟩
  | succ m ih =>
    intro i n F x hi hlt h1 hx hR hL
    obtain ⟨n, rfl⟩ : ∃ k, n = k + 1 := ⟨n - 1, by omega⟩
    have hib : i < H.1.1 := by omega
    have hWS := w6 s hs
    have hpl := hWS.plt w1.2 hib
    obtain ⟨F1, e1, e2, e3⟩ := x_copyS (N := N) hS hS1 (h1.2.2 s hs)
    have hup := hR.up (s := s) (F' := F1) w2 hs e2 e3
    rw [upS_up] at hup
    obtain ⟨F2, f1, f2, f3⟩ := x_shift (N := N) (F := F1) (r := (H.2.1 s).2.1) (f := plc (H.2.1 s).2.1 i) (t := 0) hN hS (by omega) (by omega) e2.2.2.1
    have hSR2 : SR (16 + 3 + 3 * s) F2 (fSh (H.2.1 s) i) := ⟨by rw [f3 _ (by omega)]; exact e2.1, by rw [f3 _ (by omega)]; exact e2.2.1, f2, fun p hp => by rw [f3 _ (by omega)]; exact e2.2.2.2 p hp⟩
    have hk := hup.1.up (s := s) (F' := F2) w2 hs hSR2 (fun c _ c2 _ => f3 c c2)
    rw [upS_up] at hk
    have h40 : F2 40 = F 40 := by rw [hk.2 40 (by omega), hup.2 40 (by omega)]
    have hbl := bst_le (f := fun b => pdS (wAt H) (fSh (H.2.1 s) b) nn) (L := 1000000000) i
    obtain ⟨F3, g1, g2, g3⟩ := x_paidBy (N := N) (s := s) (nn := nn) (L := (bst (fun b => pdS (wAt H) (fSh (H.2.1 s) b) nn) 1000000000 i).2) hN iH16 hk.1 (hW.up (ws_f hWS w1.1 w1.2 hib)) hs hn (by omega)
    rw [upS_at] at g1 g2
    have hwe : wAt (upS H s (fSh (H.2.1 s) i)) = wAt H := rfl
    rw [hwe] at g1 g2
    have hv := pdc_le (w := wAt H) (x := fSh (H.2.1 s) i) (L := (bst (fun b => pdS (wAt H) (fSh (H.2.1 s) b) nn) 1000000000 i).2) hn
    obtain ⟨F4, k1, k2, k3⟩ := x_off (N := N) (i := i) (F := F3) (t := pdS (wAt H) (fSh (H.2.1 s) i) nn) (by unfold LE; rw [g3 40 (by omega), h40]; exact hL) (by omega) (by omega) cN_off.1 cN_off.2
    rw [upS_up] at g2
    have hK : KX F F4 := ((hup.2.X.tr hk.2.X).tr g3.X).tr (K40 k3)
    obtain ⟨F5, z1, z2⟩ := ih (i + 1) n F4 _ (by omega) (by omega) (h1.keep w2 (fun c _ _ => hK c (by omega))) (ws_stS (ws_f hWS w1.1 w1.2 hib) w1.2 hW.okW _) (g2.keep w2 (fun c _ _ => k3 c (by omega))) k2
    refine ⟨F5, ?_, hK.tr z2⟩
    rw [fX6_first_L67.eq_2, h1.1.1, if_neg (by simp (disch := omega) only [nI_leI]; omega), ldR_H iH1 (show s < 4 by omega), e1, cal_some (okC_S hS), x_find hN hS e2 hWS.2.1 (by omega), cal_some (okC_S hS), show (0 : Int32) = nI 0 from rfl, f1, cal_some (okC_S hS), show F2 40 1 = nI (bst (fun b => pdS (wAt H) (fSh (H.2.1 s) b) nn) 1000000000 i).2 by rw [h40]; exact hL.2, g1, bnd_some, k1, bnd_some, show nI i + 1 = nI (i + 1) from nI_1 i]
    exact z1
theorem y_first_L {N s nn : Nat} {l3 : Int32} {H : Hs} (hN : 1000 ≤ N) (hs : s < H.1.2.1) (hn : nn ≤ 200) : ∀ (m i n : Nat) (F : FF), i + m = H.1.1 → m < n → RH F H → ∃ F1, fX7_first_L42 N (nI s) (nI nn) l3 n (nI (bst (fun b => pdS (wAt H) (fSh (H.2.1 s) b) nn) 1000000 i).2) (wh0 (bst (fun b => pdS (wAt H) (fSh (H.2.1 s) b) nn) 1000000 i)) (nI i) F = some (ansV (bst (fun b => pdS (wAt H) (fSh (H.2.1 s) b) nn) 1000000000 H.1.1) l3, F1) ∧ KY F F1 := by
  intro m
  induction m with
  | zero =>
    intro i n F hi hlt h
    obtain ⟨n, rfl⟩ : ∃ k, n = k + 1 := ⟨n - 1, by omega⟩
    have hnb := h.nb
    have e : i = H.1.1 := by omega
    rw [fX7_first_L42.eq_2, h.2.1.1.1, if_pos (by simp (disch := omega) only [nI_leI]; omega)]
    obtain ⟨j, hj⟩ : ∃ j, H.1.1 = j + 1 := ⟨H.1.1 - 1, by omega⟩
    rw [e, hj, ans_wh (n := j) (fun i hi => by have := pdS_le (w := wAt H) (x := fSh (H.2.1 s) i) nn; omega)]
    exact ⟨F, rfl, KY.rf⟩
  | succ m ih =>
    intro i n F hi hlt h
    obtain ⟨n, rfl⟩ : ∃ k, n = k + 1 := ⟨n - 1, by omega⟩
    obtain ⟨w1, w2, w3, w4, w5, w6⟩ := id h.2.2.1
    have hib : i < H.1.1 := by omega
    have hWS := w6 s hs
    have hpl := hWS.plt w1.2 hib
    obtain ⟨F1, c1, c2, c3⟩ := y_page (t := 375) hN h (by omega)
    have hQ := c2.2.2 s hs
    obtain ⟨F2, f1, f2, f3, f4⟩ := y_stands (N := N) (F := F1) (pg := 375) (s := s) (r := (H.2.1 s).2.1) (f := plc (H.2.1 s).2.1 i) (t := 0) hN (by omega) (by omega) (by omega) (by omega) hQ.2.2.1
    have hQ2 : QR 375 s F2 (fSh (H.2.1 s) i) := ⟨by rw [f4 _ (by omega)]; exact hQ.1, by rw [f4 _ (by omega)]; exact hQ.2.1, f2, fun p hp => by rw [f4 _ (by omega)]; exact hQ.2.2.2 p hp⟩
    have hR2 := c2.up (s := s) (F' := F2) w3 w2 hs hQ2 (fun k _ _ => by rw [f3 82 (by omega)]) (fun k _ _ k3 _ => f4 k (by omega))
    have hWu := h.2.2.1.up (s := s) (ws_f hWS w1.1 w1.2 hib)
    obtain ⟨F3, y1, y2, y3, y4⟩ := y_go (N := N) (pg := 375) (nn := nn) hN (by omega) hR2 hWu (by have := h.2.2.2.2.1; show H.1.2.2.2 ≤ 10000; omega) hn
    have e88 : F3 88 s = nI (pdS (wAt H) (fSh (H.2.1 s) i) nn) := by
      rw [y3.1 s (by omega)]
      show nI (if s < H.1.2.1 then pdS (wAt H) ((upS H s (fSh (H.2.1 s) i)).2.1 s) nn else 0) = _
      rw [if_pos hs, upS_at]
    have hv := pdS_le (w := wAt H) (x := fSh (H.2.1 s) i) nn
    have hbl := bst_le (f := fun b => pdS (wAt H) (fSh (H.2.1 s) b) nn) (L := 1000000) i
    have hK : KY F F3 := (c3.tr (show KY F1 F2 from ⟨fun c _ h83 _ _ => f3 c h83, fun k _ _ => by rw [f3 82 (by omega)], fun k hk => f4 k (by omega)⟩)).tr (y4.Y (by omega))
    obtain ⟨F4, z1, z2⟩ := ih (i + 1) n F3 (by omega) (by omega) (h.Y hK)
    have ho := wh_off (p := bst (fun b => pdS (wAt H) (fSh (H.2.1 s) b) nn) 1000000 i) (i := i) (v := pdS (wAt H) (fSh (H.2.1 s) i) nn) (by omega) (by omega)
    refine ⟨F4, ?_, hK.tr z2⟩
    rw [fX7_first_L42.eq_2, h.2.1.1.1, if_neg (by simp (disch := omega) only [nI_leI]; omega), show (375 : Int32) = nI 375 from rfl, c1, bnd_some, y_place hN (by omega) (by omega) c2.1.1 hQ.2.2.1 hWS w1.2 hib, bnd_some, show (0 : Int32) = nI 0 from rfl, f1, bnd_some, y1, bnd_some, ld_ok a88 (by omega), ld_ok a88 (by omega), e88, ho.1]
    rw [← z1, bst_off, ← ho.2]
    by_cases c : nI (bst (fun b => pdS (wAt H) (fSh (H.2.1 s) b) nn) 1000000 i).2 ≤ nI (pdS (wAt H) (fSh (H.2.1 s) i) nn)
    · rw [if_pos c, if_pos c, fX7_first_b129, show nI i + 1 = nI (i + 1) from nI_1 i]
    · rw [if_neg c, if_neg c, ld_ok a88 (by omega), e88, fX7_first_b129, show nI i + 1 = nI (i + 1) from nI_1 i]
theorem q_first {N : Nat} {l1 l2 l3 : Int32} {F : FF} {H : Hs} (hN : 1000 ≤ N) (h : RH F H) : QOK (fX6_first N l1 l2 l3) (fX7_first N l1 l2 l3) F := by
  unfold QOK fX6_first fX7_first
  have hns := h.ns
  have hnb := h.nb
  have hW := h.2.2.1
  rw [h.xS, xR200, xR1]
  rcases guard (x := l1) H.1.2.1 with ⟨s, hs, rfl⟩ | hg
  · rcases guard (x := l2) 201 with ⟨n, hn, rfl⟩ | hg2
    · rcases guard (x := l3) 2 with ⟨w, hw, rfl⟩ | hg3
      · obtain ⟨F1, e1, e2, e3, -⟩ := x_trial hN h
        obtain ⟨F2, g1, g2, g3, g4⟩ := x_reset (N := N) (L := 1000000000) (F := F1)
        obtain ⟨F3, k1, k2⟩ := x_first_L (N := N) (s := s) (nn := n) (l3 := nI w) hN hW hs (by omega) H.1.1 0 N F2 (H.2.1 s) (by omega) (by omega) (((h.X e3).X (K40 g4)).1) (hW.2.2.2.2.2 s hs) (upS_self (e2.keep hns (fun c _ _ => g4 c (by omega)))) ⟨g2, g3⟩
        have hK := (e3.tr (K40 g4)).tr k2
        have hR3 := h.X hK
        obtain ⟨F5, y1, y2⟩ := y_first_L (N := N) (s := s) (nn := n) (l3 := nI w) hN hs (by omega) H.1.1 0 N F3 (by omega) (by omega) hR3
        refine ⟨ansV (bst (fun b => pdS (wAt H) (fSh (H.2.1 s) b) n) 1000000000 H.1.1) (nI w), F3, F5, ?_, ?_, hK, y2⟩
        · rw [bI_nI hs (by omega), if_neg n10, bI_nI hn (by omega), if_neg n10, bI_nI hw (by omega), if_pos n10, e1, bnd_some, ldR_H iH16 (show s < 4 by omega), show (1000000000 : Int32) = nI 1000000000 from rfl, g1, bnd_some]
          exact k1
        · rw [hR3.yS, bnd_some, bI_nI hs (by omega), if_neg n10, yR200, bI_nI hn (by omega), if_neg n10, yR1, bI_nI hw (by omega), if_pos n10]
          exact y1
      · refine ⟨-1, F, F, ?_, ?_, KX.rf, KY.rf⟩
        · rw [bI_nI hs (by omega), if_neg n10, bI_nI hn (by omega), if_neg n10, bI_f hg3, if_neg (by decide)]
        · rw [h.yS, bnd_some, bI_nI hs (by omega), if_neg n10, yR200, bI_nI hn (by omega), if_neg n10, yR1, bI_f hg3, if_neg (by decide)]
    · refine ⟨-1, F, F, ?_, ?_, KX.rf, KY.rf⟩
      · rw [bI_nI hs (by omega), if_neg n10, bI_f hg2, if_pos rfl]
      · rw [h.yS, bnd_some, bI_nI hs (by omega), if_neg n10, yR200, bI_f hg2, if_pos rfl]
  · refine ⟨-1, F, F, ?_, ?_, KX.rf, KY.rf⟩
    · rw [bI_f hg, if_pos rfl]
    · rw [h.yS, bnd_some, bI_f hg, if_pos rfl]
/-! wants that are other -/
def setW (H : Hs) (i : Nat) (o : Option Nat) : Hs := (H.1, H.2.1, fun j => if j = i then o else H.2.2 j)
theorem WH.setW {H : Hs} {i : Nat} {o : Option Nat} (h : WH H) (ho : ∀ b, o = some b → b < H.1.1) : WH (setW H i o) := by
  obtain ⟨w1, w2, w3, w4, w5, w6⟩ := h
  refine ⟨w1, w2, w3, w4, fun j hj b e => ?_, w6⟩
  have e : (if j = i then o else H.2.2 j) = some b := e
  by_cases c : j = i
  · rw [if_pos c] at e; exact ho b e
  · rw [if_neg c] at e; exact w5 j hj b e
theorem HR.setW {h i : Nat} {F : FF} {H : Hs} {o : Option Nat} (hR : HR h F H) : HR h (fput F (h + 2) i (wI o)) (setW H i o) ∧ FrH h F (fput F (h + 2) i (wI o)) := by
  obtain ⟨⟨a1, a2, a3, a4⟩, a5, a6⟩ := hR
  refine ⟨⟨⟨by rw [fput_a (by omega)]; exact a1, by rw [fput_a (by omega)]; exact a2, by rw [fput_a (by omega)]; exact a3, by rw [fput_a (by omega)]; exact a4⟩, fun j hj => ?_, fun s hs => (a6 s hs).same (fput_a (by omega)) (fput_a (by omega)) (fput_a (by omega))⟩, fun c hc => fput_a (by omega)⟩
  show _ = wI (if j = i then o else H.2.2 j)
  rw [fpu]
  by_cases c : j = i
  · rw [if_pos ⟨rfl, c⟩, if_pos c]
  · rw [if_neg (by omega), if_neg c]; exact a5 j hj
/-- what is to be beaten: all as it is -/
theorem x_toPaid {N nn : Nat} {F : FF} {H : Hs} (hN : 1000 ≤ N) (h : RH F H) (hn : nn ≤ 200) : ∃ F1, fX6_resetToPaidNow N (nI nn) F = some ((), F1) ∧ LE F1 (none, totP H nn) ∧ KX F F1 := by
  have ht := totP_le (n := nn) h.2.2.1
  obtain ⟨F1, e1, e2, e3, -⟩ := x_trial hN h
  obtain ⟨F2, v, g1, -, g3, -, g5⟩ := x_paidByAll (N := N) (nn := nn) (L := 1000000000) hN iH16 e2 h.2.2.1 hn (by omega)
  obtain ⟨F3, k1, k2, k3, k4⟩ := x_reset (N := N) (L := totP H nn) (F := F2)
  refine ⟨F3, ?_, ⟨k2, k3⟩, (e3.tr g5.X).tr (K40 k4)⟩
  unfold fX6_resetToPaidNow
  rw [e1, bnd_some, show (1000000000 : Int32) = nI 1000000000 from rfl, g1, bnd_some, g3 (by omega), k1, bnd_some]
theorem x_lose_L {N nn : Nat} {l2 : Int32} {H : Hs} (hN : 1000 ≤ N) (hn : nn ≤ 200) : ∀ (m i n : Nat) (F : FF), i + m = H.1.2.2.1 → m < n → RH F H → LE F (bst (fun i => totP (setW H i none) nn) (totP H nn) i) → ∃ F1, fX6_lose_L29 N (nI nn) l2 n (nI i) F = some (ansV (bst (fun i => totP (setW H i none) nn) (totP H nn) H.1.2.2.1) l2, F1) ∧ KX F F1 := by
  intro m
  induction m with
  | zero =>
    intro i n F hi hlt h hL
    obtain ⟨n, rfl⟩ : ∃ k, n = k + 1 := ⟨n - 1, by omega⟩
    have hnw := h.nw
    have e : i = H.1.2.2.1 := by omega
    subst e
    rw [fX6_lose_L29.eq_2, h.1.1.2.2.1, if_pos (by simp (disch := omega) only [nI_leI]; omega), x_answer hL (fun i hi => by have := (bst_lt _ _ hi).1; omega)]
    exact ⟨F, rfl, KX.rf⟩
  | succ m ih =>
    intro i n F hi hlt h hL
    obtain ⟨n, rfl⟩ : ∃ k, n = k + 1 := ⟨n - 1, by omega⟩
    have hnw := h.nw
    have ht := totP_le (n := nn) h.2.2.1
    have hbl := bst_le (f := fun i => totP (setW H i none) nn) (L := totP H nn) i
    obtain ⟨F1, e1, e2, e3, -⟩ := x_trial hN h
    have hk := HR.setW (i := i) (o := none) e2
    generalize hF2 : fput F1 (16 + 2) i (wI none) = F2 at hk
    have h40 : F2 40 = F 40 := by
      rw [hk.2 40 (by omega)]
      have := x_trial hN h
      obtain ⟨F1', e1', -, -, e4'⟩ := this
      have : F1' = F1 := by rw [e1] at e1'; cases e1'; rfl
      rw [← this]
      exact e4' 40 (by omega)
    obtain ⟨F3, v, g1, g2, g3, g4, g5⟩ := x_paidByAll (N := N) (nn := nn) (L := (bst (fun i => totP (setW H i none) nn) (totP H nn) i).2) hN iH16 hk.1 (h.2.2.1.setW (fun b e => by cases e)) hn (by omega)
    obtain ⟨F4, k1, k2, k3⟩ := x_off (N := N) (i := i) (F := F3) (t := totP (setW H i none) nn) (by unfold LE; rw [g5 40 (by omega), h40]; exact hL) (by omega) (by omega) g3 g4
    have hK : KX F F4 := ((e3.tr hk.2.X).tr g5.X).tr (K40 k3)
    obtain ⟨F5, z1, z2⟩ := ih (i + 1) n F4 (by omega) (by omega) (h.X hK) k2
    refine ⟨F5, ?_, hK.tr z2⟩
    rw [fX6_lose_L29.eq_2, h.1.1.2.2.1, if_neg (by simp (disch := omega) only [nI_leI]; omega), e1, bnd_some, st_ok a18 (by omega), show (-1 : Int32) = wI none from rfl, hF2, show F2 40 1 = nI (bst (fun i => totP (setW H i none) nn) (totP H nn) i).2 by rw [h40]; exact hL.2, g1, bnd_some, k1, bnd_some, show nI i + 1 = nI (i + 1) from nI_1 i]
    exact z1
theorem wh_oI {p : Option Nat × Nat} {i v : Nat} (hp : p.2 < 2 ^ 31) (hv : v < 2 ^ 31) : (if nI p.2 ≤ nI v then oI p.1 else nI i) = oI (off p i v).1 ∧ (if nI p.2 ≤ nI v then nI p.2 else nI v) = nI (off p i v).2 := by
  unfold off
  simp (disch := omega) only [nI_leI]
  by_cases e : v < p.2
  · rw [if_neg (show ¬ p.2 ≤ v by omega), if_neg (show ¬ p.2 ≤ v by omega), if_pos e]
    exact ⟨rfl, rfl⟩
  · rw [if_pos (show p.2 ≤ v by omega), if_pos (show p.2 ≤ v by omega), if_neg e]
    exact ⟨rfl, rfl⟩
theorem ans_oI {p : Option Nat × Nat} {w : Int32} (hp : ∀ i, p.1 = some i → i < 2 ^ 31) : (if oI p.1 = -4 then oI p.1 else (if ¬ w = 0 then nI p.2 else oI p.1)) = ansV p w := by
  unfold ansV
  cases hq : p.1 with
  | none => rfl
  | some i =>
    rw [if_neg (oI_ne (hp i hq))]
    by_cases e : w = 0
    · rw [if_neg (fun h => h e)]
      show _ = if w = 0 then nI i else nI p.2
      rw [if_pos e]; rfl
    · rw [if_pos e]
      show _ = if w = 0 then nI i else nI p.2
      rw [if_neg e]
theorem PR.lose {F : FF} {H : Hs} {i : Nat} (h : RH F H) (hi : i < H.1.2.2.1) : PR 0 (fput F 82 20 (nI i)) (setW H i none) := by
  obtain ⟨-, ⟨⟨a1, a2, a3, a4⟩, a5, a6⟩, hW, hA, -⟩ := h
  have hnw := hW.2.2.1
  have e83 : fput F 82 20 (nI i) 83 = F 83 := fput_a (by omega)
  refine ⟨⟨by rw [fpu, if_neg (by omega)]; exact a1, by rw [e83]; exact a2, by rw [e83]; exact a3, by rw [e83]; exact a4⟩, fun j hj => ?_, fun s hs => (a6 s hs).same (by rw [e83]) (by rw [e83]) (fun _ _ => by rw [e83]) (fun _ _ => by rw [e83])⟩
  have hj : j < H.1.2.2.1 := hj
  show wQ 0 _ j (if j = i then none else H.2.2 j)
  by_cases c : j = i
  · rw [if_pos c, c]
    show fput F 82 20 (nI i) 82 20 = nI i
    rw [fpu, if_pos ⟨rfl, rfl⟩]
  · rw [if_neg c]
    obtain ⟨b, hb⟩ := hA j hj
    have := a5 j hj
    rw [hb] at this ⊢
    refine ⟨by rw [e83]; exact this.1, ?_⟩
    rw [fpu, if_pos ⟨rfl, rfl⟩, nI_eq (by omega) (by omega)]
    omega
theorem y_lose_L {N nn : Nat} {l2 : Int32} {H : Hs} (hN : 1000 ≤ N) (hn : nn ≤ 200) : ∀ (m i n : Nat) (F : FF), i + m = H.1.2.2.1 → m < n → RH F H → ∃ F1, fX7_lose_L38 N (nI nn) l2 n (nI (bst (fun i => totP (setW H i none) nn) (totP H nn) i).2) (oI (bst (fun i => totP (setW H i none) nn) (totP H nn) i).1) (nI i) F = some (ansV (bst (fun i => totP (setW H i none) nn) (totP H nn) H.1.2.2.1) l2, F1) ∧ KY F F1 := by
  intro m
  induction m with
  | zero =>
    intro i n F hi hlt h
    obtain ⟨n, rfl⟩ : ∃ k, n = k + 1 := ⟨n - 1, by omega⟩
    have hnw := h.nw
    have e : i = H.1.2.2.1 := by omega
    subst e
    rw [fX7_lose_L38.eq_2, show F 83 25 = nI H.1.2.2.1 from h.2.1.1.2.2.1, if_pos (by simp (disch := omega) only [nI_leI]; omega), ans_oI (fun i hi => by have := (bst_lt _ _ hi).1; omega)]
    exact ⟨F, rfl, KY.rf⟩
  | succ m ih =>
    intro i n F hi hlt h
    obtain ⟨n, rfl⟩ : ∃ k, n = k + 1 := ⟨n - 1, by omega⟩
    have hnw := h.nw
    have hW2 : WH (setW H i none) := h.2.2.1.setW (fun b e => by cases e)
    have ht := totP_le (n := nn) h.2.2.1
    have ht2 := totP_le (n := nn) hW2
    have hbl := bst_le (f := fun i => totP (setW H i none) nn) (L := totP H nn) i
    have hR1 := PR.lose h (show i < H.1.2.2.1 by omega)
    generalize hF1 : fput F 82 20 (nI i) = F1 at hR1
    obtain ⟨F2, y1, y2, y3, y4⟩ := y_go (N := N) (pg := 0) (nn := nn) hN (by omega) hR1 hW2 (by have := h.2.2.2.2.1; show H.1.2.2.2 ≤ 10000; omega) hn
    generalize hF3 : fput F2 82 20 (-4) = F3
    have hK : KY F F3 := ⟨fun c c82 c83 c88 _ => by rw [← hF3, fput_a c82, y4.1 c c83 c82 c88, ← hF1, fput_a c82], fun k k1 k2 => by
      rw [← hF3, fpu]
      by_cases c : k = 20
      · rw [if_pos ⟨rfl, c⟩, c]; exact h.2.2.2.2.2.symm
      · rw [if_neg (by omega), y4.2.1 k k1 k2, ← hF1, fpu, if_neg (by omega)], fun k hk => by rw [← hF3, fput_a (by omega), y4.2.2 k (by omega), ← hF1, fput_a (by omega)]⟩
    obtain ⟨F4, z1, z2⟩ := ih (i + 1) n F3 (by omega) (by omega) (h.Y hK)
    have ho := wh_oI (p := bst (fun i => totP (setW H i none) nn) (totP H nn) i) (i := i) (v := totP (setW H i none) nn) (by omega) (by omega)
    refine ⟨F4, ?_, hK.tr z2⟩
    rw [fX7_lose_L38.eq_2, show F 83 25 = nI H.1.2.2.1 from h.2.1.1.2.2.1, if_neg (by simp (disch := omega) only [nI_leI]; omega), nmE, hF1, show (0 : Int32) = nI 0 from rfl, y1, bnd_some, nmE, hF3, ho.1, ho.2, show nI i + 1 = nI (i + 1) from nI_1 i]
    exact z1
theorem q_lose {N : Nat} {l1 l2 : Int32} {F : FF} {H : Hs} (hN : 1000 ≤ N) (h : RH F H) : QOK (fX6_lose N l1 l2) (fX7_lose N l1 l2) F := by
  unfold QOK fX6_lose fX7_lose
  have hnw := h.nw
  rw [xR200, xR1]
  rcases guard (x := l1) 201 with ⟨n, hn, rfl⟩ | hg2
  · rcases guard (x := l2) 2 with ⟨w, hw, rfl⟩ | hg3
    · obtain ⟨F1, e1, e2, e3⟩ := x_toPaid (N := N) (nn := n) hN h (by omega)
      obtain ⟨F2, g1, g2⟩ := x_lose_L (N := N) (nn := n) (l2 := nI w) hN (by omega) H.1.2.2.1 0 N F1 (by omega) (by omega) (h.X e3) e2
      have hK := e3.tr g2
      have hR2 := h.X hK
      obtain ⟨F3, y1, y2, y3, y4⟩ := y_go (N := N) (pg := 0) (nn := n) hN (by omega) hR2.2.1 h.2.2.1 (by have := h.2.2.2.2.1; omega) (by omega)
      obtain ⟨F4, z1, z2⟩ := y_lose_L (N := N) (nn := n) (l2 := nI w) hN (by omega) H.1.2.2.1 0 N F3 (by omega) (by omega) (hR2.Y (y4.Y (by omega)))
      refine ⟨ansV (bst (fun i => totP (setW H i none) n) (totP H n) H.1.2.2.1) (nI w), F2, F4, ?_, ?_, hK, (y4.Y (by omega)).tr z2⟩
      · rw [bI_nI hn (by omega), if_neg n10, bI_nI hw (by omega), if_pos n10, e1, bnd_some]
        exact g1
      · rw [yR200, bI_nI hn (by omega), if_neg n10, yR1, bI_nI hw (by omega), if_pos n10, show (0 : Int32) = nI 0 from rfl, y1, bnd_some]
        exact z1
    · refine ⟨-1, F, F, ?_, ?_, KX.rf, KY.rf⟩
      · rw [bI_nI hn (by omega), if_neg n10, bI_f hg3, if_neg (by decide)]
      · rw [yR200, bI_nI hn (by omega), if_neg n10, yR1, bI_f hg3, if_neg (by decide)]
  · refine ⟨-1, F, F, ?_, ?_, KX.rf, KY.rf⟩
    · rw [bI_f hg2, if_pos rfl]
    · rw [yR200, bI_f hg2, if_pos rfl]
