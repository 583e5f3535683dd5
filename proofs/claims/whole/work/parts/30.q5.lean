/-! QUESTIONS: what is best -/
def off (p : Option Nat × Nat) (i v : Nat) : Option Nat × Nat := if v < p.2 then (some i, v) else p
theorem bst_off {f : Nat → Nat} {L n : Nat} : bst f L (n + 1) = off (bst f L n) n (f n) := rfl
/-- an offer that may be cut at the limit -/
theorem off_cut {p : Option Nat × Nat} {i t v : Nat} (h1 : t < p.2 → v = t) (h2 : p.2 ≤ t → p.2 ≤ v) : off p i v = off p i t := by
  unfold off
  by_cases e : t < p.2
  · rw [h1 e]
  · rw [if_neg e, if_neg (by have := h2 (by omega); omega)]
def LE (F : FF) (p : Option Nat × Nat) : Prop := F 40 0 = oI p.1 ∧ F 40 1 = nI p.2
theorem x_off {N i v t : Nat} {F : FF} {p : Option Nat × Nat} (h : LE F p) (hL : p.2 < 2 ^ 31) (hv : v < 2 ^ 31) (h1 : t < p.2 → v = t) (h2 : p.2 ≤ t → p.2 ≤ v) : ∃ F1, fX1_offer N (nI i) (nI v) F = some ((), F1) ∧ LE F1 (off p i t) ∧ ∀ c, c ≠ 40 → F1 c = F c := by
  obtain ⟨F1, e1, e2, e3, e4⟩ := x_offer (N := N) (i := i) (f := fun _ => 0) (v := v) h.1 h.2 hL hv
  refine ⟨F1, e1, ?_, e4⟩
  rw [← off_cut (i := i) h1 h2]
  unfold LE off
  constructor
  · rw [e2]; split <;> rfl
  · rw [e3]; split <;> rfl
theorem cN_off {w : Nat → Option Nat} {x : Sh} {L n : Nat} : (pdS w x n < L → pdS w x (cN w x L n 0) = pdS w x n) ∧ (L ≤ pdS w x n → L ≤ pdS w x (cN w x L n 0)) := by
  constructor
  · intro h; rw [cN_all n 0 (by rw [Nat.zero_add]; exact h), Nat.zero_add]
  · intro h; exact cN_cut n 0 (by rw [Nat.zero_add]; exact h)
theorem pdc_le {w : Nat → Option Nat} {x : Sh} {L n : Nat} (hn : n ≤ 200) : pdS w x (cN w x L n 0) ≤ 1400 := by
  have h1 := pdS_le (w := w) (x := x) (cN w x L n 0)
  have h2 := cN_le (w := w) (x := x) (L := L) n 0
  omega
def ansV (p : Option Nat × Nat) (w : Int32) : Int32 := match p.1 with
  | none => -4
  | some i => if w = 0 then nI i else nI p.2
theorem x_answer {F : FF} {p : Option Nat × Nat} {w : Int32} (h : LE F p) (hp : ∀ i, p.1 = some i → i < 2 ^ 31) : pX1_answer w F = ansV p w := by
  unfold pX1_answer ansV
  rw [h.1, h.2]
  cases hq : p.1 with
  | none => rfl
  | some i =>
    show (if nI i = -4 then nI i else if ¬ w = 0 then nI p.2 else nI i) = _
    rw [if_neg (ne_m4 (hp i hq))]
    by_cases e : w = 0
    · rw [if_neg (fun h => h e)]
      show _ = if w = 0 then nI i else nI p.2
      rw [if_pos e]
    · rw [if_pos e]
      show _ = if w = 0 then nI i else nI p.2
      rw [if_neg e]
/-! guards by their bounds -/
theorem xR1 {x : Int32} {F : FF} : pX6_within x 0 1 F = bI (decide (0 ≤ x.toInt ∧ x.toInt < ((2 : Nat) : Int))) := xR (hi := 1) (by omega)
theorem yR1 {x : Int32} {F : FF} : pX7_in x.toInt64 0 1 F = bI (decide (0 ≤ x.toInt ∧ x.toInt < ((2 : Nat) : Int))) := yR (hi := 1) (by omega)
theorem xR2 {x : Int32} {F : FF} : pX6_within x 0 2 F = bI (decide (0 ≤ x.toInt ∧ x.toInt < ((3 : Nat) : Int))) := xR (hi := 2) (by omega)
theorem yR2 {x : Int32} {F : FF} : pX7_in x.toInt64 0 2 F = bI (decide (0 ≤ x.toInt ∧ x.toInt < ((3 : Nat) : Int))) := yR (hi := 2) (by omega)
theorem xR3 {x : Int32} {F : FF} : pX6_within x 0 3 F = bI (decide (0 ≤ x.toInt ∧ x.toInt < ((4 : Nat) : Int))) := xR (hi := 3) (by omega)
theorem yR3 {x : Int32} {F : FF} : pX7_in x.toInt64 0 3 F = bI (decide (0 ≤ x.toInt ∧ x.toInt < ((4 : Nat) : Int))) := yR (hi := 3) (by omega)
theorem xR8 {x : Int32} {F : FF} : pX6_within x 0 8 F = bI (decide (0 ≤ x.toInt ∧ x.toInt < ((9 : Nat) : Int))) := xR (hi := 8) (by omega)
theorem yR8 {x : Int32} {F : FF} : pX7_in x.toInt64 0 8 F = bI (decide (0 ≤ x.toInt ∧ x.toInt < ((9 : Nat) : Int))) := yR (hi := 8) (by omega)
theorem xR10 {x : Int32} {F : FF} : pX6_within x 0 10 F = bI (decide (0 ≤ x.toInt ∧ x.toInt < ((11 : Nat) : Int))) := xR (hi := 10) (by omega)
theorem yR10 {x : Int32} {F : FF} : pX7_in x.toInt64 0 10 F = bI (decide (0 ≤ x.toInt ∧ x.toInt < ((11 : Nat) : Int))) := yR (hi := 10) (by omega)
theorem xR40 {x : Int32} {F : FF} : pX6_within x 0 40 F = bI (decide (0 ≤ x.toInt ∧ x.toInt < ((41 : Nat) : Int))) := xR (hi := 40) (by omega)
theorem yR40 {x : Int32} {F : FF} : pX7_in x.toInt64 0 40 F = bI (decide (0 ≤ x.toInt ∧ x.toInt < ((41 : Nat) : Int))) := yR (hi := 40) (by omega)
theorem xR100 {x : Int32} {F : FF} : pX6_within x 0 100 F = bI (decide (0 ≤ x.toInt ∧ x.toInt < ((101 : Nat) : Int))) := xR (hi := 100) (by omega)
theorem yR100 {x : Int32} {F : FF} : pX7_in x.toInt64 0 100 F = bI (decide (0 ≤ x.toInt ∧ x.toInt < ((101 : Nat) : Int))) := yR (hi := 100) (by omega)
theorem xR127 {x : Int32} {F : FF} : pX6_within x 0 127 F = bI (decide (0 ≤ x.toInt ∧ x.toInt < ((128 : Nat) : Int))) := xR (hi := 127) (by omega)
theorem yR127 {x : Int32} {F : FF} : pX7_in x.toInt64 0 127 F = bI (decide (0 ≤ x.toInt ∧ x.toInt < ((128 : Nat) : Int))) := yR (hi := 127) (by omega)
theorem xR200 {x : Int32} {F : FF} : pX6_within x 0 200 F = bI (decide (0 ≤ x.toInt ∧ x.toInt < ((201 : Nat) : Int))) := xR (hi := 200) (by omega)
theorem yR200 {x : Int32} {F : FF} : pX7_in x.toInt64 0 200 F = bI (decide (0 ≤ x.toInt ∧ x.toInt < ((201 : Nat) : Int))) := yR (hi := 200) (by omega)
/-! kind -/
def kSh (x : Sh) (k : Nat) : Sh := ((k, x.1.2), x.2)
theorem ws_k {nb k : Nat} {x : Sh} (h : WS nb x) (hk : k ≤ 3) : WS nb (kSh x k) := ⟨⟨hk, h.1.2⟩, h.2⟩
theorem HR.k {h s k : Nat} {F : FF} {H : Hs} {x : Sh} (hS : isS (h + 3 + 3 * s)) (hR : HR h F (upS H s x)) (hs4 : H.1.2.1 ≤ 4) (hs : s < H.1.2.1) : HR h (fput F (h + 3 + 3 * s) 0 (nI k)) (upS H s (kSh x k)) ∧ FrH h F (fput F (h + 3 + 3 * s) 0 (nI k)) := by
  have hSR := hR.2.2 s hs
  rw [upS_at] at hSR
  have := hR.up (s := s) (x := kSh x k) (F' := fput F (h + 3 + 3 * s) 0 (nI k)) hs4 hs ⟨by rw [fpu, if_pos ⟨rfl, rfl⟩]; rfl, by rw [fpu, if_neg (by omega)]; exact hSR.2.1, fun p hp => by rw [fput_a (by omega)]; exact hSR.2.2.1 p hp, fun p hp => by rw [fput_a (by omega)]; exact hSR.2.2.2 p hp⟩ (fun c c1 _ _ => fput_a c1)
  rw [upS_up] at this
  exact this
theorem x_kind_L {N s nn : Nat} {l3 : Int32} {H : Hs} (hN : 1000 ≤ N) (hW : WH H) (hs : s < H.1.2.1) (hn : nn ≤ 200) : ∀ (m i n : Nat) (F : FF) (x : Sh), i + m = 4 → m < n → HR 1 F H → WS H.1.1 x → HR 16 F (upS H s x) → LE F (bst (fun k => pdS (wAt H) (kSh (H.2.1 s) k) nn) 1000000000 i) → ∃ F1, fX6_kind_L56 N (nI s) (nI nn) l3 n (nI i) F = some (ansV (bst (fun k => pdS (wAt H) (kSh (H.2.1 s) k) nn) 1000000000 4) l3, F1) ∧ KX F F1 := by
  obtain ⟨w1, w2, w3, w4, w5, w6⟩ := id hW
  have hS1 := isS_of iH1 (show s < 4 by omega)
  have hS := isS_of iH16 (show s < 4 by omega)
  intro m
  induction m with
  | zero =>
    intro i n F x hi hlt h1 hx hR hL
    obtain ⟨n, rfl⟩ : ∃ k, n = k + 1 := ⟨n - 1, by omega⟩
    have e : i = 4 := by omega
    subst e
    rw [fX6_kind_L56.eq_2, if_pos (by decide), x_answer hL (fun i hi => by have := (bst_lt _ _ hi).1; omega)]
    exact ⟨F, rfl, KX.rf⟩
  | succ m ih =>
    intro i n F x hi hlt h1 hx hR hL
    obtain ⟨n, rfl⟩ : ∃ k, n = k + 1 := ⟨n - 1, by omega⟩
    obtain ⟨F1, e1, e2, e3⟩ := x_copyS (N := N) hS hS1 (h1.2.2 s hs)
    have hup := hR.up (s := s) (F' := F1) w2 hs e2 e3
    rw [upS_up] at hup
    have hk := HR.k (k := i) hS hup.1 w2 hs
    generalize hF2 : fput F1 (16 + 3 + 3 * s) 0 (nI i) = F2 at hk
    have h40 : F2 40 = F 40 := by rw [hk.2 40 (by omega), hup.2 40 (by omega)]
    have hbl := bst_le (f := fun k => pdS (wAt H) (kSh (H.2.1 s) k) nn) (L := 1000000000) i
    obtain ⟨F3, g1, g2, g3⟩ := x_paidBy (N := N) (s := s) (nn := nn) (L := (bst (fun k => pdS (wAt H) (kSh (H.2.1 s) k) nn) 1000000000 i).2) hN iH16 hk.1 (hW.up (ws_k (w6 s hs) (by omega))) hs hn (by omega)
    rw [upS_at] at g1 g2
    have hwe : wAt (upS H s (kSh (H.2.1 s) i)) = wAt H := rfl
    rw [hwe] at g1 g2
    have hv := pdc_le (w := wAt H) (x := kSh (H.2.1 s) i) (L := (bst (fun k => pdS (wAt H) (kSh (H.2.1 s) k) nn) 1000000000 i).2) hn
    obtain ⟨F4, k1, k2, k3⟩ := x_off (N := N) (i := i) (F := F3) (t := pdS (wAt H) (kSh (H.2.1 s) i) nn) (by unfold LE; rw [g3 40 (by omega), h40]; exact hL) (by omega) (by omega) cN_off.1 cN_off.2
    rw [upS_up] at g2
    have hK : KX F F4 := ((hup.2.X.tr hk.2.X).tr g3.X).tr (K40 k3)
    obtain ⟨F5, z1, z2⟩ := ih (i + 1) n F4 _ (by omega) (by omega) (h1.keep w2 (fun c _ _ => hK c (by omega))) (ws_stS (ws_k (w6 s hs) (show i ≤ 3 by omega)) w1.2 hW.okW _) (g2.keep w2 (fun c _ _ => k3 c (by omega))) k2
    refine ⟨F5, ?_, hK.tr z2⟩
    rw [fX6_kind_L56.eq_2, if_neg (by simp (disch := omega) only [il, nI_ltI]; omega), ldR_H iH16 (show s < 4 by omega), ldR_H iH1 (show s < 4 by omega), e1, cal_some (okC_S hS), ldR_H iH16 (show s < 4 by omega), pI_S0 hS, hF2, show F2 40 1 = nI (bst (fun k => pdS (wAt H) (kSh (H.2.1 s) k) nn) 1000000000 i).2 by rw [h40]; exact hL.2, g1, bnd_some, k1, bnd_some, show nI i + 1 = nI (i + 1) from nI_1 i]
    exact z1
def wh0 (p : Option Nat × Nat) : Int32 := match p.1 with
  | none => 0
  | some i => nI i
theorem bst_LL {f : Nat → Nat} {L L' : Nat} : ∀ n, (∀ i, i < n + 1 → f i < L ∧ f i < L') → bst f L (n + 1) = bst f L' (n + 1)
  | 0, h => by
    have := h 0 (by omega)
    unfold bst
    rw [if_pos (show f 0 < (bst f L 0).2 from this.1), if_pos (show f 0 < (bst f L' 0).2 from this.2)]
  | n + 1, h => by
    rw [bst, bst_LL n (fun i hi => h i (by omega))]
    rfl
theorem ans_wh {f : Nat → Nat} {n : Nat} {w : Int32} (hf : ∀ i, i < n + 1 → f i < 1000000) : (if ¬ w = 0 then nI (bst f 1000000 (n + 1)).2 else wh0 (bst f 1000000 (n + 1))) = ansV (bst f 1000000000 (n + 1)) w := by
  rw [bst_LL (L := 1000000) (L' := 1000000000) n (fun i hi => ⟨hf i hi, by have := hf i hi; omega⟩)]
  unfold ansV wh0
  cases hq : (bst f 1000000000 (n + 1)).1 with
  | none => exact absurd (bst_none (n + 1) (fun i hi => by have := hf i hi; omega) hq) (by omega)
  | some i =>
    by_cases e : w = 0
    · rw [if_neg (fun h => h e)]
      show _ = if w = 0 then nI i else nI _
      rw [if_pos e]
    · rw [if_pos e]
      show _ = if w = 0 then nI i else nI _
      rw [if_neg e]
theorem wh_off {p : Option Nat × Nat} {i v : Nat} (hp : p.2 < 2 ^ 31) (hv : v < 2 ^ 31) : (if nI p.2 ≤ nI v then wh0 p else nI i) = wh0 (off p i v) ∧ (if nI p.2 ≤ nI v then nI p.2 else nI v) = nI (off p i v).2 := by
  unfold off
  simp (disch := omega) only [nI_leI]
  by_cases e : v < p.2
  · rw [if_neg (show ¬ p.2 ≤ v by omega), if_neg (show ¬ p.2 ≤ v by omega), if_pos e]
    exact ⟨rfl, rfl⟩
  · rw [if_pos (show p.2 ≤ v by omega), if_pos (show p.2 ≤ v by omega), if_neg e]
    exact ⟨rfl, rfl⟩
theorem PR.k {s k : Nat} {F : FF} {H : Hs} {x : Sh} (hR : PR 375 F (upS H s x)) (hW : WH H) (hs : s < H.1.2.1) : PR 375 (fput F 83 (375 + s) (nI k)) (upS H s (kSh x k)) := by
  have hQ := hR.2.2 s hs
  rw [upS_at] at hQ
  have w2 := hW.2.1
  have w3 := hW.2.2.1
  have := hR.up (s := s) (x := kSh x k) (F' := fput F 83 (375 + s) (nI k)) w3 w2 hs ⟨by rw [fpu, if_pos ⟨rfl, rfl⟩]; rfl, by rw [fpu, if_neg (by omega)]; exact hQ.2.1, fun p hp => by rw [fpu, if_neg (by omega)]; exact hQ.2.2.1 p hp, fun p hp => by rw [fpu, if_neg (by omega)]; exact hQ.2.2.2 p hp⟩ (fun k _ _ => by rw [fput_a (by omega)]) (fun c c1 _ _ _ => by rw [fpu, if_neg (by omega)])
  rw [upS_up] at this
  exact this
theorem totW {H : Hs} {s : Nat} {x : Sh} : wAt (upS H s x) = wAt H := rfl
theorem y_kind_L {N s nn : Nat} {l3 : Int32} {H : Hs} (hN : 1000 ≤ N) (hW : WH H) (hst : H.1.2.2.2 ≤ 10000) (hs : s < H.1.2.1) (hn : nn ≤ 200) : ∀ (m i n : Nat) (F : FF) (x : Sh), i + m = 4 → m < n → x.2 = (H.2.1 s).2 → x.1.2 = (H.2.1 s).1.2 → PR 375 F (upS H s x) → ∃ F1, fX7_kind_L50 N (nI s) (nI nn) l3 n (nI (bst (fun k => pdS (wAt H) (kSh (H.2.1 s) k) nn) 1000000 i).2) (wh0 (bst (fun k => pdS (wAt H) (kSh (H.2.1 s) k) nn) 1000000 i)) (nI i) F = some (ansV (bst (fun k => pdS (wAt H) (kSh (H.2.1 s) k) nn) 1000000000 4) l3, F1) ∧ KY F F1 := by
  obtain ⟨w1, w2, w3, w4, w5, w6⟩ := id hW
  intro m
  induction m with
  | zero =>
    intro i n F x hi hlt hx1 hx2 hR
    obtain ⟨n, rfl⟩ : ∃ k, n = k + 1 := ⟨n - 1, by omega⟩
    have e : i = 4 := by omega
    subst e
    rw [fX7_kind_L50.eq_2, if_pos (by decide), ans_wh (n := 3) (fun i hi => by have := pdS_le (w := wAt H) (x := kSh (H.2.1 s) i) nn; omega)]
    exact ⟨F, rfl, KY.rf⟩
  | succ m ih =>
    intro i n F x hi hlt hx1 hx2 hR
    obtain ⟨n, rfl⟩ : ∃ k, n = k + 1 := ⟨n - 1, by omega⟩
    have hk := PR.k (k := i) hR hW hs
    have hkx : kSh x i = kSh (H.2.1 s) i := by unfold kSh; rw [hx1, hx2]
    rw [hkx] at hk
    generalize hF1 : fput F 83 (375 + s) (nI i) = F1 at hk
    have hF1e : ∀ c, c ≠ 83 → F1 c = F c := fun c hc => by rw [← hF1, fput_a hc]
    have hF1k : ∀ k, k < 375 → F1 83 k = F 83 k := fun k hk => by rw [← hF1, fpu, if_neg (by omega)]
    obtain ⟨F2, y1, y2, y3, y4⟩ := y_go (N := N) (pg := 375) (nn := nn) hN (by omega) hk (hW.up (ws_k (w6 s hs) (by omega))) hst hn
    have e88 : F2 88 s = nI (pdS (wAt H) (kSh (H.2.1 s) i) nn) := by
      rw [y3.1 s (by omega)]
      show nI (if s < H.1.2.1 then pdS (wAt H) ((upS H s (kSh (H.2.1 s) i)).2.1 s) nn else 0) = _
      rw [if_pos hs, upS_at]
    have hv := pdS_le (w := wAt H) (x := kSh (H.2.1 s) i) nn
    have hbl := bst_le (f := fun k => pdS (wAt H) (kSh (H.2.1 s) k) nn) (L := 1000000) i
    have hR2 : PR 375 F2 (upS H s (kSh (H.2.1 s) i)) := hk.keep (hW.up (ws_k (w6 s hs) (by omega))) (y4.2.1 1 (by omega) (by omega)) (y4.2.1 20 (by omega) (by omega)) (fun k _ _ => y4.2.2 k (by omega))
    obtain ⟨F3, z1, z2⟩ := ih (i + 1) n F2 (kSh (H.2.1 s) i) (by omega) (by omega) rfl rfl hR2
    have ho := wh_off (p := bst (fun k => pdS (wAt H) (kSh (H.2.1 s) k) nn) 1000000 i) (i := i) (v := pdS (wAt H) (kSh (H.2.1 s) i) nn) (by omega) (by omega)
    refine ⟨F3, ?_, ((show KY F F1 from ⟨fun c _ h83 _ _ => hF1e c h83, fun k _ _ => by rw [hF1e 82 (by omega)], fun k hk => hF1k k (by omega)⟩).tr (y4.Y (by omega))).tr z2⟩
    rw [fX7_kind_L50.eq_2, if_neg (by simp (disch := omega) only [il, nI_leI]; omega), show (375 : Int32) + nI s = nI (375 + s) from nI_add 375 s, st_ok a83 (by omega), hF1, show (375 : Int32) = nI 375 from rfl, y1, bnd_some, ld_ok a88 (by omega), ld_ok a88 (by omega), e88, ho.1]
    rw [← z1, bst_off, ← ho.2]
    by_cases c : nI (bst (fun k => pdS (wAt H) (kSh (H.2.1 s) k) nn) 1000000 i).2 ≤ nI (pdS (wAt H) (kSh (H.2.1 s) i) nn)
    · rw [if_pos c, if_pos c, fX7_kind_b119, show nI i + 1 = nI (i + 1) from nI_1 i]
    · rw [if_neg c, if_neg c, ld_ok a88 (by omega), e88, fX7_kind_b119, show nI i + 1 = nI (i + 1) from nI_1 i]
theorem y_page {N : Nat} {F : FF} {H : Hs} {t : Nat} (hN : 1000 ≤ N) (h : RH F H) (ht : t = 225 ∨ t = 300 ∨ t = 375) : ∃ F1, fX7_copies N 0 (nI t) F = some ((), F1) ∧ PR t F1 H ∧ KY F F1 := by
  obtain ⟨F3, c1, c2, c3⟩ := y_copies (N := N) (F := F) (f := 0) (t := t) hN (by omega) (by omega) (by omega)
  exact ⟨F3, c1, h.2.1.copy h.2.2.1 c2 c3, ⟨fun c _ h83 _ _ => c2 c h83, fun k _ _ => by rw [c2 82 (by omega)], fun k hk => by rw [c3, if_neg (by omega)]⟩⟩
theorem PR.self {pg s : Nat} {F : FF} {H : Hs} (hR : PR pg F H) : PR pg F (upS H s (H.2.1 s)) := by
  refine hR.cg rfl rfl (fun s' hs' => ?_)
  show (if s' = s then _ else _) = _
  by_cases e : s' = s
  · rw [if_pos e, e]
  · rw [if_neg e]
theorem q_kind {N : Nat} {l1 l2 l3 : Int32} {F : FF} {H : Hs} (hN : 1000 ≤ N) (h : RH F H) : QOK (fX6_kind N l1 l2 l3) (fX7_kind N l1 l2 l3) F := by
  unfold QOK fX6_kind fX7_kind
  have hns := h.ns
  have hW := h.2.2.1
  rw [h.xS, xR200, xR1]
  rcases guard (x := l1) H.1.2.1 with ⟨s, hs, rfl⟩ | hg
  · rcases guard (x := l2) 201 with ⟨n, hn, rfl⟩ | hg2
    · rcases guard (x := l3) 2 with ⟨w, hw, rfl⟩ | hg3
      · obtain ⟨F1, e1, e2, e3, -⟩ := x_trial hN h
        obtain ⟨F2, g1, g2, g3, g4⟩ := x_reset (N := N) (L := 1000000000) (F := F1)
        obtain ⟨F3, k1, k2⟩ := x_kind_L (N := N) (s := s) (nn := n) (l3 := nI w) hN hW hs (by omega) 4 0 N F2 (H.2.1 s) rfl (by omega) (((h.X e3).X (K40 g4)).1) (hW.2.2.2.2.2 s hs) (upS_self (e2.keep hns (fun c _ _ => g4 c (by omega)))) ⟨g2, g3⟩
        have hK := (e3.tr (K40 g4)).tr k2
        have hR3 := h.X hK
        obtain ⟨F4, c1, c2, c3⟩ := y_page (t := 375) hN hR3 (by omega)
        obtain ⟨F5, y1, y2⟩ := y_kind_L (N := N) (s := s) (nn := n) (l3 := nI w) hN hW (by have := h.2.2.2.2.1; omega) hs (by omega) 4 0 N F4 (H.2.1 s) rfl (by omega) rfl rfl c2.self
        refine ⟨ansV (bst (fun k => pdS (wAt H) (kSh (H.2.1 s) k) n) 1000000000 4) (nI w), F3, F5, ?_, ?_, hK, c3.tr y2⟩
        · rw [bI_nI hs (by omega), if_neg n10, bI_nI hn (by omega), if_neg n10, bI_nI hw (by omega), if_pos n10, e1, bnd_some, show (1000000000 : Int32) = nI 1000000000 from rfl, g1, bnd_some]
          exact k1
        · rw [hR3.yS, bnd_some, bI_nI hs (by omega), if_neg n10, yR200, bI_nI hn (by omega), if_neg n10, yR1, bI_nI hw (by omega), if_pos n10, show (375 : Int32) = nI 375 from rfl, c1, bnd_some]
          exact y1
      · refine ⟨-1, F, F, ?_, ?_, KX.rf, KY.rf⟩
        · rw [bI_nI hs (by omega), if_neg n10, bI_nI hn (by omega), if_neg n10, bI_f hg3, if_neg (by decide)]
        · rw [h.yS, bnd_some, bI_nI hs (by omega), if_neg n10, yR200, bI_nI hn (by omega), if_neg n10, yR1, bI_f hg3, if_neg (by decide)]
    · refine ⟨-1, F, F, ?_, ?_, KX.rf, KY.rf⟩
      · rw [bI_nI hs (by omega), if_neg n10, bI_f hg2, if_pos rfl]
      · rw [h.yS, bnd_some, bI_nI hs (by omega), if_neg n10, yR200, bI_f hg2, if_pos rfl]
  · refine ⟨-1, F, F, ?_, ?_, KX.rf, KY.rf⟩
    · rw [bI_f hg, if_pos rfl]
    · rw [h.yS, bnd_some, bI_f hg, if_pos rfl]
