/-! QUESTIONS: what there is -/
theorem xLe {F : FF} {r : Int32} {L : Nat} : fX1_reset 0 (nI L) F = fX1_reset 0 (nI L) F := rfl
theorem x_reset {N L : Nat} {F : FF} : ∃ F1, fX1_reset N (nI L) F = some ((), F1) ∧ F1 40 0 = oI none ∧ F1 40 1 = nI L ∧ ∀ c, c ≠ 40 → F1 c = F c := by
  unfold fX1_reset
  rw [nmE, nmE]
  exact ⟨_, rfl, by rw [fpu, if_neg (by omega), fpu, if_pos ⟨rfl, rfl⟩]; rfl, by rw [fpu, if_pos ⟨rfl, rfl⟩], fun c hc => by rw [fput_a hc, fput_a hc]⟩
/-- an offer: what is offered may be cut, where it isn't less -/
theorem x_offer {N i : Nat} {F : FF} {f : Nat → Nat} {L v : Nat} {o : Option Nat} (h0 : F 40 0 = oI o) (h1 : F 40 1 = nI L) (hL : L < 2 ^ 31) (hv : v < 2 ^ 31) : ∃ F1, fX1_offer N (nI i) (nI v) F = some ((), F1) ∧ F1 40 0 = oI (if v < L then some i else o) ∧ F1 40 1 = nI (if v < L then v else L) ∧ ∀ c, c ≠ 40 → F1 c = F c := by
  unfold fX1_offer
  rw [h1]
  by_cases e : v < L
  · rw [if_neg (by simp (disch := omega) only [nI_leI]; omega), nmE, nmE, if_pos e, if_pos e]
    exact ⟨_, rfl, by rw [fpu, if_neg (by omega), fpu, if_pos ⟨rfl, rfl⟩]; rfl, by rw [fpu, if_pos ⟨rfl, rfl⟩], fun c hc => by rw [fput_a hc, fput_a hc]⟩
  · rw [if_pos (by simp (disch := omega) only [nI_leI]; omega), if_neg e, if_neg e]
    exact ⟨_, rfl, h0, h1, fun _ _ => rfl⟩
theorem K40 {F F1 : FF} (h : ∀ c, c ≠ 40 → F1 c = F c) : KX F F1 := fun c hc => h c (by omega)
theorem x_least_L {N : Nat} {H : Hs} (hW : WH H) : ∀ (m i n : Nat) (F : FF), i + m = H.1.2.1 → m < n → HR 1 F H → F 40 0 = oI (bst (fun s => (H.2.1 s).1.2) 1000000000 i).1 → F 40 1 = nI (bst (fun s => (H.2.1 s).1.2) 1000000000 i).2 → ∃ F1, fX6_leastCost_L11 N n (nI i) F = some (oI (bst (fun s => (H.2.1 s).1.2) 1000000000 H.1.2.1).1, F1) ∧ KX F F1 := by
  have w2 := hW.2.1
  intro m
  induction m with
  | zero =>
    intro i n F hi hlt hR h0 h1
    obtain ⟨n, rfl⟩ : ∃ k, n = k + 1 := ⟨n - 1, by omega⟩
    have e : i = H.1.2.1 := by omega
    rw [fX6_leastCost_L11.eq_2, hR.1.2.1, if_pos (by simp (disch := omega) only [nI_leI]; omega), h0, e]
    exact ⟨F, rfl, KX.rf⟩
  | succ m ih =>
    intro i n F hi hlt hR h0 h1
    obtain ⟨n, rfl⟩ : ∃ k, n = k + 1 := ⟨n - 1, by omega⟩
    have hS := isS_of iH1 (show i < 4 by omega)
    have hc := (hW.2.2.2.2.2 i (by omega)).1.2
    have hle := bst_le (f := fun s => (H.2.1 s).1.2) (L := 1000000000) i
    obtain ⟨F1, e1, e2, e3, e4⟩ := x_offer (N := N) (i := i) (f := fun s => 0) (v := (H.2.1 i).1.2) h0 h1 (by omega) (by omega)
    rw [fX6_leastCost_L11.eq_2, hR.1.2.1, if_neg (by simp (disch := omega) only [nI_leI]; omega), ldR_H iH1 (show i < 4 by omega), gI_S1 hS, (hR.2.2 i (by omega)).2.1, e1, bnd_some, show nI i + 1 = nI (i + 1) from nI_1 i]
    have eb : bst (fun s => (H.2.1 s).1.2) 1000000000 (i + 1) = if (H.2.1 i).1.2 < (bst (fun s => (H.2.1 s).1.2) 1000000000 i).2 then (some i, (H.2.1 i).1.2) else bst (fun s => (H.2.1 s).1.2) 1000000000 i := rfl
    obtain ⟨F2, g1, g2⟩ := ih (i + 1) n F1 (by omega) (by omega) (hR.keep w2 (fun c _ _ => e4 c (by omega))) (by rw [e2, eb]; split <;> rfl) (by rw [e3, eb]; split <;> rfl)
    exact ⟨F2, g1, (K40 e4).tr g2⟩
theorem x_least {N : Nat} {F : FF} {H : Hs} (hN : 1000 ≤ N) (hR : HR 1 F H) (hW : WH H) : ∃ F1, fX6_leastCost N F = some (oI (bst (fun s => (H.2.1 s).1.2) 1000000000 H.1.2.1).1, F1) ∧ KX F F1 := by
  have w2 := hW.2.1
  obtain ⟨F1, e1, e2, e3, e4⟩ := x_reset (N := N) (L := 1000000000) (F := F)
  unfold fX6_leastCost
  rw [show (1000000000 : Int32) = nI 1000000000 from rfl, e1, bnd_some]
  obtain ⟨F2, g1, g2⟩ := x_least_L (N := N) hW H.1.2.1 0 N F1 (by omega) (by omega) (hR.keep w2 (fun c _ _ => e4 c (by omega))) e2 e3
  exact ⟨F2, g1, (K40 e4).tr g2⟩
theorem y_rule_L {N : Nat} {l1 : Int32} {F : FF} {H : Hs} (hR : PR 0 F H) (hW : WH H) : ∀ (m i n : Nat), i + m = H.1.2.1 → m < n → fX7_rule_L5 N l1 n (oI (bst (fun s => (H.2.1 s).1.2) 1000000000 i).1) (nI i) F = some (if l1 = 0 then nI H.1.1 else if l1 = 1 then nI H.1.2.1 else if l1 = 2 then nI H.1.2.2.1 else if l1 = 3 then nI H.1.2.2.2 else if l1 = 4 then tnV H 0 else if l1 = 5 then oI (bst (fun s => (H.2.1 s).1.2) 1000000000 H.1.2.1).1 else -1, F) := by
  obtain ⟨⟨a1, a2, a3, a4⟩, a5, a6⟩ := id hR
  obtain ⟨w1, w2, w3, w4, w5, w6⟩ := id hW
  rw [Nat.zero_add] at a2 a3 a4
  intro m
  induction m with
  | zero =>
    intro i n hi hn
    obtain ⟨n, rfl⟩ : ∃ k, n = k + 1 := ⟨n - 1, by omega⟩
    have : i = H.1.2.1 := by omega
    subst this
    rw [fX7_rule_L5.eq_2, a2, if_pos (by simp (disch := omega) only [nI_leI]; omega), a1, a3, a4, show (0 : Int32) = nI 0 from rfl, y_turn (by omega) hR hW, bnd_some]
    rw [show nI 0 = (0 : Int32) from rfl]
    repeat' split
    all_goals rfl
  | succ m ih =>
    intro i n hi hn
    obtain ⟨n, rfl⟩ : ∃ k, n = k + 1 := ⟨n - 1, by omega⟩
    have h1 := ih (i + 1) n (by omega) (by omega)
    have hc := (w6 i (by omega)).1.2
    have q2 : ∀ s, s < H.1.2.1 → F 83 (4 + s) = nI (H.2.1 s).1.2 := fun s hs => by have := (a6 s hs).2.1; rw [Nat.zero_add] at this; exact this
    rw [fX7_rule_L5.eq_2, a2, if_neg (by simp (disch := omega) only [nI_leI]; omega), ← h1]
    cases hb : (bst (fun s => (H.2.1 s).1.2) 1000000000 i).1 with
    | none =>
      have := bst_none i (fun j hj => by have := (w6 j (by omega)).1.2; show (H.2.1 j).1.2 < _; omega) hb
      subst this
      rw [show oI none = (-4) from rfl, if_pos rfl, fX7_rule_b41, fX7_rule_b46, show nI 0 + 1 = nI (0 + 1) from rfl]
      congr 1
      unfold bst
      rw [if_pos (show (H.2.1 0).1.2 < (bst (fun s => (H.2.1 s).1.2) 1000000000 0).2 from (show (H.2.1 0).1.2 < 1000000000 by omega))]
      rfl
    | some j =>
      have hj := bst_lt i j hb
      have hcj := (w6 j (by omega)).1.2
      rw [if_neg (oI_ne (by omega)), show 4 + nI i = nI (4 + i) from nI_add 4 i, ld_ok a83 (by omega), show oI (some j) = nI j from rfl, show 4 + nI j = nI (4 + j) from nI_add 4 j, ld_ok a83 (by omega), q2 i (by omega), q2 j (by omega), show nI i + 1 = nI (i + 1) from nI_1 i]
      congr 1
      simp (disch := omega) only [nI_leI]
      rw [bst]
      have hj2 : (bst (fun s => (H.2.1 s).1.2) 1000000000 i).2 = (H.2.1 j).1.2 := hj.2
      by_cases c : (H.2.1 i).1.2 < (bst (fun s => (H.2.1 s).1.2) 1000000000 i).2
      · rw [if_pos c, if_neg (by omega)]; rfl
      · rw [if_neg c, if_pos (by omega), hb]; rfl
theorem q_rule {N : Nat} {l1 : Int32} {F : FF} {H : Hs} (hN : 1000 ≤ N) (h : RH F H) : QOK (fX6_rule N l1) (fX7_rule N l1) F := by
  obtain ⟨h1, h2, h3, -⟩ := id h
  have hy : ∀ F1, KX F F1 → fX7_rule N l1 F1 = some (if l1 = 0 then nI H.1.1 else if l1 = 1 then nI H.1.2.1 else if l1 = 2 then nI H.1.2.2.1 else if l1 = 3 then nI H.1.2.2.2 else if l1 = 4 then tnV H 0 else if l1 = 5 then oI (bst (fun s => (H.2.1 s).1.2) 1000000000 H.1.2.1).1 else -1, F1) := fun F1 k => y_rule_L (h.X k).2.1 h3 H.1.2.1 0 N (by omega) (by have := h3.2.1; omega)
  have hy0 := hy F KX.rf
  unfold QOK fX6_rule
  by_cases c0 : l1 = 0
  · rw [if_pos c0] at hy0 ⊢
    rw [h1.1.1]
    exact ⟨_, _, _, rfl, hy0, KX.rf, KY.rf⟩
  rw [if_neg c0] at hy0 ⊢
  by_cases c1 : l1 = 1
  · rw [if_pos c1] at hy0 ⊢
    rw [h1.1.2.1]
    exact ⟨_, _, _, rfl, hy0, KX.rf, KY.rf⟩
  rw [if_neg c1] at hy0 ⊢
  by_cases c2 : l1 = 2
  · rw [if_pos c2] at hy0 ⊢
    rw [h1.1.2.2.1]
    exact ⟨_, _, _, rfl, hy0, KX.rf, KY.rf⟩
  rw [if_neg c2] at hy0 ⊢
  by_cases c3 : l1 = 3
  · rw [if_pos c3] at hy0 ⊢
    rw [h1.1.2.2.2]
    exact ⟨_, _, _, rfl, hy0, KX.rf, KY.rf⟩
  rw [if_neg c3] at hy0 ⊢
  by_cases c4 : l1 = 4
  · rw [if_pos c4] at hy0 ⊢
    rw [show (0 : Int32) = nI 0 from rfl, x_turn iH1 h1 h3 (by omega), bnd_some]
    exact ⟨_, _, _, rfl, hy0, KX.rf, KY.rf⟩
  rw [if_neg c4] at hy0 ⊢
  by_cases c5 : l1 = 5
  · rw [if_pos c5] at hy0 ⊢
    obtain ⟨F1, e1, e2⟩ := x_least hN h1 h3
    rw [e1, bnd_some]
    have := hy F1 e2
    rw [if_neg c0, if_neg c1, if_neg c2, if_neg c3, if_neg c4, if_pos c5] at this
    exact ⟨_, _, _, rfl, this, e2, KY.rf⟩
  rw [if_neg c5] at hy0 ⊢
  exact ⟨_, _, _, rfl, hy0, KX.rf, KY.rf⟩
