/-! QUESTIONS: wants that do not come, the reference -/
def runW (H : Hs) (w : Nat → Option Nat) (n : Nat) : Hs := ((H.1.1, H.1.2.1, H.1.2.2.1, H.1.2.2.2 + n), (fun s => stS w (H.2.1 s) n), H.2.2)
theorem wh_runW {H : Hs} {w : Nat → Option Nat} {n : Nat} (h : WH H) (ho : okW H.1.1 w) (hn : H.1.2.2.2 + n ≤ 20000) : WH (runW H w n) := by
  obtain ⟨w1, w2, w3, w4, w5, w6⟩ := id h
  exact ⟨w1, w2, w3, hn, w5, fun s hs => ws_stS (w6 s hs) w1.2 ho n⟩
theorem runW_w {H : Hs} {w : Nat → Option Nat} {n t : Nat} : wAt (runW H w n) t = wAt H (n + t) := runH_w
theorem y_by60 {N v nn M U : Nat} {l2 l3 l5 : Int32} {l8 : Int64} {H : Hs} {V : Nat → Nat} {k33 : Int64 → Int32 → FF → Option (Int64 × FF)} (hN : 1000 ≤ N) (hv : v ≤ 10) (hn : nn ≤ 8) (hM : M < 256) (hW : WH H) (hst : H.1.2.2.2 ≤ 9999) (hq : (∃ s b, s < H.1.2.1 ∧ b < 6 ∧ l2 = nI s ∧ l3 = nI b ∧ V = luV H v s b nn) ∨ (l2 = -4 ∧ V = meV H v nn)) : ∀ (m i n : Nat) (F : FF), i + m = nn → m < n → PR 300 F (runW H (misW (wAt H) M) i) → ACCn F H (misW (wAt H) M) i → ∃ F1, fX7_byNothing_L60 N k33 (nI v) l2 l3 (nI nn) l5 (lN U) l8 (nI M) n (lN (od v M i)) (nI i) F = k33 (lN (U + V M)) (nI (M + 1)) F1 ∧ FrA 300 F F1 := by
  have hns := hW.2.1
  intro m
  induction m with
  | zero =>
    intro i n F hi hlt hR hA
    obtain ⟨n, rfl⟩ : ∃ k, n = k + 1 := ⟨n - 1, by omega⟩
    have : i = nn := by omega
    subst this
    refine ⟨F, ?_, FrA.rf⟩
    rw [fX7_byNothing_L60.eq_2, if_pos (by simp (disch := omega) only [nI_leI]; omega), show nI M + 1 = nI (M + 1) from nI_1 M]
    rcases hq with ⟨s, b, hs, hb, rfl, rfl, rfl⟩ | ⟨rfl, rfl⟩
    · have hQ := (hR.2.2 s hs).2.2.1 0 (by omega)
      have h6 := (ws_stS (hW.2.2.2.2.2 s hs) hW.1.2 (okW_mis (M := M) hW.okW) i).2.1 0 (by omega)
      rw [if_pos (ne_m4 (by omega)), show 327 + 6 * nI s = nI (327 + 6 * s) by rw [show 6 * nI s = nI (6 * s) from nI_mul 6 s]; exact nI_add 327 _, ld_ok a83 (by omega), show F 83 (327 + 6 * s) = nI ((stS (misW (wAt H) M) (H.2.1 s) i).2.1 0) from hQ]
      congr 1
      unfold luV
      by_cases c : (stS (misW (wAt H) M) (H.2.1 s) i).2.1 0 = b
      · rw [if_neg (by simp (disch := omega) only [nI_eq]; omega), if_pos c, show (1 : Int32).toInt64 = lN 1 from rfl, lN_mul, lN_add]
      · rw [if_pos (by simp (disch := omega) only [nI_eq]; omega), if_neg c, show (0 : Int32).toInt64 = lN 0 from rfl, lN_mul, lN_add]
    · have hp : sumTo (fun s => pdS (misW (wAt H) M) (H.2.1 s) i) H.1.2.1 ≤ 56 * H.1.2.1 := sumTo_le _ (fun s _ => by have := pdS_le (w := misW (wAt H) M) (x := H.2.1 s) i; omega)
      rw [if_neg (fun h => h rfl), y_paidAll hN hA.1, bnd_some, sum4 hns, fX7_byNothing_b159, nI_l (by omega), lN_mul, lN_add, show nI M + 1 = nI (M + 1) from nI_1 M]
      rfl
  | succ m ih =>
    intro i n F hi hlt hR hA
    obtain ⟨n, rfl⟩ : ∃ k, n = k + 1 := ⟨n - 1, by omega⟩
    have h2 : M / 2 ^ i % 2 < 2 := Nat.mod_lt _ (by omega)
    have ef : (if ¬ ((nI M >>> (nI i &&& 31)) &&& 1) = 1 then (0 : Int32) else 1) = bI (decide (M / 2 ^ i % 2 = 1)) := by
      rw [bitAt (by omega) (by omega)]
      by_cases c : M / 2 ^ i % 2 = 1
      · rw [c, if_neg (fun h => h rfl), decide_eq_true rfl]; rfl
      · rw [decide_eq_false c, show M / 2 ^ i % 2 = 0 by omega]; rfl
    have eo : (if bI (decide (M / 2 ^ i % 2 = 1)) = 0 then (10 - nI v).toInt64 else (nI v).toInt64) = lN (if M / 2 ^ i % 2 = 1 then v else 10 - v) := by
      by_cases c : M / 2 ^ i % 2 = 1
      · rw [decide_eq_true c, if_pos c, if_neg (by decide), nI_l (by omega)]
      · rw [decide_eq_false c, if_neg c, if_pos (show bI false = 0 from rfl), show 10 - nI v = nI (10 - v) from nI_sub hv, nI_l (by omega)]
    obtain ⟨F1, z1, z2, z3, z4⟩ := y_step (z := decide (M / 2 ^ i % 2 = 1)) (pg := 300) hN (by omega) hR (wh_runW hW (okW_mis hW.okW) (n := i) (by omega))
    have e2 : (if decide (M / 2 ^ i % 2 = 1) = true then none else wAt (runW H (misW (wAt H) M) i) 0) = misW (wAt H) M i := by
      unfold misW
      by_cases c : M / 2 ^ i % 2 = 1
      · rw [if_pos (decide_eq_true c), if_neg (by omega)]
      · rw [if_neg (by rw [decide_eq_false c]; decide), if_pos (by omega), runW_w]; rfl
    rw [e2] at z4
    have z2' : PR 300 F1 (runW H (misW (wAt H) M) (i + 1)) := by
      have : stpO (runW H (misW (wAt H) M) i) (decide (M / 2 ^ i % 2 = 1)) = runW H (misW (wAt H) M) (i + 1) := by
        unfold stpO
        rw [e2]
        rfl
      rw [← this]
      exact z2
    obtain ⟨F2, y1, y2⟩ := ih (i + 1) n F1 (by omega) (by omega) z2' (hA.step z4)
    refine ⟨F2, ?_, z3.tr y2⟩
    rw [fX7_byNothing_L60.eq_2, if_neg (by simp (disch := omega) only [nI_leI]; omega), ef, show (300 : Int32) = nI 300 from rfl, z1, bnd_some, eo, lN_mul, show nI i + 1 = nI (i + 1) from nI_1 i]
    exact y1
theorem y_by33 {N v nn : Nat} {l2 l3 l5 : Int32} {H : Hs} {V : Nat → Nat} (hN : 1000 ≤ N) (hv : v ≤ 10) (hn : nn ≤ 8) (hq : (∃ s b, s < H.1.2.1 ∧ b < 6 ∧ l2 = nI s ∧ l3 = nI b ∧ V = luV H v s b nn) ∨ (l2 = -4 ∧ V = meV H v nn)) (hV : sumTo V (2 ^ nn) < 2 ^ 45) : ∀ (m M n : Nat) (F : FF), M + m = 2 ^ nn → m < n → RH F H → ∃ F1, fX7_byNothing_L33 N (nI v) l2 l3 (nI nn) l5 (lN (10 ^ nn)) n (lN (sumTo V M)) (nI M) F = some ((if ¬ l5 = 0 then lN (10 ^ nn) else lN (sumTo V (2 ^ nn))) / lN (Nat.gcd (sumTo V (2 ^ nn)) (10 ^ nn)), F1) ∧ KY F F1 := by
  have h256 := pow2_le hn
  have h10 := pow10_le hn
  have hp10 : 0 < 10 ^ nn := Nat.pow_pos (by omega)
  intro m
  induction m with
  | zero =>
    intro M n F hM hlt h
    obtain ⟨n, rfl⟩ : ∃ k, n = k + 1 := ⟨n - 1, by omega⟩
    rw [fX7_byNothing_L33.eq_2, pow2 nn (by omega), if_pos (by simp (disch := omega) only [nI_leI]; omega), show M = 2 ^ nn by omega, (lowest_eq (w := l5) (F := F) hN hV (show 10 ^ nn < 2 ^ 45 by omega) hp10).2, bnd_some]
    exact ⟨F, rfl, KY.rf⟩
  | succ m ih =>
    intro M n F hM hlt h
    obtain ⟨n, rfl⟩ : ∃ k, n = k + 1 := ⟨n - 1, by omega⟩
    have hW := h.2.2.1
    obtain ⟨F1, a1, a2, a3⟩ := y_copies (N := N) (F := F) (f := 0) (t := 300) hN (by omega) (by omega) (by omega)
    obtain ⟨F2, b1, b2, b3, b4⟩ := y_starts (N := N) (F := F1) hN
    have hR1 : PR 300 F1 H := h.2.1.copy hW a2 a3
    have hR2 : PR 300 F2 (runW H (misW (wAt H) M) 0) := hR1.keep hW (b3 1 (by omega) (by omega)) (b3 20 (by omega) (by omega)) (fun k _ _ => by rw [b2 83 (by omega) (by omega)])
    have k2 : FrA 300 F F2 := ⟨fun c h1 h2 h3 => by rw [b2 c h3 h2, a2 c h1], fun k h1 h2 => by rw [b3 k h1 h2, a2 82 (by omega)], fun k hk => by rw [b2 83 (by omega) (by omega), a3, if_neg (by omega)]⟩
    obtain ⟨F3, y1, y2⟩ := y_by60 (N := N) (U := sumTo V M) (l5 := l5) (l8 := lN (10 ^ nn)) (k33 := fun x6 x10 F => fX7_byNothing_L33 N (nI v) l2 l3 (nI nn) l5 (lN (10 ^ nn)) n x6 x10 F) hN hv hn (show M < 256 by omega) hW h.2.2.2.2.1 hq nn 0 N F2 (by omega) (by omega) hR2 (ACCn.zero b4)
    have hK := (k2.tr y2).Y (show 225 ≤ 300 by omega)
    obtain ⟨F4, z1, z2⟩ := ih (M + 1) n F3 (by omega) (by omega) (h.Y hK)
    refine ⟨F4, ?_, hK.tr z2⟩
    rw [fX7_byNothing_L33.eq_2, pow2 nn (by omega), if_neg (by simp (disch := omega) only [nI_leI]; omega), show fX7_copies N 0 300 F = some ((), F1) from a1, bnd_some, b1, bnd_some]
    exact y1.trans z1
theorem y_by9 {N nn : Nat} {l1 l2 l3 l5 : Int32} {l6 : Int64} {F : FF} (hn : nn ≤ 8) : ∀ (m i n : Nat), i + m = nn → m < n → fX7_byNothing_L9 N l1 l2 l3 (nI nn) l5 l6 n (lN (10 ^ i)) (nI i) F = fX7_byNothing_L33 N l1 l2 l3 (nI nn) l5 (lN (10 ^ nn)) N l6 0 F := by
  intro m
  induction m with
  | zero =>
    intro i n hi hlt
    obtain ⟨n, rfl⟩ : ∃ k, n = k + 1 := ⟨n - 1, by omega⟩
    rw [fX7_byNothing_L9.eq_2, if_pos (by simp (disch := omega) only [nI_leI]; omega), show i = nn by omega]
  | succ m ih =>
    intro i n hi hlt
    obtain ⟨n, rfl⟩ : ∃ k, n = k + 1 := ⟨n - 1, by omega⟩
    rw [fX7_byNothing_L9.eq_2, if_neg (by simp (disch := omega) only [nI_leI]; omega), show (10 : Int64) = lN 10 from rfl, lN_mul, ← Nat.pow_succ, show nI i + 1 = nI (i + 1) from nI_1 i]
    exact ih (i + 1) n (by omega) (by omega)
theorem y_by {N v nn : Nat} {l2 l3 l5 : Int32} {F : FF} {H : Hs} {V : Nat → Nat} (hN : 1000 ≤ N) (hv : v ≤ 10) (hn : nn ≤ 8) (hq : (∃ s b, s < H.1.2.1 ∧ b < 6 ∧ l2 = nI s ∧ l3 = nI b ∧ V = luV H v s b nn) ∨ (l2 = -4 ∧ V = meV H v nn)) (hV : sumTo V (2 ^ nn) < 2 ^ 45) (h : RH F H) : ∃ F1, fX7_byNothing N (nI v) l2 l3 (nI nn) l5 F = some ((if ¬ l5 = 0 then lN (10 ^ nn) else lN (sumTo V (2 ^ nn))) / lN (Nat.gcd (sumTo V (2 ^ nn)) (10 ^ nn)), F1) ∧ KY F F1 := by
  have h256 := pow2_le hn
  obtain ⟨F1, e1, e2⟩ := y_by33 (N := N) (l5 := l5) hN hv hn hq hV (2 ^ nn) 0 N F (by omega) (by omega) h
  refine ⟨F1, ?_, e2⟩
  unfold fX7_byNothing
  rw [show (1 : Int64) = lN (10 ^ 0) from rfl]
  exact (y_by9 (N := N) hn nn 0 N (by omega) (by omega)).trans e1
theorem luV_le {H : Hs} {v s b nn : Nat} (hv : v ≤ 10) (hn : nn ≤ 8) : sumTo (luV H v s b nn) (2 ^ nn) < 2 ^ 45 := by
  have h256 := pow2_le hn
  have h10 := pow10_le hn
  have hsum := sumTo_le (f := luV H v s b nn) (c := 10 ^ nn) (2 ^ nn) (fun i _ => by
    have := od_le (M := i) hv nn
    unfold luV
    split <;> omega)
  have hsum2 : 10 ^ nn * 2 ^ nn ≤ 100000000 * 256 := Nat.mul_le_mul h10 h256
  omega
theorem meV_le {H : Hs} {v nn : Nat} (hv : v ≤ 10) (hn : nn ≤ 8) (hns : H.1.2.1 ≤ 4) : sumTo (meV H v nn) (2 ^ nn) < 2 ^ 45 := by
  have h256 := pow2_le hn
  have h10 := pow10_le hn
  have hsum := sumTo_le (f := meV H v nn) (c := 100000000 * 224) (2 ^ nn) (fun i _ => by
    have h1 := od_le (M := i) hv nn
    have h2 := sumTo_le (f := fun s => pdS (misW (wAt H) i) (H.2.1 s) nn) (c := 56) H.1.2.1 (fun s _ => by have := pdS_le (w := misW (wAt H) i) (x := H.2.1 s) nn; omega)
    unfold meV
    exact Nat.mul_le_mul (by omega) (by omega))
  have hsum2 : 100000000 * 224 * 2 ^ nn ≤ 100000000 * 224 * 256 := Nat.mul_le_mul_left _ h256
  omega
theorem q_luck {N : Nat} {l1 l2 l3 l4 l5 : Int32} {F : FF} {H : Hs} (hN : 1000 ≤ N) (h : RH F H) : QOK (fX6_luck N l1 l2 l3 l4 l5) (fX7_luck N l1 l2 l3 l4 l5) F := by
  unfold QOK fX6_luck fX7_luck
  have hns := h.ns
  have hnb := h.nb
  have hW := h.2.2.1
  have hbad : ∀ fy : Option (Int64 × FF), (if (1 : Int32) = 0 then (none : Option (Int64 × FF)) else fy) = fy := fun _ => if_neg (by decide)
  unfold pX6_areOdds
  rw [xR10, xR8, xR1, h.xS, h.xB]
  rcases guard (x := l1) 11 with ⟨v, hv, rfl⟩ | hg1
  · rw [bI_nI hv (by omega), if_neg n10]
    rcases guard (x := l4) 9 with ⟨n, hn, rfl⟩ | hg4
    · rw [bI_nI hn (by omega), if_neg n10]
      rcases guard (x := l5) 2 with ⟨w, hw, rfl⟩ | hg5
      · rw [bI_nI hw (by omega), if_neg n10, if_neg n10]
        rcases guard (x := l2) H.1.2.1 with ⟨s, hs, rfl⟩ | hg2
        · rw [bI_nI hs (by omega), if_neg n10]
          rcases guard (x := l3) H.1.1 with ⟨b, hb, rfl⟩ | hg3
          · rw [bI_nI hb (by omega), if_pos n10]
            obtain ⟨F1, e1, e2, e3, -⟩ := x_trial hN h
            have h256 := pow2_le (n := n) (by omega)
            obtain ⟨F2, g1, g2⟩ := x_luck_L (N := N) (w := nI w) (b := b) (nn := n) hN (show v ≤ 10 by omega) hs (by omega) (by omega) (2 ^ n) 0 N F1 (H.2.1 s) (by omega) (by omega) (h.X e3) (hW.2.2.2.2.2 s hs) (upS_self e2)
            have hR2 := (h.X e3).X g2
            obtain ⟨F3, y1, y2⟩ := y_by (N := N) (l5 := nI w) (nn := n) hN (show v ≤ 10 by omega) (by omega) (Or.inl ⟨s, b, hs, by omega, rfl, rfl, rfl⟩) (luV_le (by omega) (by omega)) hR2
            refine ⟨(if ¬ nI w = 0 then lN (10 ^ n) else lN (sumTo (luV H v s b n) (2 ^ n))) / lN (Nat.gcd (sumTo (luV H v s b n) (2 ^ n)) (10 ^ n)), F2, F3, ?_, ?_, e3.tr g2, y2⟩
            rotate_left
            · rw [yR10, bI_nI hv (by omega), if_neg n10, hR2.yS, bnd_some, bI_nI hs (by omega), if_neg n10, hR2.yB, bnd_some, bI_nI hb (by omega), if_neg n10, yR8, bI_nI hn (by omega), if_neg n10, yR1, bI_nI hw (by omega), if_neg n10, y1, bnd_some]
            · rw [e1, bnd_some]
              exact g1
          · refine ⟨-1, F, F, ?_, ?_, KX.rf, KY.rf⟩
            · rw [bI_f hg3, if_neg (by decide)]
            · rw [yR10, bI_nI hv (by omega), if_neg n10, h.yS, bnd_some, bI_nI hs (by omega), if_neg n10, h.yB, bnd_some, bI_f hg3, if_pos rfl]
        · refine ⟨-1, F, F, ?_, ?_, KX.rf, KY.rf⟩
          · rw [bI_f hg2, if_pos rfl]
          · rw [yR10, bI_nI hv (by omega), if_neg n10, h.yS, bnd_some, bI_f hg2, if_pos rfl]
      · refine ⟨-1, F, F, ?_, ?_, KX.rf, KY.rf⟩
        · rw [bI_f hg5, if_pos rfl, if_pos rfl]
        · rw [yR10, bI_nI hv (by omega), if_neg n10, h.yS, bnd_some]
          split
          · rfl
          · rw [h.yB, bnd_some]
            split
            · rfl
            · rw [yR8, bI_nI hn (by omega), if_neg n10, yR1, bI_f hg5, if_pos rfl]
    · refine ⟨-1, F, F, ?_, ?_, KX.rf, KY.rf⟩
      · rw [bI_f hg4, if_pos rfl, if_pos rfl]
      · rw [yR10, bI_nI hv (by omega), if_neg n10, h.yS, bnd_some]
        split
        · rfl
        · rw [h.yB, bnd_some]
          split
          · rfl
          · rw [yR8, bI_f hg4, if_pos rfl]
  · refine ⟨-1, F, F, ?_, ?_, KX.rf, KY.rf⟩
    · rw [bI_f hg1, if_pos rfl, if_pos rfl]
    · rw [yR10, bI_f hg1, if_pos rfl]
theorem q_mean {N : Nat} {l1 l2 l3 : Int32} {F : FF} {H : Hs} (hN : 1000 ≤ N) (h : RH F H) : QOK (fX6_mean N l1 l2 l3) (fX7_mean N l1 l2 l3) F := by
  unfold QOK fX6_mean fX7_mean
  have hns := h.ns
  have hW := h.2.2.1
  unfold pX6_areOdds
  rw [xR10, xR8, xR1]
  rcases guard (x := l1) 11 with ⟨v, hv, rfl⟩ | hg1
  · rw [bI_nI hv (by omega), if_neg n10]
    rcases guard (x := l2) 9 with ⟨n, hn, rfl⟩ | hg4
    · rw [bI_nI hn (by omega), if_neg n10]
      rcases guard (x := l3) 2 with ⟨w, hw, rfl⟩ | hg5
      · rw [bI_nI hw (by omega), if_neg n10, if_pos n10]
        obtain ⟨F1, e1, e2, e3, -⟩ := x_trial hN h
        have h256 := pow2_le (n := n) (by omega)
        obtain ⟨F2, g1, g2⟩ := x_mean_L (N := N) (w := nI w) (nn := n) hN (show v ≤ 10 by omega) (by omega) (2 ^ n) 0 N F1 H (by omega) (by omega) (h.X e3) e2 hW rfl rfl
        have hR2 := (h.X e3).X g2
        obtain ⟨F3, y1, y2⟩ := y_by (N := N) (l2 := -4) (l3 := 0) (l5 := nI w) (nn := n) hN (show v ≤ 10 by omega) (by omega) (Or.inr ⟨rfl, rfl⟩) (meV_le (H := H) (by omega) (by omega) hns) hR2
        refine ⟨(if ¬ nI w = 0 then lN (10 ^ n) else lN (sumTo (meV H v n) (2 ^ n))) / lN (Nat.gcd (sumTo (meV H v n) (2 ^ n)) (10 ^ n)), F2, F3, ?_, ?_, e3.tr g2, y2⟩
        rotate_left
        · rw [yR10, bI_nI hv (by omega), if_neg n10, yR8, bI_nI hn (by omega), if_neg n10, yR1, bI_nI hw (by omega), if_neg n10, y1, bnd_some]
        · rw [e1, bnd_some]
          exact g1
      · refine ⟨-1, F, F, ?_, ?_, KX.rf, KY.rf⟩
        · rw [bI_f hg5, if_pos rfl, if_neg (by decide)]
        · rw [yR10, bI_nI hv (by omega), if_neg n10, yR8, bI_nI hn (by omega), if_neg n10, yR1, bI_f hg5, if_pos rfl]
    · refine ⟨-1, F, F, ?_, ?_, KX.rf, KY.rf⟩
      · rw [bI_f hg4, if_pos rfl, if_neg (by decide)]
      · rw [yR10, bI_nI hv (by omega), if_neg n10, yR8, bI_f hg4, if_pos rfl]
  · refine ⟨-1, F, F, ?_, ?_, KX.rf, KY.rf⟩
    · rw [bI_f hg1, if_pos rfl, if_neg (by decide)]
    · rw [yR10, bI_f hg1, if_pos rfl]
