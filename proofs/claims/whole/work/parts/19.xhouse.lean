/-! THE CLASS'S HOUSE -/
def mixS (H : Hs) (i : Nat) (g : Nat → Sh) : Hs := (H.1, (fun s => if s < i then g s else H.2.1 s), H.2.2)
theorem mixS_up {H : Hs} {i : Nat} {g : Nat → Sh} : upS (mixS H i g) i (g i) = mixS H (i + 1) g := by
  unfold upS mixS
  congr 2
  funext s
  show (if s = i then g i else if s < i then g s else H.2.1 s) = if s < i + 1 then g s else H.2.1 s
  by_cases e : s = i
  · subst e; simp
  · by_cases e2 : s < i
    · rw [if_neg e, if_pos e2, if_pos (by omega)]
    · rw [if_neg e, if_neg e2, if_neg (by omega)]
theorem mixS_at {H : Hs} {i s : Nat} {g : Nat → Sh} (h : i ≤ s) : (mixS H i g).2.1 s = H.2.1 s := if_neg (by omega)
theorem mixS_0 {H : Hs} {g : Nat → Sh} : mixS H 0 g = H := by
  unfold mixS
  simp
/-- houses that are alike as far as their shelves go -/
theorem HR.cg {h : Nat} {F : FF} {H H' : Hs} (hR : HR h F H) (h1 : H'.1 = H.1) (h2 : H'.2.2 = H.2.2) (h3 : ∀ s, s < H.1.2.1 → H'.2.1 s = H.2.1 s) : HR h F H' := by
  obtain ⟨a1, a5, a6⟩ := hR
  unfold HR
  rw [h1, h2]
  exact ⟨a1, a5, fun s hs => by rw [h3 s hs]; exact a6 s hs⟩
theorem WH.cg {H H' : Hs} (hW : WH H) (h1 : H'.1 = H.1) (h2 : H'.2.2 = H.2.2) (h3 : ∀ s, s < H.1.2.1 → H'.2.1 s = H.2.1 s) : WH H' := by
  obtain ⟨w1, w2, w3, w4, w5, w6⟩ := hW
  unfold WH
  rw [h1, h2]
  exact ⟨w1, w2, w3, w4, w5, fun s hs => by rw [h3 s hs]; exact w6 s hs⟩
def srvH (H : Hs) (b : Nat) : Hs := (H.1, (fun s => srv (H.2.1 s) b), H.2.2)
def stpH (H : Hs) : Hs := ((H.1.1, H.1.2.1, H.1.2.2.1, H.1.2.2.2 + 1), (fun s => adv (wAt H 0) (H.2.1 s)), H.2.2)
def runH (H : Hs) (n : Nat) : Hs := ((H.1.1, H.1.2.1, H.1.2.2.1, H.1.2.2.2 + n), (fun s => stS (wAt H) (H.2.1 s) n), H.2.2)
theorem runH_0 {H : Hs} : runH H 0 = H := rfl
theorem runH_w {H : Hs} {n t : Nat} : wAt (runH H n) t = wAt H (n + t) := by
  unfold wAt runH
  simp only [Nat.add_assoc]
theorem runH_s {H : Hs} {n : Nat} : stpH (runH H n) = runH H (n + 1) := by
  have e : wAt (runH H n) 0 = wAt H n := runH_w
  unfold stpH
  rw [e]
  rfl
theorem WH.run {H : Hs} {n : Nat} (h : WH H) (hn : H.1.2.2.2 + n ≤ 20000) : WH (runH H n) := by
  obtain ⟨w1, w2, w3, w4, w5, w6⟩ := id h
  exact ⟨w1, w2, w3, hn, w5, fun s hs => ws_stS (w6 s hs) w1.2 h.okW n⟩
theorem WH.srv {H : Hs} {b : Nat} (h : WH H) (hb : b < H.1.1) : WH (srvH H b) := by
  obtain ⟨w1, w2, w3, w4, w5, w6⟩ := h
  exact ⟨w1, w2, w3, w4, w5, fun s hs => ws_srv (w6 s hs) w1.2 hb⟩
theorem x_serveAll_L {N h b : Nat} {H : Hs} (hN : 1000 ≤ N) (hh : isH h) (hW : WH H) (hb : b < H.1.1) : ∀ (m i n : Nat) (F : FF), i + m = H.1.2.1 → m < n → HR h F (mixS H i (fun s => srv (H.2.1 s) b)) → ∃ F', fX0_serveAll_L4 N h (nI b) n (nI (sumTo (fun s => pyS (H.2.1 s) b) i)) (nI i) F = some (nI (sumTo (fun s => pyS (H.2.1 s) b) H.1.2.1), F') ∧ HR h F' (srvH H b) ∧ FrH h F F' := by
  obtain ⟨w1, w2, w3, w4, w5, w6⟩ := id hW
  intro m
  induction m with
  | zero =>
    intro i n F hi hlt hR
    obtain ⟨n, rfl⟩ : ∃ k, n = k + 1 := ⟨n - 1, by omega⟩
    rw [fX0_serveAll_L4.eq_2, gI_H1 hh, hR.1.2.1]
    simp (disch := omega) only [nI_leI, mixS]
    rw [if_pos (by omega), show i = H.1.2.1 by omega]
    refine ⟨F, rfl, hR.cg rfl rfl (fun s hs => ?_), FrH.rf⟩
    show srv (H.2.1 s) b = if s < i then _ else _
    rw [if_pos (show s < i by have : s < H.1.2.1 := hs; omega)]
  | succ m ih =>
    intro i n F hi hlt hR
    obtain ⟨n, rfl⟩ : ∃ k, n = k + 1 := ⟨n - 1, by omega⟩
    have hs : i < H.1.2.1 := by omega
    have hS := isS_of hh (show i < 4 by omega)
    have hSR := hR.2.2 i hs
    rw [mixS_at (Nat.le_refl i)] at hSR
    obtain ⟨F1, e1, e2, e3⟩ := x_serve hN hS hSR (w6 i hs) w1.2 hb
    rw [fX0_serveAll_L4.eq_2, gI_H1 hh, hR.1.2.1]
    have hup := hR.up (s := i) w2 hs e2 e3
    simp (disch := omega) only [nI_leI, mixS]
    rw [if_neg (by omega), gR_H4 hh, ldR_H hh (by omega), e1, cal_some (okC_S hS), nI_add, show nI i + 1 = nI (i + 1) from nI_1 i]
    have hR2 := hup.1
    rw [mixS_up (g := fun s => srv (H.2.1 s) b)] at hR2
    obtain ⟨F', g1, g2, g3⟩ := ih (i + 1) n F1 (by omega) (by omega) hR2
    exact ⟨F', g1, g2, hup.2.tr g3⟩
theorem x_serveAll {N h b : Nat} {F : FF} {H : Hs} (hN : 1000 ≤ N) (hh : isH h) (hR : HR h F H) (hW : WH H) (hb : b < H.1.1) : ∃ F', fX0_serveAll N h (nI b) F = some (nI (sumTo (fun s => pyS (H.2.1 s) b) H.1.2.1), F') ∧ HR h F' (srvH H b) ∧ FrH h F F' :=
  x_serveAll_L hN hh hW hb H.1.2.1 0 N F (by omega) (by have := hW.2.1; omega) (by rw [mixS_0]; exact hR)
theorem HR.st {h : Nat} {F : FF} {H : Hs} {v : Nat} (hR : HR h F H) : HR h (fput F h 3 (nI v)) ((H.1.1, H.1.2.1, H.1.2.2.1, v), H.2.1, H.2.2) ∧ FrH h F (fput F h 3 (nI v)) := by
  obtain ⟨⟨a1, a2, a3, a4⟩, a5, a6⟩ := hR
  refine ⟨⟨⟨?_, ?_, ?_, ?_⟩, fun i hi => ?_, fun s hs => ?_⟩, fun c hc => fput_a (by omega)⟩
  · rw [fpu, if_neg (by omega)]; exact a1
  · rw [fpu, if_neg (by omega)]; exact a2
  · rw [fpu, if_neg (by omega)]; exact a3
  · rw [fpu, if_pos ⟨rfl, rfl⟩]
  · rw [fput_a (by omega)]; exact a5 i hi
  · exact (a6 s hs).same (fput_a (by omega)) (fput_a (by omega)) (fput_a (by omega))
theorem x_stepOn {N h : Nat} {F : FF} {H : Hs} (hN : 1000 ≤ N) (hh : isH h) (hR : HR h F H) (hW : WH H) (hs1 : H.1.2.2.2 < 20000) : ∃ F', fX0_stepOn N h F = some (nI (sumTo (fun s => pyo (wAt H 0) (H.2.1 s)) H.1.2.1), F') ∧ HR h F' (stpH H) ∧ FrH h F F' := by
  obtain ⟨w1, w2, w3, w4, w5, w6⟩ := id hW
  unfold fX0_stepOn
  rw [show (0 : Int32) = nI 0 from rfl, x_turn hh hR hW (by omega), cal_some (okC_H hh), gI_H3 hh, hR.1.2.2.2, pI_H3 hh, show nI H.1.2.2.2 + 1 = nI (H.1.2.2.2 + 1) from nI_1 _]
  have hst := hR.st (v := H.1.2.2.2 + 1)
  generalize fput F h 3 (nI (H.1.2.2.2 + 1)) = F1 at hst
  unfold tnV
  have hz : sumTo (fun s => pyo none (H.2.1 s)) H.1.2.1 = 0 := by
    have := sumTo_le (f := fun s => pyo none (H.2.1 s)) (c := 0) H.1.2.1 (fun i _ => Nat.le_refl _)
    omega
  by_cases e : H.1.2.2.1 = 0
  · have e2 : wAt H 0 = none := if_pos e
    rw [if_pos e, if_pos (by decide), e2, hz]
    refine ⟨F1, rfl, ?_, hst.2⟩
    unfold stpH
    rw [e2]
    exact hst.1
  · have hm : (H.1.2.2.2 + 0) % H.1.2.2.1 < H.1.2.2.1 := Nat.mod_lt _ (by omega)
    have e2 : wAt H 0 = H.2.2 ((H.1.2.2.2 + 0) % H.1.2.2.1) := if_neg e
    have a5 := hst.1.2.1
    rw [if_neg e, if_neg (by exact nI_lt0 (by omega)), gR_H5 hh, ld_ok (aH2 hh) (by omega), a5 _ hm]
    show ∃ F', (if nI 0 ≤ wI (H.2.2 ((H.1.2.2.2 + 0) % H.1.2.2.1)) then _ else _) = _ ∧ _
    cases hw : H.2.2 ((H.1.2.2.2 + 0) % H.1.2.2.1) with
    | none =>
      rw [wI_none, if_neg (by decide), e2, hw, hz]
      refine ⟨F1, rfl, ?_, hst.2⟩
      unfold stpH
      rw [e2, hw]
      exact hst.1
    | some b =>
      have hb := w5 _ hm b hw
      rw [wI_some, if_pos (by simp (disch := omega) only [nI_leI]; omega), gR_H5 hh, ld_ok (aH2 hh) (by omega), a5 _ hm]
      show ∃ F', cal 0 h (fX0_serveAll N h (wI (H.2.2 ((H.1.2.2.2 + 0) % H.1.2.2.1))) F1) _ = _ ∧ _
      rw [hw, wI_some]
      obtain ⟨F', g1, g2, g3⟩ := x_serveAll (b := b) hN hh hst.1 (by
        refine ⟨w1, w2, w3, ?_, w5, w6⟩
        exact hs1) hb
      rw [g1, cal_some (okC_H hh), e2, hw]
      refine ⟨F', rfl, ?_, hst.2.tr g3⟩
      unfold stpH
      rw [e2, hw]
      exact g2
/-- shelves that are copied, up to i -/
theorem x_copyH_L {N h h0 : Nat} {H : Hs} {F0 : FF} (hN : 1000 ≤ N) (hh : isH h) (hh0 : isH h0) (hne : h ≠ h0) (hW : WH H) (hR0 : HR h0 F0 H) : ∀ (m i n : Nat) (F : FF), i + m = H.1.2.1 → m < n → FrH h F0 F → (F h 0 = nI H.1.1 ∧ F h 1 = nI H.1.2.1 ∧ F h 2 = nI H.1.2.2.1 ∧ F h 3 = nI H.1.2.2.2) → (∀ s, s < i → SR (h + 3 + 3 * s) F (H.2.1 s)) → ∃ F', fX0_copy_L34 N h h0 n (nI i) F = some ((), F') ∧ HR h F' H ∧ FrH h F0 F' := by
  obtain ⟨w1, w2, w3, w4, w5, w6⟩ := id hW
  have hap : h + 15 ≤ h0 ∨ h0 + 15 ≤ h := by
    rcases hh with rfl | rfl | rfl | rfl <;> rcases hh0 with rfl | rfl | rfl | rfl <;> omega
  intro m
  induction m with
  | zero =>
    intro i n F hi hlt hF a0 a6
    obtain ⟨n, rfl⟩ : ∃ k, n = k + 1 := ⟨n - 1, by omega⟩
    rw [fX0_copy_L34.eq_2, gI_H1 hh, a0.2.1]
    simp (disch := omega) only [nI_leI]
    rw [if_pos (by omega), gR_H5 hh0, gR_H5 hh, cp_ok (aH2 hh0) (aH2 hh) (by omega) (by omega)]
    refine ⟨_, rfl, ⟨⟨?_, ?_, ?_, ?_⟩, fun j hj => ?_, fun s hs => ?_⟩, fun c hc => ?_⟩
    · rw [cpy_e, if_neg (by omega)]; exact a0.1
    · rw [cpy_e, if_neg (by omega)]; exact a0.2.1
    · rw [cpy_e, if_neg (by omega)]; exact a0.2.2.1
    · rw [cpy_e, if_neg (by omega)]; exact a0.2.2.2
    · rw [cpy_e, if_pos ⟨rfl, by omega⟩, hF (h0 + 2) (by omega)]
      exact hR0.2.1 j hj
    · exact (a6 s (by omega)).same (by funext k; rw [cpy_e, if_neg (by omega)]) (by funext k; rw [cpy_e, if_neg (by omega)]) (by funext k; rw [cpy_e, if_neg (by omega)])
    · funext k
      rw [cpy_e, if_neg (by omega), hF c hc]
  | succ m ih =>
    intro i n F hi hlt hF a0 a6
    obtain ⟨n, rfl⟩ : ∃ k, n = k + 1 := ⟨n - 1, by omega⟩
    have hs : i < H.1.2.1 := by omega
    have hS := isS_of hh (show i < 4 by omega)
    have hS0 := isS_of hh0 (show i < 4 by omega)
    have hSR : SR (h0 + 3 + 3 * i) F (H.2.1 i) := (hR0.2.2 i hs).same (hF _ (by omega)) (hF _ (by omega)) (hF _ (by omega))
    obtain ⟨F1, e1, e2, e3⟩ := x_copyS (N := N) hS hS0 hSR
    rw [fX0_copy_L34.eq_2, gI_H1 hh, a0.2.1]
    simp (disch := omega) only [nI_leI]
    rw [if_neg (by omega), gR_H4 hh, ldR_H hh (by omega), gR_H4 hh0, ldR_H hh0 (by omega), e1, cal_some (okC_S hS), show nI i + 1 = nI (i + 1) from nI_1 i]
    have e4 : F1 h = F h := e3 h (by omega) (by omega) (by omega)
    exact ih (i + 1) n F1 (by omega) (by omega) (fun c hc => (e3 c (by omega) (by omega) (by omega)).trans (hF c hc)) (by rw [e4]; exact a0) (fun s hs' => by
      by_cases e : s = i
      · subst e; exact e2
      · exact (a6 s (by omega)).same (e3 _ (by omega) (by omega) (by omega)) (e3 _ (by omega) (by omega) (by omega)) (e3 _ (by omega) (by omega) (by omega)))
theorem x_copyH {N h h0 : Nat} {F : FF} {H : Hs} (hN : 1000 ≤ N) (hh : isH h) (hh0 : isH h0) (hne : h ≠ h0) (hR : HR h0 F H) (hW : WH H) : ∃ F', fX0_copy N h h0 F = some ((), F') ∧ HR h F' H ∧ FrH h F F' := by
  have hap : h + 15 ≤ h0 ∨ h0 + 15 ≤ h := by
    rcases hh with rfl | rfl | rfl | rfl <;> rcases hh0 with rfl | rfl | rfl | rfl <;> omega
  obtain ⟨a1, a2, a3, a4⟩ := hR.1
  unfold fX0_copy
  rw [gI_H0 hh0, pI_H0 hh, gI_H1 hh0, pI_H1 hh, gI_H2 hh0, pI_H2 hh, gI_H3 hh0, pI_H3 hh]
  simp only [fput_a (show h0 ≠ h by omega), a1, a2, a3, a4]
  refine x_copyH_L hN hh hh0 hne hW hR H.1.2.1 0 N _ (by omega) (by have := hW.2.1; omega) (fun c hc => ?_) ⟨?_, ?_, ?_, ?_⟩ (fun s hs => by omega)
  · rw [fput_a (by omega), fput_a (by omega), fput_a (by omega), fput_a (by omega)]
  · rw [fpu, if_neg (by omega), fpu, if_neg (by omega), fpu, if_neg (by omega), fpu, if_pos ⟨rfl, rfl⟩]
  · rw [fpu, if_neg (by omega), fpu, if_neg (by omega), fpu, if_pos ⟨rfl, rfl⟩]
  · rw [fpu, if_neg (by omega), fpu, if_pos ⟨rfl, rfl⟩]
  · rw [fpu, if_pos ⟨rfl, rfl⟩]
/-- what all pay in n steps -/
def totP (H : Hs) (n : Nat) : Nat := sumTo (fun s => pdS (wAt H) (H.2.1 s) n) H.1.2.1
theorem sumTo_mono {f : Nat → Nat} {i j : Nat} (h : i ≤ j) : sumTo f i ≤ sumTo f j := by
  induction j with
  | zero =>
    have : i = 0 := by omega
    subst this
    exact Nat.le_refl _
  | succ j ih =>
    by_cases e : i = j + 1
    · subst e; exact Nat.le_refl _
    · have := ih (by omega)
      show _ ≤ sumTo f j + _
      omega
theorem totP_le {H : Hs} {n : Nat} (hW : WH H) : totP H n ≤ 28 * n := by
  have := sumTo_le (f := fun s => pdS (wAt H) (H.2.1 s) n) (c := 7 * n) H.1.2.1 (fun i _ => pdS_le n)
  unfold totP
  have h4 := hW.2.1
  have : 7 * n * H.1.2.1 ≤ 7 * n * 4 := Nat.mul_le_mul_left _ h4
  omega
theorem x_paidByAll_L {N h nn L : Nat} {H : Hs} (hN : 1000 ≤ N) (hh : isH h) (hW : WH H) (hn : nn ≤ 200) (hL : L < 2 ^ 31) : ∀ (m i n all : Nat) (F : FF) (Hc : Hs), i + m = H.1.2.1 → m < n → HR h F Hc → WH Hc → Hc.1 = H.1 → Hc.2.2 = H.2.2 → (∀ s, i ≤ s → Hc.2.1 s = H.2.1 s) → all ≤ 1400 * i → (all = sumTo (fun s => pdS (wAt H) (H.2.1 s) nn) i ∨ (L ≤ all ∧ L ≤ totP H nn)) → ∃ F' v, fX0_paidByAll_L5 N h (nI nn) (nI L) n (nI all) (nI i) F = some (nI v, F') ∧ v ≤ 5600 ∧ (totP H nn < L → v = totP H nn) ∧ (L ≤ totP H nn → L ≤ v) ∧ FrH h F F' := by
  obtain ⟨w1, w2, w3, w4, w5, w6⟩ := id hW
  intro m
  induction m with
  | zero =>
    intro i n all F Hc hi hlt hR hWc h1 h2 h3 hall hor
    obtain ⟨n, rfl⟩ : ∃ k, n = k + 1 := ⟨n - 1, by omega⟩
    rw [fX0_paidByAll_L5.eq_2, gI_H1 hh, hR.1.2.1, h1]
    simp (disch := omega) only [nI_leI]
    rw [if_pos (by omega)]
    have hi' : i = H.1.2.1 := by omega
    refine ⟨F, all, rfl, by omega, fun h => ?_, fun h => ?_, FrH.rf⟩
    · rcases hor with e | e
      · rw [e, hi']; rfl
      · omega
    · rcases hor with e | e
      · rw [hi'] at e
        have : totP H nn = all := e.symm
        omega
      · exact e.1
  | succ m ih =>
    intro i n all F Hc hi hlt hR hWc h1 h2 h3 hall hor
    obtain ⟨n, rfl⟩ : ∃ k, n = k + 1 := ⟨n - 1, by omega⟩
    rw [fX0_paidByAll_L5.eq_2, gI_H1 hh, hR.1.2.1, h1]
    simp (disch := omega) only [nI_leI]
    rw [if_neg (by omega)]
    by_cases hc : L ≤ all
    · rw [if_pos hc]
      refine ⟨F, all, rfl, by omega, fun h => ?_, fun _ => hc, FrH.rf⟩
      rcases hor with e | e
      · have : sumTo (fun s => pdS (wAt H) (H.2.1 s) nn) i ≤ totP H nn := sumTo_mono (by omega)
        omega
      · omega
    · rw [if_neg hc, nI_sub (by omega)]
      have hex : all = sumTo (fun s => pdS (wAt H) (H.2.1 s) nn) i := by
        rcases hor with e | e
        · exact e
        · omega
      have hsc : i < Hc.1.2.1 := by rw [h1]; omega
      obtain ⟨F1, e1, e2, e3⟩ := x_paidBy (s := i) (nn := nn) (L := L - all) hN hh hR hWc hsc hn (by omega)
      have hwe : wAt Hc = wAt H := by funext t; unfold wAt; rw [h1, h2]
      rw [h3 i (Nat.le_refl i), hwe] at e1 e2
      rw [e1, cal_some (okC_H hh), nI_add, show nI i + 1 = nI (i + 1) from nI_1 i]
      have hv7 := pdS_le (w := wAt H) (x := H.2.1 i) (cN (wAt H) (H.2.1 i) (L - all) nn 0)
      have hcl := cN_le (w := wAt H) (x := H.2.1 i) (L := L - all) nn 0
      have hsum : sumTo (fun s => pdS (wAt H) (H.2.1 s) nn) (i + 1) = sumTo (fun s => pdS (wAt H) (H.2.1 s) nn) i + pdS (wAt H) (H.2.1 i) nn := rfl
      have hle : sumTo (fun s => pdS (wAt H) (H.2.1 s) nn) (i + 1) ≤ totP H nn := sumTo_mono (by omega)
      have hWS : WS Hc.1.1 (stS (wAt H) (H.2.1 i) (cN (wAt H) (H.2.1 i) (L - all) nn 0)) := by
        rw [h1]
        exact ws_stS (w6 i (by omega)) w1.2 hW.okW _
      obtain ⟨F', v, g1, g2, g3, g4, g5⟩ := ih (i + 1) n (all + pdS (wAt H) (H.2.1 i) (cN (wAt H) (H.2.1 i) (L - all) nn 0)) F1 _ (by omega) (by omega) e2 (hWc.up hWS) h1 h2 (fun s hs => by
        show (if s = i then _ else Hc.2.1 s) = _
        rw [if_neg (by omega)]
        exact h3 s (by omega)) (by omega) (by
          by_cases hlt : pdS (wAt H) (H.2.1 i) nn < L - all
          · left
            rw [cN_all nn 0 (by rw [Nat.zero_add]; exact hlt), Nat.zero_add, hsum, hex]
          · right
            have hcut := cN_cut (w := wAt H) (x := H.2.1 i) (L := L - all) nn 0 (by rw [Nat.zero_add]; omega)
            omega)
      exact ⟨F', v, g1, g2, g3, g4, e3.tr g5⟩
theorem x_paidByAll {N h nn L : Nat} {F : FF} {H : Hs} (hN : 1000 ≤ N) (hh : isH h) (hR : HR h F H) (hW : WH H) (hn : nn ≤ 200) (hL : L < 2 ^ 31) : ∃ F' v, fX0_paidByAll N h (nI nn) (nI L) F = some (nI v, F') ∧ v ≤ 5600 ∧ (totP H nn < L → v = totP H nn) ∧ (L ≤ totP H nn → L ≤ v) ∧ FrH h F F' :=
  x_paidByAll_L hN hh hW hn hL H.1.2.1 0 N 0 F H (by omega) (by have := hW.2.1; omega) hR hW rfl rfl (fun _ _ => rfl) (by omega) (Or.inl rfl)
/-- the most that is paid at once, the moves -/
def mxS (w : Nat → Option Nat) (x : Sh) : Nat → Nat
  | 0 => 0
  | n + 1 => max (mxS w x n) (pyo (w n) (stS w x n))
def mxTo (f : Nat → Nat) : Nat → Nat
  | 0 => 0
  | n + 1 => max (mxTo f n) (f n)
def mvo : Option Nat → Sh → Nat
  | none, _ => 0
  | some b, x => if goS x b = plc x.2.1 b then 0 else 1
def mvS (w : Nat → Option Nat) (x : Sh) : Nat → Nat
  | 0 => 0
  | n + 1 => mvS w x n + mvo (w n) (stS w x n)
theorem mmax_nI {a b : Nat} (ha : a < 2 ^ 31) (hb : b < 2 ^ 31) : mmax (nI a) (nI b) = nI (max a b) := by
  unfold mmax
  simp only [nI_ltI ha hb]
  split
  · congr 1; omega
  · congr 1; omega
theorem mxS_le {w : Nat → Option Nat} {x : Sh} : ∀ n, mxS w x n ≤ 7
  | 0 => Nat.zero_le _
  | n + 1 => by
    have h1 := mxS_le (w := w) (x := x) n
    have h2 := pyo_le (nb := 0) (o := w n) (x := stS w x n)
    show max _ _ ≤ 7
    omega
theorem mxTo_le {f : Nat → Nat} : ∀ n, (∀ i, i < n → f i ≤ 7) → mxTo f n ≤ 7
  | 0, _ => Nat.zero_le _
  | n + 1, h => by
    have h1 := mxTo_le n (fun i hi => h i (by omega))
    have h2 := h n (by omega)
    show max _ _ ≤ 7
    omega
theorem x_dearest_in {N h s nn : Nat} {H : Hs} {k4 : Int32 → Int32 → FF → Option (Int32 × FF)} (hN : 1000 ≤ N) (hh : isH h) (hW : WH H) (hs : s < H.1.2.1) (hn : nn ≤ 200) (M : Nat) (hM : M ≤ 7) : ∀ (m i n : Nat) (F : FF), i + m = nn → m < n → HR h F (upS H s (stS (wAt H) (H.2.1 s) i)) → ∃ F', fX0_dearestPay_L15 N k4 h (nI nn) (nI s) n (nI (max M (mxS (wAt H) (H.2.1 s) i))) (nI i) F = k4 (nI (max M (mxS (wAt H) (H.2.1 s) nn))) (nI (s + 1)) F' ∧ HR h F' (upS H s (stS (wAt H) (H.2.1 s) nn)) ∧ FrH h F F' := by
  intro m
  induction m with
  | zero =>
    intro i n F hi hlt hR
    obtain ⟨n, rfl⟩ : ∃ k, n = k + 1 := ⟨n - 1, by omega⟩
    have e : i = nn := by omega
    subst e
    rw [fX0_dearestPay_L15.eq_2]
    simp (disch := omega) only [nI_leI]
    rw [if_pos (by omega), show nI s + 1 = nI (s + 1) from nI_1 s]
    exact ⟨F, rfl, hR, FrH.rf⟩
  | succ m ih =>
    intro i n F hi hlt hR
    obtain ⟨n, rfl⟩ : ∃ k, n = k + 1 := ⟨n - 1, by omega⟩
    have h7 := mxS_le (w := wAt H) (x := H.2.1 s) i
    have hp7 := pyo_le (nb := 0) (o := wAt H i) (x := stS (wAt H) (H.2.1 s) i)
    rw [fX0_dearestPay_L15.eq_2]
    simp (disch := omega) only [nI_leI]
    rw [if_neg (by omega)]
    have hW2 : WH (upS H s (stS (wAt H) (H.2.1 s) i)) := hW.up (ws_stS (hW.2.2.2.2.2 s hs) hW.1.2 hW.okW i)
    obtain ⟨F1, e1, e2, e3⟩ := x_serveTurn (t := i) hN hh hR hW2 hs (by omega)
    rw [upS_up, upS_at, upS_wAt] at e2
    rw [e1, cal_some (okC_H hh), upS_at, upS_wAt, mmax_nI (by omega) (by omega), show nI i + 1 = nI (i + 1) from nI_1 i]
    obtain ⟨F', g1, g2, g3⟩ := ih (i + 1) n F1 (by omega) (by omega) e2
    rw [show max (max M (mxS (wAt H) (H.2.1 s) i)) (pyo (wAt H i) (stS (wAt H) (H.2.1 s) i)) = max M (mxS (wAt H) (H.2.1 s) (i + 1)) by rw [Nat.max_assoc]; rfl]
    exact ⟨F', g1, g2, e3.tr g3⟩
theorem x_dearest_L {N h nn : Nat} {H : Hs} (hN : 1000 ≤ N) (hh : isH h) (hW : WH H) (hn : nn ≤ 200) : ∀ (m i n : Nat) (F : FF), i + m = H.1.2.1 → m < n → HR h F (mixS H i (fun s => stS (wAt H) (H.2.1 s) nn)) → ∃ F', fX0_dearestPay_L4 N h (nI nn) n (nI (mxTo (fun s => mxS (wAt H) (H.2.1 s) nn) i)) (nI i) F = some (nI (mxTo (fun s => mxS (wAt H) (H.2.1 s) nn) H.1.2.1), F') ∧ FrH h F F' := by
  obtain ⟨w1, w2, w3, w4, w5, w6⟩ := id hW
  intro m
  induction m with
  | zero =>
    intro i n F hi hlt hR
    obtain ⟨n, rfl⟩ : ∃ k, n = k + 1 := ⟨n - 1, by omega⟩
    rw [fX0_dearestPay_L4.eq_2, gI_H1 hh, hR.1.2.1]
    simp (disch := omega) only [nI_leI, mixS]
    rw [if_pos (by omega), show i = H.1.2.1 by omega]
    exact ⟨F, rfl, FrH.rf⟩
  | succ m ih =>
    intro i n F hi hlt hR
    obtain ⟨n, rfl⟩ : ∃ k, n = k + 1 := ⟨n - 1, by omega⟩
    have hs : i < H.1.2.1 := by omega
    have h7 : mxTo (fun s => mxS (wAt H) (H.2.1 s) nn) i ≤ 7 := mxTo_le i (fun _ _ => mxS_le nn)
    have hWm : WH (mixS H i (fun s => stS (wAt H) (H.2.1 s) nn)) := ⟨w1, w2, w3, w4, w5, fun s hs => by
      show WS _ (if s < i then _ else _)
      split
      · exact ws_stS (w6 s hs) w1.2 hW.okW nn
      · exact w6 s hs⟩
    have hsame := upS_self (s := i) hR
    rw [fX0_dearestPay_L4.eq_2, gI_H1 hh, hR.1.2.1]
    have key := x_dearest_in (N := N) (H := mixS H i (fun s => stS (wAt H) (H.2.1 s) nn)) (s := i) (nn := nn) (k4 := fun x2 x3 F => fX0_dearestPay_L4 N h (nI nn) n x2 x3 F) hN hh hWm hs hn (mxTo (fun s => mxS (wAt H) (H.2.1 s) nn) i) h7 nn 0 N F (by omega) (by omega) hsame
    rw [mixS_at (Nat.le_refl i)] at key
    have hwe : wAt (mixS H i (fun s => stS (wAt H) (H.2.1 s) nn)) = wAt H := rfl
    rw [hwe] at key
    obtain ⟨F1, e1, e2, e3⟩ := key
    rw [mixS_up (g := fun s => stS (wAt H) (H.2.1 s) nn)] at e2
    simp (disch := omega) only [nI_leI, mixS]
    rw [if_neg (by omega)]
    have e0 : nI (mxTo (fun s => mxS (wAt H) (H.2.1 s) nn) i) = nI (max (mxTo (fun s => mxS (wAt H) (H.2.1 s) nn) i) (mxS (wAt H) (H.2.1 i) 0)) := by
      congr 1
      show _ = max _ 0
      omega
    rw [e0, show (0 : Int32) = nI 0 from rfl, e1]
    obtain ⟨F', g1, g2⟩ := ih (i + 1) n F1 (by omega) (by omega) e2
    exact ⟨F', g1, e3.tr g2⟩
theorem x_dearest {N h nn : Nat} {F : FF} {H : Hs} (hN : 1000 ≤ N) (hh : isH h) (hR : HR h F H) (hW : WH H) (hn : nn ≤ 200) : ∃ F', fX0_dearestPay N h (nI nn) F = some (nI (mxTo (fun s => mxS (wAt H) (H.2.1 s) nn) H.1.2.1), F') ∧ FrH h F F' :=
  x_dearest_L hN hh hW hn H.1.2.1 0 N F (by omega) (by have := hW.2.1; omega) (by rw [mixS_0]; exact hR)
