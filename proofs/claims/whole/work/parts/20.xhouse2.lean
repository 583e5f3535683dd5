/-! THE CLASS'S HOUSE, more -/
theorem goS_lt {nb b : Nat} {x : Sh} (h : WS nb x) (hn : nb ≤ 6) (hb : b < nb) : goS x b < nb := by
  have h1 := h.plt hn hb
  have h2 := gol_le x.1.1 (inc x.2.2 b) x.2.1 b (plc x.2.1 b)
  unfold goS
  omega
theorem plc_srv {nb b : Nat} {x : Sh} (h : WS nb x) (hn : nb ≤ 6) (hb : b < nb) : plc (srv x b).2.1 b = goS x b := by
  have h1 := goS_lt h hn hb
  have e : (srv x b).2.1 (goS x b) = b := by
    show mv x.2.1 (plc x.2.1 b) (goS x b) (goS x b) = b
    unfold mv
    rw [if_pos rfl]
    exact h.at (by omega)
  have := (ws_srv h hn hb).pl (p := goS x b) (by omega)
  rw [e] at this
  exact this
theorem mvS_le {w : Nat → Option Nat} {x : Sh} : ∀ n, mvS w x n ≤ n
  | 0 => Nat.le_refl _
  | n + 1 => by
    have h1 := mvS_le (w := w) (x := x) n
    have h2 : mvo (w n) (stS w x n) ≤ 1 := by
      unfold mvo
      split
      · omega
      · split <;> omega
    show mvS w x n + _ ≤ _
    omega
theorem x_moves_in {N h s nn : Nat} {H : Hs} {k4 : Int32 → Int32 → FF → Option (Int32 × FF)} (hN : 1000 ≤ N) (hh : isH h) (hW : WH H) (hA : ∀ i, i < H.1.2.2.1 → ∃ b, H.2.2 i = some b) (hs : s < H.1.2.1) (hn : nn ≤ 200) (M : Nat) (hM : M ≤ 1000) : ∀ (m i n : Nat) (F : FF), i + m = nn → m < n → HR h F (upS H s (stS (wAt H) (H.2.1 s) i)) → ∃ F', fX0_movesIn_L15 N k4 h (nI nn) (nI s) n (nI (M + mvS (wAt H) (H.2.1 s) i)) (nI i) F = k4 (nI (M + mvS (wAt H) (H.2.1 s) nn)) (nI (s + 1)) F' ∧ HR h F' (upS H s (stS (wAt H) (H.2.1 s) nn)) ∧ FrH h F F' := by
  obtain ⟨w1, w2, w3, w4, w5, w6⟩ := id hW
  intro m
  induction m with
  | zero =>
    intro i n F hi hlt hR
    obtain ⟨n, rfl⟩ : ∃ k, n = k + 1 := ⟨n - 1, by omega⟩
    have e : i = nn := by omega
    subst e
    rw [fX0_movesIn_L15.eq_2]
    simp (disch := omega) only [nI_leI]
    rw [if_pos (by omega), fX0_movesIn_b96, show nI s + 1 = nI (s + 1) from nI_1 s]
    exact ⟨F, rfl, hR, FrH.rf⟩
  | succ m ih =>
    intro i n F hi hlt hR
    obtain ⟨n, rfl⟩ : ∃ k, n = k + 1 := ⟨n - 1, by omega⟩
    have hW2 : WH (upS H s (stS (wAt H) (H.2.1 s) i)) := hW.up (ws_stS (w6 s hs) w1.2 hW.okW i)
    rw [fX0_movesIn_L15.eq_2]
    simp (disch := omega) only [nI_leI]
    rw [if_neg (by omega), gI_H2 hh, hR.1.2.2.1]
    show ∃ F', (if nI H.1.2.2.1 ≤ 0 then _ else _) = _ ∧ _
    by_cases e : H.1.2.2.1 = 0
    · have hnone : ∀ t, wAt H t = none := fun t => if_pos e
      have hst : ∀ j, stS (wAt H) (H.2.1 s) j = H.2.1 s := by
        intro j
        induction j with
        | zero => rfl
        | succ j ihj => show adv (wAt H j) _ = _; rw [hnone, ihj]; rfl
      have hmv : ∀ j, mvS (wAt H) (H.2.1 s) j = 0 := by
        intro j
        induction j with
        | zero => rfl
        | succ j ihj => show mvS _ _ j + mvo (wAt H j) _ = 0; rw [hnone, ihj]; rfl
      rw [e, if_pos (by decide), fX0_movesIn_b96, show nI s + 1 = nI (s + 1) from nI_1 s, hmv, hmv]
      refine ⟨F, rfl, ?_, FrH.rf⟩
      rw [hst] at hR ⊢
      exact hR
    · rw [if_neg (by simp (disch := omega) only [il, nI_leI]; omega), gR_H5 hh, x_turn hh hR hW2 (by omega), cal_some (okC_H hh)]
      have hm : (H.1.2.2.2 + i) % H.1.2.2.1 < H.1.2.2.1 := Nat.mod_lt _ (by omega)
      have e2 : wAt H i = H.2.2 ((H.1.2.2.2 + i) % H.1.2.2.1) := if_neg e
      obtain ⟨b, hb⟩ := hA _ hm
      have hbn := w5 _ hm b hb
      have htn : tnV (upS H s (stS (wAt H) (H.2.1 s) i)) i = nI ((H.1.2.2.2 + i) % H.1.2.2.1) := if_neg e
      have h5 : F (h + 2) ((H.1.2.2.2 + i) % H.1.2.2.1) = nI b := (hR.2.1 _ hm).trans (by show wI (H.2.2 _) = _; rw [hb]; rfl)
      have hS := isS_of hh (show s < 4 by omega)
      have hSR := hR.2.2 s hs
      rw [upS_at] at hSR
      have hWS := ws_stS (w6 s hs) w1.2 hW.okW i
      have hp := plc_le (stS (wAt H) (H.2.1 s) i).2.1 b
      have hgo := goS_lt hWS w1.2 hbn
      rw [htn, ld_ok (aH2 hh) (by omega), h5, gR_H4 hh, ldR_H hh (by omega), x_find hN hS hSR hWS.2.1 (by omega), cal_some (okC_S hS), gR_H4 hh, ldR_H hh (by omega)]
      obtain ⟨F1, g1, g2, g3⟩ := x_serve hN hS hSR hWS w1.2 hbn
      have hup := hR.up (s := s) w2 hs g2 g3
      rw [g1, cal_some (okC_S hS), gR_H4 hh, ldR_H hh (by omega), x_find hN hS g2 (ws_srv hWS w1.2 hbn).2.1 (by omega), cal_some (okC_S hS), plc_srv hWS w1.2 hbn, show nI i + 1 = nI (i + 1) from nI_1 i]
      have ee : (if ¬ nI (goS (stS (wAt H) (H.2.1 s) i) b) = nI (plc (stS (wAt H) (H.2.1 s) i).2.1 b) then (1 : Int32) else 0) = nI (mvo (wAt H i) (stS (wAt H) (H.2.1 s) i)) := by
        rw [e2, hb]
        simp (disch := omega) only [nI_eq]
        show _ = nI (if goS _ b = plc _ b then 0 else 1)
        by_cases hc : goS (stS (wAt H) (H.2.1 s) i) b = plc (stS (wAt H) (H.2.1 s) i).2.1 b
        · rw [if_neg (by omega), if_pos hc]; rfl
        · rw [if_pos hc, if_neg hc]; rfl
      rw [ee, nI_add]
      have hR2 := hup.1
      rw [upS_up] at hR2
      have hR3 : HR h F1 (upS H s (stS (wAt H) (H.2.1 s) (i + 1))) := by
        show HR h F1 (upS H s (adv (wAt H i) _))
        rw [e2, hb]
        exact hR2
      obtain ⟨F', k1, k2, k3⟩ := ih (i + 1) n F1 (by omega) (by omega) hR3
      rw [Nat.add_assoc]
      exact ⟨F', k1, k2, hup.2.tr k3⟩
theorem x_moves_L {N h nn : Nat} {H : Hs} (hN : 1000 ≤ N) (hh : isH h) (hW : WH H) (hA : ∀ i, i < H.1.2.2.1 → ∃ b, H.2.2 i = some b) (hn : nn ≤ 200) : ∀ (m i n : Nat) (F : FF), i + m = H.1.2.1 → m < n → HR h F (mixS H i (fun s => stS (wAt H) (H.2.1 s) nn)) → ∃ F', fX0_movesIn_L4 N h (nI nn) n (nI (sumTo (fun s => mvS (wAt H) (H.2.1 s) nn) i)) (nI i) F = some (nI (sumTo (fun s => mvS (wAt H) (H.2.1 s) nn) H.1.2.1), F') ∧ FrH h F F' := by
  obtain ⟨w1, w2, w3, w4, w5, w6⟩ := id hW
  intro m
  induction m with
  | zero =>
    intro i n F hi hlt hR
    obtain ⟨n, rfl⟩ : ∃ k, n = k + 1 := ⟨n - 1, by omega⟩
    rw [fX0_movesIn_L4.eq_2, gI_H1 hh, hR.1.2.1]
    simp (disch := omega) only [nI_leI, mixS]
    rw [if_pos (by omega), show i = H.1.2.1 by omega]
    exact ⟨F, rfl, FrH.rf⟩
  | succ m ih =>
    intro i n F hi hlt hR
    obtain ⟨n, rfl⟩ : ∃ k, n = k + 1 := ⟨n - 1, by omega⟩
    have hs : i < H.1.2.1 := by omega
    have h7 := sumTo_le (f := fun s => mvS (wAt H) (H.2.1 s) nn) (c := nn) i (fun _ _ => mvS_le nn)
    have h8 : nn * i ≤ 200 * 4 := Nat.mul_le_mul hn (by omega)
    have hWm : WH (mixS H i (fun s => stS (wAt H) (H.2.1 s) nn)) := ⟨w1, w2, w3, w4, w5, fun s hs => by
      show WS _ (if s < i then _ else _)
      split
      · exact ws_stS (w6 s hs) w1.2 hW.okW nn
      · exact w6 s hs⟩
    have hsame := upS_self (s := i) hR
    rw [fX0_movesIn_L4.eq_2, gI_H1 hh, hR.1.2.1]
    have key := x_moves_in (N := N) (H := mixS H i (fun s => stS (wAt H) (H.2.1 s) nn)) (s := i) (nn := nn) (k4 := fun x2 x3 F => fX0_movesIn_L4 N h (nI nn) n x2 x3 F) hN hh hWm hA hs hn (sumTo (fun s => mvS (wAt H) (H.2.1 s) nn) i) (by omega) nn 0 N F (by omega) (by omega) hsame
    rw [mixS_at (Nat.le_refl i)] at key
    have hwe : wAt (mixS H i (fun s => stS (wAt H) (H.2.1 s) nn)) = wAt H := rfl
    rw [hwe] at key
    obtain ⟨F1, e1, e2, e3⟩ := key
    rw [mixS_up (g := fun s => stS (wAt H) (H.2.1 s) nn)] at e2
    simp (disch := omega) only [nI_leI, mixS]
    rw [if_neg (by omega), show (0 : Int32) = nI 0 from rfl]
    obtain ⟨F', g1, g2⟩ := ih (i + 1) n F1 (by omega) (by omega) e2
    exact ⟨F', e1.trans g1, e3.tr g2⟩
theorem x_moves {N h nn : Nat} {F : FF} {H : Hs} (hN : 1000 ≤ N) (hh : isH h) (hR : HR h F H) (hW : WH H) (hA : ∀ i, i < H.1.2.2.1 → ∃ b, H.2.2 i = some b) (hn : nn ≤ 200) : ∃ F', fX0_movesIn N h (nI nn) F = some (nI (sumTo (fun s => mvS (wAt H) (H.2.1 s) nn) H.1.2.1), F') ∧ FrH h F F' :=
  x_moves_L hN hh hW hA hn H.1.2.1 0 N F (by omega) (by have := hW.2.1; omega) (by rw [mixS_0]; exact hR)
/-! sums and comparisons -/
theorem x_costs_L {N h : Nat} {F : FF} {H : Hs} (hh : isH h) (hW : WH H) (hR : HR h F H) : ∀ (m i n : Nat), i + m = H.1.2.1 → m < n → fX0_costOfAll_L4 N h n (nI (sumTo (fun s => (H.2.1 s).1.2) i)) (nI i) F = some (nI (sumTo (fun s => (H.2.1 s).1.2) H.1.2.1), F) := by
  have w2 := hW.2.1
  intro m
  induction m with
  | zero =>
    intro i n hi hlt
    obtain ⟨n, rfl⟩ : ∃ k, n = k + 1 := ⟨n - 1, by omega⟩
    rw [fX0_costOfAll_L4.eq_2, gI_H1 hh, hR.1.2.1]
    simp (disch := omega) only [nI_leI]
    rw [if_pos (by omega), show i = H.1.2.1 by omega]
  | succ m ih =>
    intro i n hi hlt
    obtain ⟨n, rfl⟩ : ∃ k, n = k + 1 := ⟨n - 1, by omega⟩
    have hS := isS_of hh (show i < 4 by omega)
    rw [fX0_costOfAll_L4.eq_2, gI_H1 hh, hR.1.2.1]
    simp (disch := omega) only [nI_leI]
    rw [if_neg (by omega), gR_H4 hh, ldR_H hh (by omega), gI_S1 hS, (hR.2.2 i (by omega)).2.1, nI_add, show nI i + 1 = nI (i + 1) from nI_1 i]
    exact ih (i + 1) n (by omega) (by omega)
theorem x_costs {N h : Nat} {F : FF} {H : Hs} (hN : 1000 ≤ N) (hh : isH h) (hW : WH H) (hR : HR h F H) : fX0_costOfAll N h F = some (nI (sumTo (fun s => (H.2.1 s).1.2) H.1.2.1), F) :=
  x_costs_L hh hW hR H.1.2.1 0 N (by omega) (by have := hW.2.1; omega)
def oN : Option Nat → Nat
  | none => 0
  | some b => b
theorem x_wsum_L {N h : Nat} {F : FF} {H : Hs} (hh : isH h) (hW : WH H) (hA : ∀ i, i < H.1.2.2.1 → ∃ b, H.2.2 i = some b) (hR : HR h F H) : ∀ (m i n : Nat), i + m = H.1.2.2.1 → m < n → fX0_wantsSummed_L4 N h n (nI (sumTo (fun i => oN (H.2.2 i)) i)) (nI i) F = some (nI (sumTo (fun i => oN (H.2.2 i)) H.1.2.2.1), F) := by
  have w3 := hW.2.2.1
  intro m
  induction m with
  | zero =>
    intro i n hi hlt
    obtain ⟨n, rfl⟩ : ∃ k, n = k + 1 := ⟨n - 1, by omega⟩
    rw [fX0_wantsSummed_L4.eq_2, gI_H2 hh, hR.1.2.2.1]
    simp (disch := omega) only [nI_leI]
    rw [if_pos (by omega), show i = H.1.2.2.1 by omega]
  | succ m ih =>
    intro i n hi hlt
    obtain ⟨n, rfl⟩ : ∃ k, n = k + 1 := ⟨n - 1, by omega⟩
    obtain ⟨b, hb⟩ := hA i (by omega)
    have e : F (h + 2) i = nI (oN (H.2.2 i)) := by rw [hR.2.1 i (by omega), hb]; rfl
    rw [fX0_wantsSummed_L4.eq_2, gI_H2 hh, hR.1.2.2.1]
    simp (disch := omega) only [nI_leI]
    rw [if_neg (by omega), gR_H5 hh, ld_ok (aH2 hh) (by omega), e, nI_add, show nI i + 1 = nI (i + 1) from nI_1 i]
    exact ih (i + 1) n (by omega) (by omega)
theorem x_wsum {N h : Nat} {F : FF} {H : Hs} (hN : 1000 ≤ N) (hh : isH h) (hW : WH H) (hA : ∀ i, i < H.1.2.2.1 → ∃ b, H.2.2 i = some b) (hR : HR h F H) : fX0_wantsSummed N h F = some (nI (sumTo (fun i => oN (H.2.2 i)) H.1.2.2.1), F) :=
  x_wsum_L hh hW hA hR H.1.2.2.1 0 N (by omega) (by have := hW.2.2.1; omega)
/-! rows that are the same -/
def eqTo (r r' : Nat → Nat) : Nat → Nat → Bool
  | 0, _ => true
  | m + 1, i => if r i = r' i then eqTo r r' m (i + 1) else false
theorem eqTo_iff {r r' : Nat → Nat} : ∀ m i, eqTo r r' m i = true ↔ ∀ p, i ≤ p → p < i + m → r p = r' p
  | 0, i => by
    simp [eqTo]
    intro p h1 h2
    omega
  | m + 1, i => by
    unfold eqTo
    by_cases e : r i = r' i
    · rw [if_pos e, eqTo_iff m (i + 1)]
      constructor
      · intro h p h1 h2
        by_cases e2 : p = i
        · subst e2; exact e
        · exact h p (by omega) (by omega)
      · intro h p h1 h2
        exact h p (by omega) (by omega)
    · rw [if_neg e]
      constructor
      · intro h; cases h
      · intro h; exact absurd (h i (by omega) (by omega)) e
def bI (b : Bool) : Int32 := if b = true then 1 else 0
theorem x_standsS_L {N a a0 : Nat} {F : FF} {x y : Sh} (hS : isS a) (hS0 : isS a0) (hR : SR a F x) (hR0 : SR a0 F y) (hx : ∀ p, p < 6 → x.2.1 p < 6) (hy : ∀ p, p < 6 → y.2.1 p < 6) : ∀ m i n, i + m = 6 → m < n → fX4_standsAs_L2 N a a0 n (nI i) F = some (bI (eqTo x.2.1 y.2.1 m i), F) := by
  intro m
  induction m with
  | zero =>
    intro i n hi hn
    obtain ⟨n, rfl⟩ : ∃ k, n = k + 1 := ⟨n - 1, by omega⟩
    rw [fX4_standsAs_L2.eq_2]
    simp (disch := omega) only [il, nI_leI]
    rw [if_pos (by omega)]
    rfl
  | succ m ih =>
    intro i n hi hn
    obtain ⟨n, rfl⟩ : ∃ k, n = k + 1 := ⟨n - 1, by omega⟩
    have h1 := hx i (by omega)
    have h2 := hy i (by omega)
    rw [fX4_standsAs_L2.eq_2]
    simp (disch := omega) only [il, nI_leI]
    rw [if_neg (by omega), gR_S2 hS, ld_ok (aS1 hS) (by omega), gR_S2 hS0, ld_ok (aS1 hS0) (by omega), hR.2.2.1 i (by omega), hR0.2.2.1 i (by omega)]
    simp (disch := omega) only [nI_eq, nI_add]
    unfold eqTo
    by_cases e : x.2.1 i = y.2.1 i
    · rw [if_pos e, if_pos e]
      exact ih (i + 1) n (by omega) (by omega)
    · rw [if_neg e, if_neg e]
      rfl
theorem x_standsS {N a a0 : Nat} {F : FF} {x y : Sh} (hN : 1000 ≤ N) (hS : isS a) (hS0 : isS a0) (hR : SR a F x) (hR0 : SR a0 F y) (hx : ∀ p, p < 6 → x.2.1 p < 6) (hy : ∀ p, p < 6 → y.2.1 p < 6) : fX4_standsAs N a a0 F = some (bI (eqTo x.2.1 y.2.1 6 0), F) :=
  x_standsS_L hS hS0 hR hR0 hx hy 6 0 N rfl (by omega)
def allTo (f : Nat → Bool) : Nat → Nat → Bool
  | 0, _ => true
  | m + 1, i => if f i = true then allTo f m (i + 1) else false
theorem allTo_iff {f : Nat → Bool} : ∀ m i, allTo f m i = true ↔ ∀ p, i ≤ p → p < i + m → f p = true
  | 0, i => by
    simp [allTo]
    intro p h1 h2
    omega
  | m + 1, i => by
    unfold allTo
    by_cases e : f i = true
    · rw [if_pos e, allTo_iff m (i + 1)]
      constructor
      · intro h p h1 h2
        by_cases e2 : p = i
        · subst e2; exact e
        · exact h p (by omega) (by omega)
      · intro h p h1 h2
        exact h p (by omega) (by omega)
    · rw [if_neg e]
      constructor
      · intro h; cases h
      · intro h; exact absurd (h i (by omega) (by omega)) e
theorem x_standsH_L {N h h0 : Nat} {F : FF} {H H0 : Hs} (hN : 1000 ≤ N) (hh : isH h) (hh0 : isH h0) (hW : WH H) (hW0 : WH H0) (hR : HR h F H) (hR0 : HR h0 F H0) (he : H0.1.2.1 = H.1.2.1) : ∀ (m i n : Nat), i + m = H.1.2.1 → m < n → fX0_standsAs_L2 N h h0 n (nI i) F = some (bI (allTo (fun s => eqTo (H.2.1 s).2.1 (H0.2.1 s).2.1 6 0) m i), F) := by
  have w2 := hW.2.1
  intro m
  induction m with
  | zero =>
    intro i n hi hlt
    obtain ⟨n, rfl⟩ : ∃ k, n = k + 1 := ⟨n - 1, by omega⟩
    rw [fX0_standsAs_L2.eq_2, gI_H1 hh, hR.1.2.1]
    simp (disch := omega) only [nI_leI]
    rw [if_pos (by omega)]
    rfl
  | succ m ih =>
    intro i n hi hlt
    obtain ⟨n, rfl⟩ : ∃ k, n = k + 1 := ⟨n - 1, by omega⟩
    have hS := isS_of hh (show i < 4 by omega)
    have hS0 := isS_of hh0 (show i < 4 by omega)
    rw [fX0_standsAs_L2.eq_2, gI_H1 hh, hR.1.2.1]
    simp (disch := omega) only [nI_leI]
    rw [if_neg (by omega), gR_H4 hh, ldR_H hh (by omega), gR_H4 hh0, ldR_H hh0 (by omega), x_standsS hN hS hS0 (hR.2.2 i (by omega)) (hR0.2.2 i (by omega)) (hW.2.2.2.2.2 i (by omega)).2.1 (hW0.2.2.2.2.2 i (by omega)).2.1, cal_some (okC_S hS)]
    unfold allTo
    by_cases e : eqTo (H.2.1 i).2.1 (H0.2.1 i).2.1 6 0 = true
    · rw [if_pos e, show bI (eqTo (H.2.1 i).2.1 (H0.2.1 i).2.1 6 0) = 1 from if_pos e, if_pos (by decide), show nI i + 1 = nI (i + 1) from nI_1 i]
      exact ih (i + 1) n (by omega) (by omega)
    · rw [if_neg e, show bI (eqTo (H.2.1 i).2.1 (H0.2.1 i).2.1 6 0) = 0 from if_neg e, if_neg (by decide)]
      rfl
theorem x_standsH {N h h0 : Nat} {F : FF} {H H0 : Hs} (hN : 1000 ≤ N) (hh : isH h) (hh0 : isH h0) (hW : WH H) (hW0 : WH H0) (hR : HR h F H) (hR0 : HR h0 F H0) (he : H0.1.2.1 = H.1.2.1) : fX0_standsAs N h h0 F = some (bI (allTo (fun s => eqTo (H.2.1 s).2.1 (H0.2.1 s).2.1 6 0) H.1.2.1 0), F) :=
  x_standsH_L hN hh hh0 hW hW0 hR hR0 he H.1.2.1 0 N (by omega) (by have := hW.2.1; omega)
