/-! THE REFERENCE'S PAGES: a book is asked for, steps -/
theorem QR.same {pg s : Nat} {F F' : FF} {x : Sh} (h : QR pg s F x) (h0 : F' 83 (pg + s) = F 83 (pg + s)) (h1 : F' 83 (pg + 4 + s) = F 83 (pg + 4 + s)) (h2 : ∀ p, p < 6 → F' 83 (pg + 27 + 6 * s + p) = F 83 (pg + 27 + 6 * s + p)) (h3 : ∀ p, p < 6 → F' 83 (pg + 51 + 6 * s + p) = F 83 (pg + 51 + 6 * s + p)) : QR pg s F' x :=
  ⟨h0.trans h.1, h1.trans h.2.1, fun p hp => (h2 p hp).trans (h.2.2.1 p hp), fun p hp => (h3 p hp).trans (h.2.2.2 p hp)⟩
theorem PR.up {pg s : Nat} {F F' : FF} {H : Hs} {x : Sh} (hR : PR pg F H) (hw : H.1.2.2.1 ≤ 16) (hs4 : H.1.2.1 ≤ 4) (hs : s < H.1.2.1) (hx : QR pg s F' x) (h82 : ∀ k, k ≠ 18 → k ≠ 19 → F' 82 k = F 82 k) (hf : ∀ k, k ≠ pg + s → k ≠ pg + 4 + s → (k < pg + 27 + 6 * s ∨ pg + 33 + 6 * s ≤ k) → (k < pg + 51 + 6 * s ∨ pg + 57 + 6 * s ≤ k) → F' 83 k = F 83 k) : PR pg F' (upS H s x) := by
  obtain ⟨⟨a1, a2, a3, a4⟩, a5, a6⟩ := hR
  refine ⟨⟨(h82 1 (by omega) (by omega)).trans a1, (hf _ (by omega) (by omega) (by omega) (by omega)).trans a2, (hf _ (by omega) (by omega) (by omega) (by omega)).trans a3, (hf _ (by omega) (by omega) (by omega) (by omega)).trans a4⟩, fun i hi => ?_, fun s' hs' => ?_⟩
  · have hi : i < H.1.2.2.1 := hi
    exact (a5 i hi).same (hf _ (by omega) (by omega) (by omega) (by omega)) (h82 20 (by omega) (by omega))
  · have hs' : s' < H.1.2.1 := hs'
    show QR pg s' F' (if s' = s then x else H.2.1 s')
    by_cases e : s' = s
    · subst e; rw [if_pos rfl]; exact hx
    · rw [if_neg e]
      exact (a6 s' hs').same (hf _ (by omega) (by omega) (by omega) (by omega)) (hf _ (by omega) (by omega) (by omega) (by omega)) (fun p hp => hf _ (by omega) (by omega) (by omega) (by omega)) (fun p hp => hf _ (by omega) (by omega) (by omega) (by omega))
theorem PR.cg {pg : Nat} {F : FF} {H H' : Hs} (hR : PR pg F H) (h1 : H'.1 = H.1) (h2 : H'.2.2 = H.2.2) (h3 : ∀ s, s < H.1.2.1 → H'.2.1 s = H.2.1 s) : PR pg F H' := by
  obtain ⟨a1, a5, a6⟩ := hR
  unfold PR
  rw [h1, h2]
  exact ⟨a1, a5, fun s hs => by rw [h3 s hs]; exact a6 s hs⟩
/-- what is counted beside: paid by each, the dearest, the moves -/
def ACC (F : FF) (P : Nat → Nat) (D M : Nat) : Prop := (∀ s, s < 4 → F 88 s = nI (P s)) ∧ F 82 18 = nI D ∧ F 82 19 = nI M
theorem y_pay {k p : Nat} (hk : k ≤ 3) (hp : p < 6) : ((nI p + 1) + (if ¬ nI k = 2 then (0 : Int32) else (if nI p ≤ 0 then 0 else 1))) = nI (pay k p) := by
  unfold pay
  simp (disch := omega) only [il, nI_eq, nI_leI]
  by_cases h2 : k = 2
  · subst h2
    simp only [not_true_eq_false, if_false, true_and]
    by_cases h0 : p = 0
    · subst h0; rfl
    · rw [if_neg (by omega), if_pos (by omega)]; simp only [nI_add]
  · rw [if_pos h2, if_neg (by omega)]; simp only [nI_add]
theorem y_asks_L {N pg b : Nat} {H : Hs} (hN : 1000 ≤ N) (hp : pg ≤ 375) (hW : WH H) (hb : b < H.1.1) : ∀ (m i n : Nat) (F : FF), i + m = H.1.2.1 → m < n → PR pg F (mixS H i (fun s => srv (H.2.1 s) b)) → ∃ F', fX7_asksOn_L5 N (nI pg) (nI b) n (nI (sumTo (fun s => pyS (H.2.1 s) b) i)) (nI i) F = some (nI (sumTo (fun s => pyS (H.2.1 s) b) H.1.2.1), F') ∧ PR pg F' (srvH H b) ∧ FrA pg F F' ∧ ∀ (P : Nat → Nat) (D M : Nat), D ≤ 7 → ACC F (fun s => P s + if s < i then pyS (H.2.1 s) b else 0) (max D (mxTo (fun s => pyS (H.2.1 s) b) i)) (M + sumTo (fun s => mvo (some b) (H.2.1 s)) i) → ACC F' (fun s => P s + if s < H.1.2.1 then pyS (H.2.1 s) b else 0) (max D (mxTo (fun s => pyS (H.2.1 s) b) H.1.2.1)) (M + sumTo (fun s => mvo (some b) (H.2.1 s)) H.1.2.1) := by
  obtain ⟨w1, w2, w3, w4, w5, w6⟩ := id hW
  intro m
  induction m with
  | zero =>
    intro i n F hi hlt hR
    obtain ⟨n, rfl⟩ : ∃ k, n = k + 1 := ⟨n - 1, by omega⟩
    have hii : i = H.1.2.1 := by omega
    rw [fX7_asksOn_L5.eq_2]
    simp only [il, nI_add]
    rw [ld_ok a83 (by omega), hR.1.2.1]
    simp (disch := omega) only [nI_leI, mixS]
    rw [if_pos (by omega), hii]
    refine ⟨F, rfl, hR.cg rfl rfl (fun s hs => ?_), FrA.rf, fun P D M _ h => h⟩
    show srv (H.2.1 s) b = if s < i then _ else _
    rw [if_pos (show s < i by have : s < H.1.2.1 := hs; omega)]
  | succ m ih =>
    intro i n F hi hlt hR
    obtain ⟨n, rfl⟩ : ∃ k, n = k + 1 := ⟨n - 1, by omega⟩
    have hs : i < H.1.2.1 := by omega
    have hWS := w6 i hs
    obtain ⟨q1, q2, q3, q4⟩ := (show QR pg i F (H.2.1 i) from by have := hR.2.2 i hs; rw [mixS_at (Nat.le_refl i)] at this; exact this)
    have h82 : F 82 1 = nI H.1.1 := hR.1.1
    have hpl := plc_le (H.2.1 i).2.1 b
    have hat := hWS.at (show b < 6 by omega)
    have hq9 := hWS.2.2.2.2.2 b (by omega)
    have hc9 := hWS.1.2
    have hpy : pyS (H.2.1 i) b ≤ 7 := pay_le (by omega)
    have hgl := gol_le (H.2.1 i).1.1 (inc (H.2.1 i).2.2 b) (H.2.1 i).2.1 b (plc (H.2.1 i).2.1 b)
    rw [fX7_asksOn_L5.eq_2]
    have ad1 : nI pg + 8 = nI (pg + 8) := nI_add pg 8
    have ad2 : nI pg + nI i = nI (pg + i) := nI_add pg i
    have ad3 : nI pg + 4 + nI i = nI (pg + 4 + i) := by rw [show nI pg + 4 = nI (pg + 4) from nI_add pg 4, nI_add]
    have ad4 : nI pg + 51 + 6 * nI i + nI b = nI (pg + 51 + 6 * i + b) := by rw [show nI pg + 51 = nI (pg + 51) from nI_add pg 51, show 6 * nI i = nI (6 * i) from nI_mul 6 i, nI_add, nI_add]
    have ad5 : nI i + 1 = nI (i + 1) := nI_1 i
    have hRns : F 83 (pg + 8) = nI H.1.2.1 := hR.1.2.1
    simp only [ad1, ad2, ad3, ad4, ad5]
    rw [ld_ok a83 (by omega), hRns, if_neg (by simp (disch := omega) only [nI_leI]; omega), y_place hN hp (by omega) h82 q3 hWS w1.2 hb, bnd_some, ld_ok a83 (by omega), q1, ld_ok a83 (by omega), q2, st_ok a83 (by omega)]
    have epay : ((nI (plc (H.2.1 i).2.1 b) + 1) + (if ¬ nI (H.2.1 i).1.1 = 2 then (0 : Int32) else (if nI (plc (H.2.1 i).2.1 b) ≤ 0 then 0 else 1))) = nI (pyS (H.2.1 i) b) := y_pay hWS.1.1 (by omega)
    simp only [epay]
    have ecost : (if nI (H.2.1 i).1.2 + nI (pyS (H.2.1 i) b) ≤ 99999 then nI (H.2.1 i).1.2 + nI (pyS (H.2.1 i) b) else (99999 : Int32)) = nI (srv (H.2.1 i) b).1.2 := by
      show _ = nI (if (H.2.1 i).1.2 + pyS (H.2.1 i) b ≤ 99999 then (H.2.1 i).1.2 + pyS (H.2.1 i) b else 99999)
      simp (disch := omega) only [il, nI_add, nI_leI]
      split <;> rfl
    rw [ecost]
    generalize hF1 : fput F 83 (pg + 4 + i) (nI (srv (H.2.1 i) b).1.2) = F1
    have f1 : ∀ k, k ≠ pg + 4 + i → F1 83 k = F 83 k := fun k hk => by rw [← hF1, fpu, if_neg (by omega)]
    have f2 : ∀ c, c ≠ 83 → F1 c = F c := fun c hc => by rw [← hF1, fput_a hc]
    have f3 : F1 83 (pg + 4 + i) = nI (srv (H.2.1 i) b).1.2 := by rw [← hF1, fpu, if_pos ⟨rfl, rfl⟩]
    rw [ld_ok a83 (by omega), ld_ok a83 (by omega), f1 _ (by omega), q4 b (by omega), st_ok a83 (by omega)]
    have easked : nI ((H.2.1 i).2.2 b) + (if 99 ≤ nI ((H.2.1 i).2.2 b) then (0 : Int32) else 1) = nI (inc (H.2.1 i).2.2 b b) := by
      unfold inc
      simp (disch := omega) only [il, nI_leI, if_true]
      by_cases h : 99 ≤ (H.2.1 i).2.2 b
      · rw [if_pos h, if_neg (by omega), nI_add]; congr 1; omega
      · rw [if_neg h, if_pos (by omega), nI_add]
    rw [easked]
    generalize hF2 : fput F1 83 (pg + 51 + 6 * i + b) (nI (inc (H.2.1 i).2.2 b b)) = F2
    have g1 : ∀ k, k ≠ pg + 4 + i → k ≠ pg + 51 + 6 * i + b → F2 83 k = F 83 k := fun k hk hk2 => by rw [← hF2, fpu, if_neg (by omega), f1 k hk]
    have g2 : ∀ c, c ≠ 83 → F2 c = F c := fun c hc => by rw [← hF2, fput_a hc, f2 c hc]
    have g3 : F2 83 (pg + 4 + i) = nI (srv (H.2.1 i) b).1.2 := by rw [← hF2, fpu, if_neg (by omega), f3]
    have g4 : ∀ p, p < 6 → F2 83 (pg + 51 + 6 * i + p) = nI (inc (H.2.1 i).2.2 b p) := fun p hp6 => by
      by_cases e : p = b
      · subst e; rw [← hF2, fpu, if_pos ⟨rfl, rfl⟩]
      · rw [g1 _ (by omega) (by omega), q4 p hp6]
        unfold inc
        rw [if_neg e]
    have g5 : ∀ p, p < 6 → F2 83 (pg + 27 + 6 * i + p) = nI ((H.2.1 i).2.1 p) := fun p hp6 => by rw [g1 _ (by omega) (by omega)]; exact q3 p hp6
    have g6 : F2 83 (pg + i) = nI (H.2.1 i).1.1 := by rw [g1 _ (by omega) (by omega)]; exact q1
    rw [y_goal (b := b) hN hp (by omega) g6 hWS.1.1 g5 g4 hWS.2.1 (fun p hp6 => inc_le (hWS.2.2.2.2.2 p hp6)) hat (by omega) (by omega), bnd_some, show gol (H.2.1 i).1.1 (inc (H.2.1 i).2.2 b) (H.2.1 i).2.1 b (plc (H.2.1 i).2.1 b) = goS (H.2.1 i) b from rfl]
    have hgo : goS (H.2.1 i) b ≤ 5 := by unfold goS; omega
    obtain ⟨F3, k1, k2, k3, k4⟩ := y_stands (F := F2) (r := (H.2.1 i).2.1) (f := plc (H.2.1 i).2.1 b) (t := goS (H.2.1 i) b) hN hp (show i < 4 by omega) (by omega) (by omega) g5
    rw [k1, bnd_some, ld_ok a88 (by omega), st_ok a88 (by omega), nmE, nmE, nI_add]
    have hQ : QR pg i F3 (srv (H.2.1 i) b) := ⟨by rw [k4 _ (by omega)]; exact g6, by rw [k4 _ (by omega)]; exact g3, k2, fun p hp6 => by rw [k4 _ (by omega)]; exact g4 p hp6⟩
    generalize hF4 : fput F3 88 i (F3 88 i + nI (pyS (H.2.1 i) b)) = F4
    have l1 : F4 83 = F3 83 := by rw [← hF4, fput_a (by omega)]
    have l2 : F4 82 = F3 82 := by rw [← hF4, fput_a (by omega)]
    generalize hF5 : fput F4 82 18 (if nI (pyS (H.2.1 i) b) ≤ F4 82 18 then F4 82 18 else nI (pyS (H.2.1 i) b)) = F5
    generalize hF6 : fput F5 82 19 (F5 82 19 + if ¬ nI (goS (H.2.1 i) b) = nI (plc (H.2.1 i).2.1 b) then (1 : Int32) else 0) = F6
    have m1 : F6 83 = F3 83 := by rw [← hF6, fput_a (by omega), ← hF5, fput_a (by omega), l1]
    have m2 : ∀ k, k ≠ 18 → k ≠ 19 → F6 82 k = F 82 k := fun k h18 h19 => by rw [← hF6, fpu, if_neg (by omega), ← hF5, fpu, if_neg (by omega), l2, k3 82 (by omega), g2 82 (by omega)]
    have m3 : ∀ c, c ≠ 83 → c ≠ 82 → c ≠ 88 → F6 c = F c := fun c h3 h2 h8 => by rw [← hF6, fput_a h2, ← hF5, fput_a h2, ← hF4, fput_a h8, k3 c h3, g2 c h3]
    have m4 : F6 88 = F4 88 := by rw [← hF6, fput_a (by omega), ← hF5, fput_a (by omega)]
    have hQ6 : QR pg i F6 (srv (H.2.1 i) b) := hQ.same (by rw [m1]) (by rw [m1]) (fun _ _ => by rw [m1]) (fun _ _ => by rw [m1])
    have hup := hR.up (s := i) (F' := F6) w3 w2 hs hQ6 m2 (fun k h1 h2 h3 h4 => by rw [m1, k4 k (by omega), g1 k (by omega) (by omega)])
    rw [mixS_up (g := fun s => srv (H.2.1 s) b)] at hup
    obtain ⟨F', z1, z2, z3, z4⟩ := ih (i + 1) n F6 (by omega) (by omega) hup
    refine ⟨F', z1, z2, (show FrA pg F F6 from ⟨m3, m2, fun k hk => by rw [m1, k4 k (by omega), g1 k (by omega) (by omega)]⟩).tr z3, fun P D M hD hA => z4 P D M hD ?_⟩
    obtain ⟨b1, b2, b3⟩ := hA
    have hmx : mxTo (fun s => pyS (H.2.1 s) b) i ≤ 7 := mxTo_le i (fun s _ => pyo_le (nb := 0) (o := some b))
    have e88 : F3 88 = F 88 := by rw [k3 88 (by omega), g2 88 (by omega)]
    have e82 : F3 82 = F 82 := by rw [k3 82 (by omega), g2 82 (by omega)]
    refine ⟨fun s hs4 => ?_, ?_, ?_⟩
    · rw [m4, ← hF4, fpu, e88]
      by_cases e : s = i
      · subst e
        have := b1 s hs4
        rw [if_pos ⟨rfl, rfl⟩, this]
        simp only [nI_add, if_neg (Nat.lt_irrefl s), if_pos (Nat.lt_succ_self s)]
        rfl
      · rw [if_neg (by omega), b1 s hs4]
        congr 1
        show P s + (if s < i then _ else 0) = P s + (if s < i + 1 then _ else 0)
        by_cases e2 : s < i
        · rw [if_pos e2, if_pos (by omega)]
        · rw [if_neg e2, if_neg (by omega)]
    · rw [← hF6, fpu, if_neg (by omega), ← hF5, fpu, if_pos ⟨rfl, rfl⟩, l2, e82, b2]
      simp (disch := omega) only [nI_leI]
      show _ = nI (max D (max (mxTo (fun s => pyS (H.2.1 s) b) i) (pyS (H.2.1 i) b)))
      split <;> (congr 1; omega)
    · rw [← hF6, fpu, if_pos ⟨rfl, rfl⟩, ← hF5, fpu, if_neg (by omega), l2, e82, b3]
      simp (disch := omega) only [il, nI_eq]
      show _ = nI (M + (sumTo (fun s => mvo (some b) (H.2.1 s)) i + if goS (H.2.1 i) b = plc (H.2.1 i).2.1 b then 0 else 1))
      by_cases hc : goS (H.2.1 i) b = plc (H.2.1 i).2.1 b
      · rw [if_neg (by omega), if_pos hc, nI_add]; rfl
      · rw [if_pos hc, if_neg hc, nI_add]; rfl
theorem y_asks {N pg b : Nat} {F : FF} {H : Hs} (hN : 1000 ≤ N) (hp : pg ≤ 375) (hR : PR pg F H) (hW : WH H) (hb : b < H.1.1) : ∃ F', fX7_asksOn N (nI pg) (nI b) F = some (nI (sumTo (fun s => pyS (H.2.1 s) b) H.1.2.1), F') ∧ PR pg F' (srvH H b) ∧ FrA pg F F' ∧ ∀ (P : Nat → Nat) (D M : Nat), D ≤ 7 → ACC F P D M → ACC F' (fun s => P s + if s < H.1.2.1 then pyS (H.2.1 s) b else 0) (max D (mxTo (fun s => pyS (H.2.1 s) b) H.1.2.1)) (M + sumTo (fun s => mvo (some b) (H.2.1 s)) H.1.2.1) := by
  obtain ⟨F', z1, z2, z3, z4⟩ := y_asks_L hN hp hW hb H.1.2.1 0 N F (by omega) (by have := hW.2.1; omega) (by rw [mixS_0]; exact hR)
  refine ⟨F', z1, z2, z3, fun P D M hD hA => z4 P D M hD ?_⟩
  have e1 : (fun s => P s + if s < 0 then pyS (H.2.1 s) b else 0) = P := by funext s; rw [if_neg (by omega)]; rfl
  have e2 : max D (mxTo (fun s => pyS (H.2.1 s) b) 0) = D := by show max D 0 = D; omega
  rw [e1, e2]
  exact hA
theorem ne_m4 {a : Nat} (h : a < 2 ^ 31) : ¬ nI a = (-4) := nI_neg_ne (k := 4) h (by omega) (by omega)
/-! steps of a page -/
theorem y_turn {N pg : Nat} {F : FF} {H : Hs} (hp : pg ≤ 375) (hR : PR pg F H) (hW : WH H) : fX7_turnOn N (nI pg) F = some (tnV H 0, F) := by
  obtain ⟨⟨a1, a2, a3, a4⟩, a5, a6⟩ := hR
  obtain ⟨w1, w2, w3, w4, w5, w6⟩ := hW
  unfold fX7_turnOn tnV
  rw [show nI pg + 25 = nI (pg + 25) from nI_add pg 25, show nI pg + 26 = nI (pg + 26) from nI_add pg 26, ld_ok a83 (by omega), a3]
  by_cases e : H.1.2.2.1 = 0
  · rw [e, if_neg (by decide), if_pos rfl]
  · rw [if_pos (by simp (disch := omega) only [il, nI_eq]; omega), if_neg e, ld_ok a83 (by omega), ld_ok a83 (by omega), a3, a4, dv_ok (by simp (disch := omega) only [il, nI_eq]; omega), irem_nI (by omega) (by omega) (by omega)]
    rfl
/-- the step goes on -/
def stH (H : Hs) : Hs := ((H.1.1, H.1.2.1, H.1.2.2.1, H.1.2.2.2 + 1), H.2.1, H.2.2)
theorem y_step41 {N pg : Nat} {F : FF} {H : Hs} (hp : pg ≤ 375) (hR : PR pg F H) (hW : WH H) : ∃ F', fX7_stepOn_b41 N (nI pg) F = some ((), F') ∧ PR pg F' (stH H) ∧ FrA pg F F' ∧ ∀ (P : Nat → Nat) (D M : Nat), ACC F P D M → ACC F' P D M := by
  obtain ⟨⟨a1, a2, a3, a4⟩, a5, a6⟩ := hR
  obtain ⟨w1, w2, w3, w4, w5, w6⟩ := hW
  unfold fX7_stepOn_b41
  rw [show nI pg + 26 = nI (pg + 26) from nI_add pg 26, ld_ok a83 (by omega), a4, st_ok a83 (by omega), show nI H.1.2.2.2 + 1 = nI (H.1.2.2.2 + 1) from nI_1 _]
  have e83 : ∀ k, k ≠ pg + 26 → fput F 83 (pg + 26) (nI (H.1.2.2.2 + 1)) 83 k = F 83 k := fun k hk => by rw [fpu, if_neg (by omega)]
  have e8 : ∀ c, c ≠ 83 → fput F 83 (pg + 26) (nI (H.1.2.2.2 + 1)) c = F c := fun c hc => fput_a hc
  refine ⟨_, rfl, ⟨⟨by rw [e8 82 (by omega)]; exact a1, by rw [e83 _ (by omega)]; exact a2, by rw [e83 _ (by omega)]; exact a3, by rw [fpu, if_pos ⟨rfl, rfl⟩]; rfl⟩, fun i hi => ?_, fun s hs => ?_⟩, ⟨fun c h1 _ _ => e8 c h1, fun k _ _ => by rw [e8 82 (by omega)], fun k hk => e83 k (by omega)⟩, fun P D M h => ?_⟩
  · have hi : i < H.1.2.2.1 := hi
    exact (a5 i hi).same (e83 _ (by omega)) (by rw [e8 82 (by omega)])
  · have hs : s < H.1.2.1 := hs
    exact (a6 s hs).same (e83 _ (by omega)) (e83 _ (by omega)) (fun p hp => e83 _ (by omega)) (fun p hp => e83 _ (by omega))
  · unfold ACC
    rw [e8 88 (by omega), e8 82 (by omega)]
    exact h
theorem accz {F : FF} {P : Nat → Nat} {D M : Nat} (h : ACC F P D M) {ns : Nat} {f g : Nat → Nat} (hf : ∀ s, s < ns → f s = 0) (hg : ∀ s, s < ns → g s = 0) : ACC F (fun s => P s + if s < ns then f s else 0) (max D (mxTo f ns)) (M + sumTo g ns) := by
  have e1 : (fun s => P s + if s < ns then f s else 0) = P := by
    funext s
    by_cases e : s < ns
    · rw [if_pos e, hf s e]; rfl
    · rw [if_neg e]; rfl
  have e2 : ∀ n, n ≤ ns → mxTo f n = 0 := by
    intro n
    induction n with
    | zero => intro _; rfl
    | succ n ih => intro h; show max (mxTo f n) (f n) = 0; rw [ih (by omega), hf n (by omega)]; rfl
  have e3 : sumTo g ns = 0 := by
    have := sumTo_le (f := g) (c := 0) ns (fun i hi => by rw [hg i hi]; exact Nat.le_refl _)
    omega
  rw [e1, e2 ns (Nat.le_refl _), e3]
  have : max D 0 = D := by omega
  rw [this]
  exact h
/-- a step of a page; with nothing, if none is set -/
def stpO (H : Hs) (z : Bool) : Hs := ((H.1.1, H.1.2.1, H.1.2.2.1, H.1.2.2.2 + 1), (fun s => adv (if z = true then none else wAt H 0) (H.2.1 s)), H.2.2)
theorem y_step {N pg : Nat} {F : FF} {H : Hs} {z : Bool} (hN : 1000 ≤ N) (hp : pg ≤ 375) (hR : PR pg F H) (hW : WH H) : ∃ F', fX7_stepOn N (nI pg) (bI z) F = some ((), F') ∧ PR pg F' (stpO H z) ∧ FrA pg F F' ∧ ∀ (P : Nat → Nat) (D M : Nat), D ≤ 7 → ACC F P D M → ACC F' (fun s => P s + if s < H.1.2.1 then pyo (if z = true then none else wAt H 0) (H.2.1 s) else 0) (max D (mxTo (fun s => pyo (if z = true then none else wAt H 0) (H.2.1 s)) H.1.2.1)) (M + sumTo (fun s => mvo (if z = true then none else wAt H 0) (H.2.1 s)) H.1.2.1) := by
  obtain ⟨⟨a1, a2, a3, a4⟩, a5, a6⟩ := id hR
  obtain ⟨w1, w2, w3, w4, w5, w6⟩ := id hW
  have hnone : (if z = true then none else wAt H 0) = none → ∃ F', fX7_stepOn_b41 N (nI pg) F = some ((), F') ∧ PR pg F' (stpO H z) ∧ FrA pg F F' ∧ ∀ (P : Nat → Nat) (D M : Nat), D ≤ 7 → ACC F P D M → ACC F' (fun s => P s + if s < H.1.2.1 then pyo (if z = true then none else wAt H 0) (H.2.1 s) else 0) (max D (mxTo (fun s => pyo (if z = true then none else wAt H 0) (H.2.1 s)) H.1.2.1)) (M + sumTo (fun s => mvo (if z = true then none else wAt H 0) (H.2.1 s)) H.1.2.1) := by
    intro e
    obtain ⟨F', z1, z2, z3, z4⟩ := y_step41 (N := N) hp hR hW
    refine ⟨F', z1, ?_, z3, fun P D M hD h => ?_⟩
    · unfold stpO
      rw [e]
      exact z2
    · rw [e]
      exact accz (z4 P D M h) (fun _ _ => rfl) (fun _ _ => rfl)
  unfold fX7_stepOn
  rw [y_turn hp hR hW, bnd_some]
  unfold tnV
  by_cases e : H.1.2.2.1 = 0
  · have e2 : wAt H 0 = none := if_pos e
    rw [if_pos e, if_pos rfl]
    exact hnone (by rw [e2]; split <;> rfl)
  · have hm : (H.1.2.2.2 + 0) % H.1.2.2.1 < H.1.2.2.1 := Nat.mod_lt _ (by omega)
    have e2 : wAt H 0 = H.2.2 ((H.1.2.2.2 + 0) % H.1.2.2.1) := if_neg e
    have hw := a5 _ hm
    rw [if_neg e, if_neg (ne_m4 (a := (H.1.2.2.2 + 0) % H.1.2.2.1) (by omega))]
    cases ho : H.2.2 ((H.1.2.2.2 + 0) % H.1.2.2.1) with
    | none =>
      rw [ho] at hw
      have hw : F 82 20 = nI ((H.1.2.2.2 + 0) % H.1.2.2.1) := hw
      rw [if_pos hw.symm]
      exact hnone (by rw [e2, ho]; split <;> rfl)
    | some b =>
      rw [ho] at hw
      obtain ⟨hw1, hw2⟩ := (show F 83 (pg + 9 + (H.1.2.2.2 + 0) % H.1.2.2.1) = nI b ∧ ¬ F 82 20 = nI ((H.1.2.2.2 + 0) % H.1.2.2.1) from hw)
      rw [if_neg (fun h => hw2 h.symm)]
      cases z with
      | true =>
        rw [if_pos (by decide)]
        exact hnone rfl
      | false =>
        have hb := w5 _ hm b ho
        rw [if_neg (by decide), show nI pg + 9 + nI ((H.1.2.2.2 + 0) % H.1.2.2.1) = nI (pg + 9 + (H.1.2.2.2 + 0) % H.1.2.2.1) by rw [show nI pg + 9 = nI (pg + 9) from nI_add pg 9, nI_add], ld_ok a83 (by omega), hw1]
        obtain ⟨F1, z1, z2, z3, z4⟩ := y_asks (b := b) hN hp hR hW hb
        rw [z1, bnd_some]
        obtain ⟨F2, y1, y2, y3, y4⟩ := y_step41 (N := N) hp z2 (hW.srv hb)
        have ew : (if false = true then none else wAt H 0) = some b := by rw [e2, ho]; rfl
        refine ⟨F2, y1, ?_, z3.tr y3, fun P D M hD h => ?_⟩
        · unfold stpO
          rw [ew]
          exact y2
        · rw [ew]
          exact y4 _ _ _ (z4 P D M hD h)
