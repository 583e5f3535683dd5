/-! QUESTIONS: when all comes again -/
theorem tn_eq {H : Hs} {k : Nat} (hW : WH H) (hk : H.1.2.2.2 + k ≤ 20000) : tnV (runH H k) 0 = tnV H 0 ↔ (H.1.2.2.1 = 0 ∨ k % H.1.2.2.1 = 0) := by
  have w3 := hW.2.2.1
  have w4 := hW.2.2.2.1
  unfold tnV runH
  show (if H.1.2.2.1 = 0 then (-4 : Int32) else nI ((H.1.2.2.2 + k + 0) % H.1.2.2.1)) = (if H.1.2.2.1 = 0 then (-4 : Int32) else nI ((H.1.2.2.2 + 0) % H.1.2.2.1)) ↔ _
  by_cases e : H.1.2.2.1 = 0
  · rw [if_pos e, if_pos e]
    exact ⟨fun _ => Or.inl e, fun _ => rfl⟩
  · rw [if_neg e, if_neg e]
    have m1 : (H.1.2.2.2 + k + 0) % H.1.2.2.1 < H.1.2.2.1 := Nat.mod_lt _ (by omega)
    have m2 : (H.1.2.2.2 + 0) % H.1.2.2.1 < H.1.2.2.1 := Nat.mod_lt _ (by omega)
    rw [nI_eq (by omega) (by omega)]
    simp only [Nat.add_zero]
    constructor
    · intro h
      right
      have h2 := Nat.sub_mod_eq_zero_of_mod_eq h
      rw [Nat.add_sub_cancel_left] at h2
      exact h2
    · intro h
      rcases h with h | h
      · exact absurd h e
      · rw [Nat.add_mod, h, Nat.add_zero, Nat.mod_mod]
theorem eqTo_nb {nb : Nat} {x y : Sh} (hx : WS nb x) (hy : WS nb y) (hn : nb ≤ 6) : eqTo x.2.1 y.2.1 6 0 = eqTo x.2.1 y.2.1 nb 0 := by
  have h : eqTo x.2.1 y.2.1 6 0 = true ↔ eqTo x.2.1 y.2.1 nb 0 = true := by
    rw [eqTo_iff, eqTo_iff]
    constructor
    · intro h p h1 h2; exact h p h1 (by omega)
    · intro h p h1 h2
      by_cases e : p < nb
      · exact h p h1 (by omega)
      · rw [hx.2.2.2.2.1 p (by omega) (by omega), hy.2.2.2.2.1 p (by omega) (by omega)]
  cases h1 : eqTo x.2.1 y.2.1 6 0 <;> cases h2 : eqTo x.2.1 y.2.1 nb 0
  · rfl
  · rw [h1, h2] at h; simp at h
  · rw [h1, h2] at h; simp at h
  · rfl
/-- all is as it is now, k steps on -/
def agB (H : Hs) (k : Nat) : Bool := decide (H.1.2.2.1 = 0 ∨ k % H.1.2.2.1 = 0) && allTo (fun s => eqTo (stS (wAt H) (H.2.1 s) k).2.1 (H.2.1 s).2.1 H.1.1 0) H.1.2.1 0
def agN (H : Hs) : Nat → Nat → Option Nat
  | 0, _ => none
  | m + 1, i => if agB H i = true then some i else agN H m (i + 1)
theorem allTo_cg {f g : Nat → Bool} : ∀ m i, (∀ p, i ≤ p → p < i + m → f p = g p) → allTo f m i = allTo g m i
  | 0, _, _ => rfl
  | m + 1, i, h => by
    unfold allTo
    rw [h i (by omega) (by omega), allTo_cg m (i + 1) (fun p h1 h2 => h p (by omega) (by omega))]
theorem x_again_L {N : Nat} {H : Hs} (hN : 1000 ≤ N) (hW : WH H) (hst : H.1.2.2.2 ≤ 10000) : ∀ (m i n : Nat) (F : FF), i + m = 201 → 1 ≤ i → m < n → HR 16 F (runH H (i - 1)) → HR 1 F H → ∃ F1, fX6_again_L13 N n (nI i) F = some (oI (agN H m i), F1) ∧ FrH 16 F F1 := by
  obtain ⟨w1, w2, w3, w4, w5, w6⟩ := id hW
  intro m
  induction m with
  | zero =>
    intro i n F hi h1 hn hR hR1
    obtain ⟨n, rfl⟩ : ∃ k, n = k + 1 := ⟨n - 1, by omega⟩
    rw [fX6_again_L13.eq_2, if_pos (by simp (disch := omega) only [il, nI_ltI]; omega)]
    exact ⟨F, rfl, FrH.rf⟩
  | succ m ih =>
    intro i n F hi h1 hn hR hR1
    obtain ⟨n, rfl⟩ : ∃ k, n = k + 1 := ⟨n - 1, by omega⟩
    obtain ⟨F1, e1, e2, e3⟩ := x_stepOn (N := N) hN iH16 hR (hW.run (n := i - 1) (by omega)) (show H.1.2.2.2 + (i - 1) < 20000 by omega)
    rw [runH_s, show i - 1 + 1 = i by omega] at e2
    have hR1' : HR 1 F1 H := hR1.keep w2 (fun c _ _ => e3 c (by omega))
    have hWr : WH (runH H i) := hW.run (n := i) (by omega)
    rw [fX6_again_L13.eq_2, if_neg (by simp (disch := omega) only [il, nI_ltI]; omega), e1, bnd_some, show (0 : Int32) = nI 0 from rfl, x_turn iH16 e2 hWr (by omega), bnd_some, x_turn iH1 hR1' hW (by omega), bnd_some]
    have hrest : ∀ F2, F2 = F1 → agB H i = false → ∃ F3, fX6_again_b63 N (fun x1 F => fX6_again_L13 N n x1 F) (nI i) F2 = some (oI (agN H (m + 1) i), F3) ∧ FrH 16 F F3 := by
      intro F2 e hb
      subst e
      obtain ⟨F3, g1, g2⟩ := ih (i + 1) n F2 (by omega) (by omega) (by omega) (by rw [Nat.add_sub_cancel]; exact e2) hR1'
      refine ⟨F3, ?_, e3.tr g2⟩
      rw [fX6_again_b63, show nI i + 1 = nI (i + 1) from nI_1 i, agN, hb, if_neg (by decide)]
      exact g1
    have hte := tn_eq (k := i) hW (by omega)
    by_cases c : H.1.2.2.1 = 0 ∨ i % H.1.2.2.1 = 0
    · rw [if_neg (fun hh => hh (hte.mpr c)), x_standsH hN iH16 iH1 hWr hW e2 hR1' rfl, bnd_some]
      have eall : allTo (fun s => eqTo ((runH H i).2.1 s).2.1 (H.2.1 s).2.1 6 0) (runH H i).1.2.1 0 = allTo (fun s => eqTo (stS (wAt H) (H.2.1 s) i).2.1 (H.2.1 s).2.1 H.1.1 0) H.1.2.1 0 := allTo_cg _ _ (fun s _ hs => eqTo_nb (nb := H.1.1) (ws_stS (w6 s (by have : s < 0 + H.1.2.1 := hs; omega)) w1.2 hW.okW i) (w6 s (by have : s < 0 + H.1.2.1 := hs; omega)) w1.2)
      rw [eall]
      cases ha : allTo (fun s => eqTo (stS (wAt H) (H.2.1 s) i).2.1 (H.2.1 s).2.1 H.1.1 0) H.1.2.1 0 with
      | false =>
        rw [if_pos (show bI false = nI 0 from rfl)]
        exact hrest F1 rfl (by unfold agB; rw [ha, Bool.and_false])
      | true =>
        rw [if_neg (show ¬ bI true = nI 0 by decide), agN, if_pos (by unfold agB; rw [ha, Bool.and_true]; exact decide_eq_true c)]
        exact ⟨F1, rfl, e3⟩
    · rw [if_pos (fun hh => c (hte.mp hh))]
      exact hrest F1 rfl (by unfold agB; rw [decide_eq_false c, Bool.false_and])
theorem y_again_67 {N s nb : Nat} {l1 l2 : Int32} {k52 : Int32 → Int32 → FF → Option (Int32 × FF)} {F : FF} {r r' : Nat → Nat} (hs : s < 4) (hnb : nb ≤ 6) (h1 : F 82 1 = nI nb) (hr : ∀ p, p < 6 → F 83 (300 + 27 + 6 * s + p) = nI (r p)) (hr' : ∀ p, p < 6 → F 83 (27 + 6 * s + p) = nI (r' p)) (hb : ∀ p, p < 6 → r p < 6) (hb' : ∀ p, p < 6 → r' p < 6) : ∀ (m i n : Nat) (c : Bool), i + m = nb → m < n → fX7_again_L67 N k52 l1 l2 (nI s) n (bI c) (nI i) F = k52 (bI (c && eqTo r r' m i)) (nI (s + 1)) F := by
  intro m
  induction m with
  | zero =>
    intro i n c hi hn
    obtain ⟨n, rfl⟩ : ∃ k, n = k + 1 := ⟨n - 1, by omega⟩
    rw [fX7_again_L67.eq_2, h1, if_pos (by simp (disch := omega) only [nI_leI]; omega), show nI s + 1 = nI (s + 1) from nI_1 s]
    unfold eqTo
    rw [Bool.and_true]
  | succ m ih =>
    intro i n c hi hn
    obtain ⟨n, rfl⟩ : ∃ k, n = k + 1 := ⟨n - 1, by omega⟩
    have b1 := hb i (by omega)
    have b2 := hb' i (by omega)
    rw [fX7_again_L67.eq_2, h1, if_neg (by simp (disch := omega) only [nI_leI]; omega)]
    cases c with
    | false =>
      rw [if_pos (show bI false = 0 from rfl), fX7_again_b118, fX7_again_b119, show nI i + 1 = nI (i + 1) from nI_1 i, Bool.false_and]
      have := ih (i + 1) n false (by omega) (by omega)
      rw [Bool.false_and] at this
      exact this
    | true =>
      have ad : (27 : Int32) + 6 * nI s + nI i = nI (27 + 6 * s + i) := by rw [show 6 * nI s = nI (6 * s) from nI_mul 6 s, show 27 + nI (6 * s) = nI (27 + 6 * s) from nI_add 27 _, nI_add]
      rw [if_neg (show ¬ bI true = 0 by decide), ad, show (300 : Int32) + nI (27 + 6 * s + i) = nI (300 + 27 + 6 * s + i) by rw [show (300 : Int32) + nI (27 + 6 * s + i) = nI (300 + (27 + 6 * s + i)) from nI_add 300 _]; congr 1; omega, ld_ok a83 (by omega), ld_ok a83 (by omega), hr i (by omega), hr' i (by omega), show nI i + 1 = nI (i + 1) from nI_1 i]
      have e : (if ¬ nI (r i) = nI (r' i) then (0 : Int32) else 1) = bI (decide (r i = r' i)) := by
        simp (disch := omega) only [nI_eq]
        unfold bI
        by_cases c : r i = r' i
        · rw [if_neg (by omega), if_pos (by simpa using c)]
        · rw [if_pos c, if_neg (by simpa using c)]
      rw [e, ih (i + 1) n _ (by omega) (by omega), Bool.true_and, show eqTo r r' (m + 1) i = (if r i = r' i then eqTo r r' m (i + 1) else false) from rfl]
      by_cases c : r i = r' i
      · rw [if_pos c, decide_eq_true c, Bool.true_and]
      · rw [if_neg c, decide_eq_false c, Bool.false_and]
theorem y_again_52 {N : Nat} {l1 : Int32} {i0 : Nat} {k18 : Int32 → FF → Option (Int32 × FF)} {F : FF} {H R : Hs} (hN : 1000 ≤ N) (hW : WH H) (hWR : WH R) (he : R.1.2.1 = H.1.2.1) (h0 : PR 0 F H) (hR : PR 300 F R) : ∀ (m i n : Nat) (c : Bool), i + m = H.1.2.1 → m < n → fX7_again_L52 N k18 l1 (nI i0) n (bI c) (nI i) F = if (c && allTo (fun s => eqTo (R.2.1 s).2.1 (H.2.1 s).2.1 H.1.1 0) m i) = true then some (nI i0, F) else k18 (nI (i0 + 1)) F := by
  obtain ⟨w1, w2, w3, w4, w5, w6⟩ := id hW
  have a2 : F 83 8 = nI H.1.2.1 := h0.1.2.1
  intro m
  induction m with
  | zero =>
    intro i n c hi hn
    obtain ⟨n, rfl⟩ : ∃ k, n = k + 1 := ⟨n - 1, by omega⟩
    rw [fX7_again_L52.eq_2, a2, if_pos (by simp (disch := omega) only [nI_leI]; omega), show nI i0 + 1 = nI (i0 + 1) from nI_1 i0]
    unfold allTo
    cases c <;> rfl
  | succ m ih =>
    intro i n c hi hn
    obtain ⟨n, rfl⟩ : ∃ k, n = k + 1 := ⟨n - 1, by omega⟩
    have q3 : ∀ p, p < 6 → F 83 (27 + 6 * i + p) = nI ((H.2.1 i).2.1 p) := fun p hp => by
      have := (h0.2.2 i (by omega)).2.2.1 p hp
      rw [Nat.zero_add] at this
      exact this
    rw [fX7_again_L52.eq_2, a2, if_neg (by simp (disch := omega) only [nI_leI]; omega), show (0 : Int32) = nI 0 from rfl, y_again_67 (by omega) w1.2 h0.1.1 (hR.2.2 i (by omega)).2.2.1 q3 (hWR.2.2.2.2.2 i (by omega)).2.1 (w6 i (by omega)).2.1 H.1.1 0 N c (by omega) (by omega), ih (i + 1) n _ (by omega) (by omega)]
    rw [allTo]
    cases hq : eqTo (R.2.1 i).2.1 (H.2.1 i).2.1 H.1.1 0 with
    | true => rw [if_pos rfl, Bool.and_true]
    | false => simp
theorem y_again_L {N : Nat} {H : Hs} (hN : 1000 ≤ N) (hW : WH H) (hst : H.1.2.2.2 ≤ 10000) : ∀ (m i n : Nat) (F : FF), i + m = 201 → 1 ≤ i → m < n → PR 300 F (runH H (i - 1)) → PR 0 F H → ∃ F1, fX7_again_L18 N (nI H.1.2.2.1) n (nI i) F = some (oI (agN H m i), F1) ∧ FrA 300 F F1 := by
  obtain ⟨w1, w2, w3, w4, w5, w6⟩ := id hW
  intro m
  induction m with
  | zero =>
    intro i n F hi h1 hn hR hR0
    obtain ⟨n, rfl⟩ : ∃ k, n = k + 1 := ⟨n - 1, by omega⟩
    rw [fX7_again_L18.eq_2, if_pos (by simp (disch := omega) only [il, nI_ltI]; omega)]
    exact ⟨F, rfl, FrA.rf⟩
  | succ m ih =>
    intro i n F hi h1 hn hR hR0
    obtain ⟨n, rfl⟩ : ∃ k, n = k + 1 := ⟨n - 1, by omega⟩
    obtain ⟨F1, z1, z2, z3, -⟩ := y_step (z := false) (pg := 300) hN (by omega) hR (hW.run (n := i - 1) (by omega))
    have z2' : PR 300 F1 (runH H i) := by
      have : stpO (runH H (i - 1)) false = runH H i := by
        have e2 : (if false = true then none else wAt (runH H (i - 1)) 0) = wAt H (i - 1) := runH_w
        unfold stpO
        rw [e2]
        obtain ⟨j, rfl⟩ : ∃ j, i = j + 1 := ⟨i - 1, by omega⟩
        rfl
      rw [← this]
      exact z2
    have hR0' : PR 0 F1 H := hR0.keep hW (z3.2.1 1 (by omega) (by omega)) (z3.2.1 20 (by omega) (by omega)) (fun k _ _ => z3.2.2 k (by omega))
    have hWr : WH (runH H i) := hW.run (n := i) (by omega)
    have h52 := fun c => y_again_52 (N := N) (l1 := nI H.1.2.2.1) (i0 := i) (k18 := fun x2 F => fX7_again_L18 N (nI H.1.2.2.1) n x2 F) hN hW hWr rfl hR0' z2' H.1.2.1 0 N c (by omega) (by omega)
    have hfin : ∀ c, c = decide (H.1.2.2.1 = 0 ∨ i % H.1.2.2.1 = 0) → ∃ F3, fX7_again_L52 N (fun x2 F => fX7_again_L18 N (nI H.1.2.2.1) n x2 F) (nI H.1.2.2.1) (nI i) N (bI c) (nI 0) F1 = some (oI (agN H (m + 1) i), F3) ∧ FrA 300 F F3 := by
      intro c hc
      rw [h52 c]
      have e : (c && allTo (fun s => eqTo ((runH H i).2.1 s).2.1 (H.2.1 s).2.1 H.1.1 0) H.1.2.1 0) = agB H i := by rw [hc]; rfl
      rw [e, agN]
      by_cases hb : agB H i = true
      · rw [if_pos hb, if_pos hb]
        exact ⟨F1, rfl, z3⟩
      · rw [if_neg hb, if_neg hb]
        obtain ⟨F3, g1, g2⟩ := ih (i + 1) n F1 (by omega) (by omega) (by omega) (by rw [Nat.add_sub_cancel]; exact z2') hR0'
        exact ⟨F3, g1, z3.tr g2⟩
    rw [fX7_again_L18.eq_2, if_neg (by simp (disch := omega) only [il, nI_ltI]; omega), show (300 : Int32) = nI 300 from rfl, show (0 : Int32) = bI false from rfl, z1, bnd_some]
    by_cases c0 : H.1.2.2.1 = 0
    · rw [if_pos (by rw [c0]; rfl), fX7_again_b43, fX7_again_b48, show (1 : Int32) = bI true from rfl]
      exact hfin true (by rw [decide_eq_true (Or.inl c0)])
    · rw [if_neg (by rw [show bI false = nI 0 from rfl]; simp (disch := omega) only [nI_eq]; exact c0), dv_ok (by simp (disch := omega) only [il, nI_eq]; exact c0), irem_nI (by omega) (by omega) (by omega)]
      have hm : i % H.1.2.2.1 < H.1.2.2.1 := Nat.mod_lt _ (by omega)
      have e : (if ¬ nI (i % H.1.2.2.1) = bI false then bI false else (1 : Int32)) = bI (decide (H.1.2.2.1 = 0 ∨ i % H.1.2.2.1 = 0)) := by
        rw [show bI false = nI 0 from rfl]
        simp (disch := omega) only [nI_eq]
        by_cases c : i % H.1.2.2.1 = 0
        · rw [if_neg (by omega), decide_eq_true (Or.inr c)]; rfl
        · rw [if_pos c, decide_eq_false (by omega)]; rfl
      rw [e]
      exact hfin _ rfl
theorem q_again {N : Nat} {F : FF} {H : Hs} (hN : 1000 ≤ N) (h : RH F H) : QOK (fX6_again N) (fX7_again N) F := by
  unfold QOK fX6_again fX7_again
  obtain ⟨F1, e1, e2, e3, -⟩ := x_trial hN h
  obtain ⟨F2, g1, g2⟩ := x_again_L (N := N) hN h.2.2.1 (by have := h.2.2.2.2.1; omega) 200 1 N F1 rfl (by omega) (by omega) e2 (h.X e3).1
  have hR2 := (h.X e3).X g2.X
  obtain ⟨F3, c1, c2, c3⟩ := y_copies (N := N) (F := F2) (f := 0) (t := 300) hN (by omega) (by omega) (by omega)
  have hR3 : PR 300 F3 (runH H 0) := hR2.2.1.copy h.2.2.1 c2 c3
  have k3 : KY F2 F3 := ⟨fun c _ h83 _ _ => c2 c h83, fun k _ _ => by rw [c2 82 (by omega)], fun k hk => by rw [c3, if_neg (by omega)]⟩
  have hR4 := hR2.Y k3
  obtain ⟨F4, y1, y2⟩ := y_again_L (N := N) hN h.2.2.1 (by have := h.2.2.2.2.1; omega) 200 1 N F3 rfl (by omega) (by omega) hR3 hR4.2.1
  refine ⟨oI (agN H 200 1), F2, F4, ?_, ?_, e3.tr g2.X, k3.tr (y2.Y (by omega))⟩
  · rw [e1, bnd_some]
    exact g1
  · rw [show (0 : Int32) = nI 0 from rfl, show (300 : Int32) = nI 300 from rfl, c1, bnd_some, show F3 83 25 = nI H.1.2.2.1 from hR4.2.1.1.2.2.1]
    exact y1
