/-! QUESTIONS: what stood first, the reference's side -/
def FrS (row : Nat) (F F' : FF) : Prop := (∀ c, c ≠ 82 → c ≠ 83 → c ≠ 88 → c ≠ 90 → F' c = F c) ∧ (∀ k, k ≠ 18 → k ≠ 19 → F' 82 k = F 82 k) ∧ (∀ k, (k < 300 ∨ 375 ≤ k) → F' 83 k = F 83 k) ∧ ∀ j, (j < 164 * row ∨ 164 * row + 164 ≤ j) → F' 90 j = F 90 j
theorem FrS.rf {row : Nat} {F : FF} : FrS row F F := ⟨fun _ _ _ _ _ => rfl, fun _ _ _ => rfl, fun _ _ => rfl, fun _ _ => rfl⟩
theorem FrS.tr {row : Nat} {F F1 F2 : FF} (a : FrS row F F1) (b : FrS row F1 F2) : FrS row F F2 := ⟨fun c h1 h2 h3 h4 => (b.1 c h1 h2 h3 h4).trans (a.1 c h1 h2 h3 h4), fun k h1 h2 => (b.2.1 k h1 h2).trans (a.2.1 k h1 h2), fun k hk => (b.2.2.1 k hk).trans (a.2.2.1 k hk), fun j hj => (b.2.2.2 j hj).trans (a.2.2.2 j hj)⟩
theorem FrA.S {row : Nat} {F F' : FF} (h : FrA 300 F F') : FrS row F F' := ⟨fun c h1 h2 h3 _ => h.1 c h2 h1 h3, h.2.1, fun k hk => h.2.2 k (by omega), fun j _ => by rw [h.1 90 (by omega) (by omega) (by omega)]⟩
def FB (F : FF) (H : Hs) (row K : Nat) : Prop := ∀ k, k < K → ∀ s, s < H.1.2.1 → F 90 (164 * row + 4 * k + s) = nI ((stS (wAt H) (H.2.1 s) k).2.1 0)
theorem RSn.S {row : Nat} {F F' : FF} {n : Nat} {e : Nat → Nat × Nat × Nat} (h : RSn F n e) (k : FrS row F F') : RSn F' n e := h.Y k.1 (k.2.1 22 (by omega) (by omega))
theorem y_seen73 {N sm k : Nat} {l1 : Int32} {H : Hs} {e : Nat → Nat × Nat × Nat} {k12 : Int32 → Int32 → FF → Option (Int32 × FF)} {F : FF} (hN : 1000 ≤ N) (hW : WH H) (hst : H.1.2.2.2 ≤ 10000) (hk : k ≤ 40) (h : RSn F sm e) (h8 : F 83 8 = nI H.1.2.1) (hR : PR 300 F (runH H k)) : ∀ (m i n : Nat) (c : Bool), i + m = sm → m < n → ∃ F1, fX7_isAsSeen_L73 N k12 l1 (nI k) n (bI c) (nI i) F = k12 (bI (c && allTo (atB H e k) m i)) (nI (k + 1)) F1 ∧ PR 300 F1 (runH H (k + 1)) ∧ FrA 300 F F1 := by
  have h6 := h.1
  have w2 := hW.2.1
  intro m
  induction m with
  | zero =>
    intro i n c hi hn
    obtain ⟨n, rfl⟩ : ∃ k, n = k + 1 := ⟨n - 1, by omega⟩
    obtain ⟨F1, z1, z2, z3, -⟩ := y_step (z := false) (pg := 300) hN (by omega) hR (hW.run (n := k) (by omega))
    have z2' : PR 300 F1 (runH H (k + 1)) := by
      have : stpO (runH H k) false = runH H (k + 1) := by
        have e2 : (if false = true then none else wAt (runH H k) 0) = wAt H k := runH_w
        unfold stpO
        rw [e2]
        rfl
      rw [← this]
      exact z2
    refine ⟨F1, ?_, z2', z3⟩
    rw [fX7_isAsSeen_L73.eq_2, h.2.2.1, if_pos (by simp (disch := omega) only [nI_leI]; omega), show (300 : Int32) = nI 300 from rfl, show (0 : Int32) = bI false from rfl, z1, bnd_some, show nI k + 1 = nI (k + 1) from nI_1 k]
    unfold allTo
    rw [Bool.and_true]
  | succ m ih =>
    intro i n c hi hn
    obtain ⟨n, rfl⟩ : ∃ k, n = k + 1 := ⟨n - 1, by omega⟩
    obtain ⟨⟨-, b2, b3⟩, ⟨-, c2, c3⟩, ⟨-, d2, d3⟩⟩ := h.2.2.2 i (by omega)
    have ad0 : (3 : Int32) * nI i = nI (3 * i) := nI_mul 3 i
    have hgo : fX7_isAsSeen_L73 N k12 l1 (nI k) (n + 1) (bI c) (nI i) F = fX7_isAsSeen_L73 N k12 l1 (nI k) n (bI (c && atB H e k i)) (nI (i + 1)) F := by
      rw [fX7_isAsSeen_L73.eq_2, h.2.2.1, if_neg (by simp (disch := omega) only [nI_leI]; omega), ad0, show nI (3 * i) + 1 = nI (3 * i + 1) from nI_1 _, show nI (3 * i) + 2 = nI (3 * i + 2) from nI_add _ 2, ld_ok a89 (by omega), c2, h8]
      have hv4 : (if ¬ nI (e i).1 = nI k then (1 : Int32) else 0) = bI (!(decide ((e i).1 = k))) := by
        simp (disch := omega) only [nI_eq]
        by_cases ck : (e i).1 = k
        · rw [if_neg (by omega), decide_eq_true ck]; rfl
        · rw [if_pos ck, decide_eq_false ck]; rfl
      by_cases cs : (e i).2.1 < H.1.2.1
      · have hQ : F 83 (300 + 27 + 6 * (e i).2.1 + 0) = nI ((stS (wAt H) (H.2.1 (e i).2.1) k).2.1 0) := (hR.2.2 (e i).2.1 cs).2.2.1 0 (by omega)
        have hWS := (ws_stS (hW.2.2.2.2.2 _ cs) hW.1.2 hW.okW k).2.1 0 (by omega)
        rw [if_neg (by simp (disch := omega) only [nI_leI]; omega), show (327 : Int32) + 6 * nI (e i).2.1 = nI (300 + 27 + 6 * (e i).2.1 + 0) by rw [show 6 * nI (e i).2.1 = nI (6 * (e i).2.1) from nI_mul 6 _]; exact nI_add 327 _, ld_ok a83 (by omega), hQ, ld_ok a89 (by omega), d2]
        cases c with
        | false =>
          rw [if_pos (show bI false = 0 from rfl), fX7_isAsSeen_b168, fX7_isAsSeen_b169, show nI i + 1 = nI (i + 1) from nI_1 i, Bool.false_and]
          rfl
        | true =>
          rw [if_neg (show ¬ bI true = 0 by decide), ld_ok a89 (by omega), b2, show nI i + 1 = nI (i + 1) from nI_1 i, Bool.true_and]
          congr 1
          unfold atB okE
          rw [decide_eq_true cs, Bool.true_and]
          simp (disch := omega) only [nI_eq]
          by_cases ck : (e i).1 = k
          · rw [if_neg (by omega), decide_eq_true ck, ck]
            by_cases cb : (stS (wAt H) (H.2.1 (e i).2.1) k).2.1 0 = (e i).2.2
            · rw [if_neg (show ¬ ¬ _ from fun hh => hh cb), decide_eq_true cb]; rfl
            · rw [if_pos cb, decide_eq_false cb]; rfl
          · rw [if_pos ck, decide_eq_false ck]; rfl
      · rw [if_pos (by simp (disch := omega) only [nI_leI]; omega), fX7_isAsSeen_b139, fX7_isAsSeen_b140]
        cases c with
        | false =>
          rw [if_pos (show bI false = 0 from rfl), fX7_isAsSeen_b168, fX7_isAsSeen_b169, show nI i + 1 = nI (i + 1) from nI_1 i, Bool.false_and]
          rfl
        | true =>
          rw [if_neg (show ¬ bI true = 0 by decide), ad0, ld_ok a89 (by omega), b2, show nI i + 1 = nI (i + 1) from nI_1 i, Bool.true_and]
          congr 1
          unfold atB okE
          rw [decide_eq_false cs, Bool.false_and]
          simp (disch := omega) only [nI_eq]
          by_cases ck : (e i).1 = k
          · rw [if_neg (by omega), decide_eq_true ck]; rfl
          · rw [if_pos ck, decide_eq_false ck]; rfl
    obtain ⟨F1, z1, z2, z3⟩ := ih (i + 1) n (c && atB H e k i) (by omega) (by omega)
    refine ⟨F1, ?_, z2, z3⟩
    rw [hgo, z1, show allTo (atB H e k) (m + 1) i = (if atB H e k i = true then allTo (atB H e k) m (i + 1) else false) from rfl]
    cases hb : atB H e k i
    · simp
    · simp
theorem y_seen21 {N sm k row : Nat} {H : Hs} {e : Nat → Nat × Nat × Nat} {k12 : Int32 → Int32 → FF → Option (Int32 × FF)} (hN : 1000 ≤ N) (hW : WH H) (hst : H.1.2.2.2 ≤ 10000) (hk : k ≤ 40) (hrow : row < 6) (c : Bool) : ∀ (m i n : Nat) (F : FF), i + m = H.1.2.1 → m < n → RSn F sm e → F 83 8 = nI H.1.2.1 → PR 300 F (runH H k) → FB F H row k → (∀ s, s < i → F 90 (164 * row + 4 * k + s) = nI ((stS (wAt H) (H.2.1 s) k).2.1 0)) → ∃ F1, fX7_isAsSeen_L21 N k12 (nI row) (bI c) (nI k) n (nI i) F = k12 (bI (c && allTo (atB H e k) sm 0)) (nI (k + 1)) F1 ∧ PR 300 F1 (runH H (k + 1)) ∧ FB F1 H row (k + 1) ∧ FrS row F F1 := by
  have w2 := hW.2.1
  intro m
  induction m with
  | zero =>
    intro i n F hi hn h h8 hR hFB hF
    obtain ⟨n, rfl⟩ : ∃ k, n = k + 1 := ⟨n - 1, by omega⟩
    have h6 := h.1
    obtain ⟨F1, z1, z2, z3⟩ := y_seen73 (N := N) (l1 := nI row) (k12 := k12) hN hW hst hk h h8 hR sm 0 N c (by omega) (by omega)
    refine ⟨F1, ?_, z2, fun k' hk' s hs => ?_, z3.S⟩
    · rw [fX7_isAsSeen_L21.eq_2, h8, if_pos (by simp (disch := omega) only [nI_leI]; omega)]
      exact z1
    · rw [z3.1 90 (by omega) (by omega) (by omega)]
      by_cases e : k' = k
      · subst e; exact hF s (by omega)
      · exact hFB k' (by omega) s hs
  | succ m ih =>
    intro i n F hi hn h h8 hR hFB hF
    obtain ⟨n, rfl⟩ : ∃ k, n = k + 1 := ⟨n - 1, by omega⟩
    have hQ : F 83 (300 + 27 + 6 * i + 0) = nI ((stS (wAt H) (H.2.1 i) k).2.1 0) := (hR.2.2 i (show i < H.1.2.1 by omega)).2.2.1 0 (by omega)
    have hFr : FrS row F (fput F 90 (164 * row + 4 * k + i) (nI ((stS (wAt H) (H.2.1 i) k).2.1 0))) := ⟨fun c _ _ _ h => fput_a h, fun k _ _ => by rw [fput_a (by omega)], fun k _ => by rw [fput_a (by omega)], fun j hj => by rw [fpu, if_neg (by omega)]⟩
    have hWr : WH (runH H k) := hW.run (by omega)
    obtain ⟨F1, z1, z2, z3, z4⟩ := ih (i + 1) n _ (by omega) (by omega) (h.S hFr) (by rw [fput_a (by omega)]; exact h8) (hR.keep hWr (by rw [fput_a (by omega)]) (by rw [fput_a (by omega)]) (fun _ _ _ => by rw [fput_a (by omega)])) (fun k' hk' s hs => by
      rw [fpu, if_neg (by omega)]
      exact hFB k' hk' s hs) (fun s hs => by
      rw [fpu]
      by_cases e : s = i
      · rw [if_pos ⟨rfl, by omega⟩, e]
      · rw [if_neg (by omega)]; exact hF s (by omega))
    refine ⟨F1, ?_, z2, z3, hFr.tr z4⟩
    rw [fX7_isAsSeen_L21.eq_2, h8, if_neg (by simp (disch := omega) only [nI_leI]; omega), show (327 : Int32) + 6 * nI i = nI (300 + 27 + 6 * i + 0) by rw [show 6 * nI i = nI (6 * i) from nI_mul 6 _]; exact nI_add 327 _, ld_ok a83 (by omega), hQ, show (164 : Int32) * nI row + 4 * nI k + nI i = nI (164 * row + 4 * k + i) by rw [show (164 : Int32) * nI row = nI (164 * row) from nI_mul 164 row, show (4 : Int32) * nI k = nI (4 * k) from nI_mul 4 k, nI_add, nI_add], st_ok a90 (by omega), show nI i + 1 = nI (i + 1) from nI_1 i]
    exact z1
theorem y_seen12 {N sm row : Nat} {H : Hs} {e : Nat → Nat × Nat × Nat} (hN : 1000 ≤ N) (hW : WH H) (hst : H.1.2.2.2 ≤ 10000) (hrow : row < 6) : ∀ (m k n : Nat) (F : FF) (c : Bool), k + m = 41 → m < n → RSn F sm e → F 83 8 = nI H.1.2.1 → PR 300 F (runH H k) → FB F H row k → ∃ F1, fX7_isAsSeen_L12 N (nI row) n (bI c) (nI k) F = some (bI (c && allTo (fun k => allTo (atB H e k) sm 0) m k), F1) ∧ FB F1 H row 41 ∧ FrS row F F1 := by
  have w2 := hW.2.1
  intro m
  induction m with
  | zero =>
    intro k n F c hk hn h h8 hR hFB
    obtain ⟨n, rfl⟩ : ∃ k, n = k + 1 := ⟨n - 1, by omega⟩
    have e : k = 41 := by omega
    subst e
    rw [fX7_isAsSeen_L12.eq_2, if_pos (by decide), zr_bI]
    unfold allTo
    rw [Bool.and_true]
    exact ⟨F, rfl, hFB, FrS.rf⟩
  | succ m ih =>
    intro k n F c hk hn h h8 hR hFB
    obtain ⟨n, rfl⟩ : ∃ k, n = k + 1 := ⟨n - 1, by omega⟩
    obtain ⟨F1, y1, y2, y3, y4⟩ := y_seen21 (N := N) (sm := sm) (e := e) (k12 := fun x2 x3 F => fX7_isAsSeen_L12 N (nI row) n x2 x3 F) hN hW hst (show k ≤ 40 by omega) hrow c H.1.2.1 0 N F (by omega) (by omega) h h8 hR hFB (fun s hs => by omega)
    obtain ⟨F2, z1, z2, z3⟩ := ih (k + 1) n F1 (c && allTo (atB H e k) sm 0) (by omega) (by omega) (h.S y4) ((y4.2.2.1 8 (by omega)).trans h8) y2 y3
    refine ⟨F2, ?_, z2, y4.tr z3⟩
    rw [fX7_isAsSeen_L12.eq_2, if_neg (by simp (disch := omega) only [il, nI_ltI]; omega), show (0 : Int32) = nI 0 from rfl, y1, z1, show allTo (fun k => allTo (atB H e k) sm 0) (m + 1) k = (if allTo (atB H e k) sm 0 = true then allTo (fun k => allTo (atB H e k) sm 0) m (k + 1) else false) from rfl]
    cases hb : allTo (atB H e k) sm 0
    · simp
    · simp
theorem y_asSeen {N sm row : Nat} {F : FF} {H : Hs} {e : Nat → Nat × Nat × Nat} (hN : 1000 ≤ N) (hW : WH H) (hst : H.1.2.2.2 ≤ 10000) (hrow : row < 6) (h : RSn F sm e) (hR : PR 0 F H) : ∃ F1, fX7_isAsSeen N (nI row) F = some (bI (seeB H sm e), F1) ∧ FB F1 H row 41 ∧ FrS row F F1 := by
  obtain ⟨F3, c1, c2, c3⟩ := y_copies (N := N) (F := F) (f := 0) (t := 300) hN (by omega) (by omega) (by omega)
  have hFr : FrS row F F3 := ⟨fun c _ h83 _ _ => c2 c h83, fun k _ _ => by rw [c2 82 (by omega)], fun k hk => by rw [c3, if_neg (by omega)], fun j _ => by rw [c2 90 (by omega)]⟩
  have hR3 : PR 300 F3 (runH H 0) := hR.copy hW c2 c3
  obtain ⟨F4, z1, z2, z3⟩ := y_seen12 (N := N) (sm := sm) (e := e) hN hW hst hrow 41 0 N F3 true (by omega) (by omega) (h.S hFr) ((hFr.2.2.1 8 (by omega)).trans hR.1.2.1) hR3 (fun k hk => by omega)
  refine ⟨F4, ?_, z2, hFr.tr z3⟩
  unfold fX7_isAsSeen
  rw [show (0 : Int32) = nI 0 from rfl, show (300 : Int32) = nI 300 from rfl, c1, bnd_some, show (1 : Int32) = bI true from rfl, z1, Bool.true_and, see_eq (fun i hi => by have := (h.2.2.2 i hi).1.2.2; omega)]
/-- numbers at a place of the page -/
def KA (at0 : Nat) (F F' : FF) : Prop := (∀ c, c ≠ 82 → c ≠ 83 → c ≠ 88 → c ≠ 90 → F' c = F c) ∧ (∀ k, k ≠ 18 → k ≠ 19 → F' 82 k = F 82 k) ∧ ∀ k, k < 225 → k ≠ at0 → F' 83 k = F 83 k
theorem y_numbers_L {N sm at0 many : Nat} {F0 : FF} {e : Nat → Nat × Nat × Nat} {Hv : Nat → Hs} (hN : 1000 ≤ N) (hat : at0 < 225) (hm : many ≤ 6) (h0 : RSn F0 sm e) (hv : ∀ v, v < many → ∀ F', KA at0 F0 F' → F' 83 at0 = nI v → PR 0 F' (Hv v) ∧ WH (Hv v) ∧ (Hv v).1.2.2.2 ≤ 10000) : ∀ (m v n : Nat) (F : FF), v + m = many → m < n → KA at0 F0 F → (∀ u, u < v → FB F (Hv u) u 41) → ∃ F1, fX7_numbersAt_L13 N (nI at0) (nI many) (F0 83 at0) n (bitF (fun v => seeB (Hv v) sm e) v) (nI v) F = some (bitF (fun v => seeB (Hv v) sm e) many, F1) ∧ KY F0 F1 ∧ ∀ u, u < many → FB F1 (Hv u) u 41 := by
  intro m
  induction m with
  | zero =>
    intro v n F hi hn hK hFB
    obtain ⟨n, rfl⟩ : ∃ k, n = k + 1 := ⟨n - 1, by omega⟩
    rw [fX7_numbersAt_L13.eq_2, if_pos (by simp (disch := omega) only [nI_leI]; omega), st_ok a83 (by omega), show v = many by omega]
    refine ⟨_, rfl, ⟨fun c h1 h2 h3 h4 => by rw [fput_a h2]; exact hK.1 c h1 h2 h3 h4, fun k h1 h2 => by rw [fput_a (by omega)]; exact hK.2.1 k h1 h2, fun k hk => ?_⟩, fun u hu k hk s hs => by rw [fput_a (by omega)]; exact hFB u (by omega) k hk s hs⟩
    rw [fpu]
    by_cases c : k = at0
    · rw [if_pos ⟨rfl, c⟩, c]
    · rw [if_neg (by omega)]; exact hK.2.2 k hk c
  | succ m ih =>
    intro v n F hi hn hK hFB
    obtain ⟨n, rfl⟩ : ∃ k, n = k + 1 := ⟨n - 1, by omega⟩
    generalize hF1 : fput F 83 at0 (nI v) = F1
    have hK1 : KA at0 F0 F1 := ⟨fun c h1 h2 h3 h4 => by rw [← hF1, fput_a h2]; exact hK.1 c h1 h2 h3 h4, fun k h1 h2 => by rw [← hF1, fput_a (by omega)]; exact hK.2.1 k h1 h2, fun k hk hk2 => by rw [← hF1, fpu, if_neg (by omega)]; exact hK.2.2 k hk hk2⟩
    obtain ⟨g1, g2, g3⟩ := hv v (by omega) F1 hK1 (by rw [← hF1, fpu, if_pos ⟨rfl, rfl⟩])
    obtain ⟨F2, y1, y2, y3⟩ := y_asSeen (N := N) (row := v) hN g2 g3 (by omega) (h0.Y hK1.1 (hK1.2.1 22 (by omega) (by omega))) g1
    have hK2 : KA at0 F0 F2 := ⟨fun c h1 h2 h3 h4 => by rw [y3.1 c h1 h2 h3 h4]; exact hK1.1 c h1 h2 h3 h4, fun k h1 h2 => by rw [y3.2.1 k h1 h2]; exact hK1.2.1 k h1 h2, fun k hk hk2 => by rw [y3.2.2.1 k (by omega)]; exact hK1.2.2 k hk hk2⟩
    obtain ⟨F3, z1, z2⟩ := ih (v + 1) n F2 (by omega) (by omega) hK2 (fun u hu => by
      by_cases c : u = v
      · subst c; exact y2
      · intro k hk s hs
        have hb : (Hv u).1.2.1 ≤ 4 := by
          have := (hv u (by omega) (fput F0 83 at0 (nI u)) ⟨fun c _ h2 _ _ => fput_a h2, fun k _ _ => by rw [fput_a (by omega)], fun k _ hk2 => by rw [fpu, if_neg (by omega)]⟩ (by rw [fpu, if_pos ⟨rfl, rfl⟩])).2.1.2.1
          exact this
        rw [y3.2.2.2 _ (by omega), ← hF1, fput_a (by omega)]
        exact hFB u (by omega) k hk s hs)
    refine ⟨F3, ?_, z2⟩
    rw [fX7_numbersAt_L13.eq_2, if_neg (by simp (disch := omega) only [nI_leI]; omega), st_ok a83 (by omega), hF1, y1, bnd_some, show nI v + 1 = nI (v + 1) from nI_1 v, bit_step (f := fun v => seeB (Hv v) sm e)]
    exact z1
theorem y_numbers {N sm at0 many : Nat} {F : FF} {e : Nat → Nat × Nat × Nat} {Hv : Nat → Hs} (hN : 1000 ≤ N) (hat : at0 < 225) (hm : many ≤ 6) (h0 : RSn F sm e) (hv : ∀ v, v < many → ∀ F', KA at0 F F' → F' 83 at0 = nI v → PR 0 F' (Hv v) ∧ WH (Hv v) ∧ (Hv v).1.2.2.2 ≤ 10000) : ∃ F1, fX7_numbersAt N (nI at0) (nI many) F = some (bitF (fun v => seeB (Hv v) sm e) many, F1) ∧ KY F F1 ∧ ∀ u, u < many → FB F1 (Hv u) u 41 := by
  unfold fX7_numbersAt
  rw [ld_ok a83 (by omega)]
  exact y_numbers_L hN hat hm h0 hv many 0 N F (by omega) (by omega) ⟨fun _ _ _ _ _ => rfl, fun _ _ _ => rfl, fun _ _ _ => rfl⟩ (fun u hu => by omega)
theorem PR.upR {pg s : Nat} {F F' : FF} {H : Hs} {x : Sh} (hR : PR pg F H) (hw : H.1.2.2.1 ≤ 16) (hs4 : H.1.2.1 ≤ 4) (hs : s < H.1.2.1) (hx : QR pg s F' x) (h82 : ∀ k, k ≠ 18 → k ≠ 19 → F' 82 k = F 82 k) (hf : ∀ k, pg ≤ k → k < pg + 75 → k ≠ pg + s → k ≠ pg + 4 + s → (k < pg + 27 + 6 * s ∨ pg + 33 + 6 * s ≤ k) → (k < pg + 51 + 6 * s ∨ pg + 57 + 6 * s ≤ k) → F' 83 k = F 83 k) : PR pg F' (upS H s x) := by
  obtain ⟨⟨a1, a2, a3, a4⟩, a5, a6⟩ := hR
  refine ⟨⟨(h82 1 (by omega) (by omega)).trans a1, (hf _ (by omega) (by omega) (by omega) (by omega) (by omega) (by omega)).trans a2, (hf _ (by omega) (by omega) (by omega) (by omega) (by omega) (by omega)).trans a3, (hf _ (by omega) (by omega) (by omega) (by omega) (by omega) (by omega)).trans a4⟩, fun i hi => ?_, fun s' hs' => ?_⟩
  · have hi : i < H.1.2.2.1 := hi
    exact (a5 i hi).same (hf _ (by omega) (by omega) (by omega) (by omega) (by omega) (by omega)) (h82 20 (by omega) (by omega))
  · have hs' : s' < H.1.2.1 := hs'
    show QR pg s' F' (if s' = s then x else H.2.1 s')
    by_cases e : s' = s
    · subst e; rw [if_pos rfl]; exact hx
    · rw [if_neg e]
      exact (a6 s' hs').same (hf _ (by omega) (by omega) (by omega) (by omega) (by omega) (by omega)) (hf _ (by omega) (by omega) (by omega) (by omega) (by omega) (by omega)) (fun p hp => hf _ (by omega) (by omega) (by omega) (by omega) (by omega) (by omega)) (fun p hp => hf _ (by omega) (by omega) (by omega) (by omega) (by omega) (by omega))
theorem hv_kind {F : FF} {H : Hs} {s : Nat} (h : RH F H) (hs : s < H.1.2.1) : ∀ v, v < 4 → ∀ F', KA s F F' → F' 83 s = nI v → PR 0 F' (upS H s (kSh (H.2.1 s) v)) ∧ WH (upS H s (kSh (H.2.1 s) v)) ∧ (upS H s (kSh (H.2.1 s) v)).1.2.2.2 ≤ 10000 := by
  intro v hv F' hK e
  have hns := h.ns
  obtain ⟨q1, q2, q3, q4⟩ := h.2.1.2.2 s hs
  refine ⟨h.2.1.upR (s := s) h.nw hns hs ⟨by rw [Nat.zero_add]; exact e, (hK.2.2 _ (by omega) (by omega)).trans q2, fun p hp => (hK.2.2 _ (by omega) (by omega)).trans (q3 p hp), fun p hp => (hK.2.2 _ (by omega) (by omega)).trans (q4 p hp)⟩ hK.2.1 (fun k _ k0 k1 _ _ _ => hK.2.2 k (by omega) (by omega)), h.2.2.1.up (ws_k (h.2.2.1.2.2.2.2.2 s hs) (by omega)), by have := h.2.2.2.2.1; show H.1.2.2.2 ≤ 10000; omega⟩
theorem hv_book {F : FF} {H : Hs} {i : Nat} (h : RH F H) (hi : i < H.1.2.2.1) : ∀ v, v < H.1.1 → ∀ F', KA (9 + i) F F' → F' 83 (9 + i) = nI v → PR 0 F' (setW H i (some v)) ∧ WH (setW H i (some v)) ∧ (setW H i (some v)).1.2.2.2 ≤ 10000 := by
  intro v hv F' hK e
  have hns := h.ns
  have hnw := h.nw
  obtain ⟨⟨a1, a2, a3, a4⟩, a5, a6⟩ := id h.2.1
  have hk : ∀ k, k < 75 → k ≠ 9 + i → F' 83 k = F 83 k := fun k k1 k2 => hK.2.2 k (by omega) k2
  refine ⟨⟨⟨(hK.2.1 1 (by omega) (by omega)).trans a1, (hk _ (by omega) (by omega)).trans a2, (hk _ (by omega) (by omega)).trans a3, (hk _ (by omega) (by omega)).trans a4⟩, fun j hj => ?_, fun s hs => ?_⟩, h.2.2.1.setW (fun b e => by cases e; exact hv), by have := h.2.2.2.2.1; show H.1.2.2.2 ≤ 10000; omega⟩
  · have hj : j < H.1.2.2.1 := hj
    show wQ 0 F' j (if j = i then some v else H.2.2 j)
    by_cases c : j = i
    · rw [if_pos c, c]
      refine ⟨by rw [Nat.zero_add]; exact e, ?_⟩
      rw [hK.2.1 20 (by omega) (by omega), h.2.2.2.2.2]
      exact fun hh => ne_m4 (a := i) (by omega) hh.symm
    · rw [if_neg c]
      exact (a5 j hj).same (hk _ (by omega) (by omega)) (hK.2.1 20 (by omega) (by omega))
  · have hs : s < H.1.2.1 := hs
    exact (a6 s hs).same (hk _ (by omega) (by omega)) (hk _ (by omega) (by omega)) (fun p hp => hk _ (by omega) (by omega)) (fun p hp => hk _ (by omega) (by omega))
theorem q_kinds {N : Nat} {l1 : Int32} {F : FF} (hN : 1000 ≤ N) (hI : Inv F) : QOK (fX6_kinds N l1) (fX7_kinds N l1) F := by
  obtain ⟨H, h, -, -, ⟨sm, e, hS⟩, -⟩ := hI
  have hS : RSn F sm e := hS
  unfold QOK fX6_kinds fX7_kinds
  have hns := h.ns
  rw [h.xS]
  rcases guard (x := l1) H.1.2.1 with ⟨s, hs, rfl⟩ | hg
  · obtain ⟨F1, e1, e2⟩ := x_kinds_L (N := N) (s := s) (sm := sm) (e := e) hN hs 4 0 N F rfl (by omega) h hS
    have hR1 := h.X e2
    obtain ⟨F2, y1, y2, -⟩ := y_numbers (N := N) (at0 := s) (many := 4) (Hv := fun v => upS H s (kSh (H.2.1 s) v)) hN (by omega) (by omega) (hS.X e2) (hv_kind hR1 hs)
    refine ⟨bitF (fun k => seeB (upS H s (kSh (H.2.1 s) k)) sm e) 4, F1, F2, ?_, ?_, e2, y2⟩
    · rw [bI_nI hs (by omega), if_pos n10]
      exact e1
    · rw [hR1.yS, bnd_some, bI_nI hs (by omega), if_neg n10, show (4 : Int32) = nI 4 from rfl, y1, bnd_some]
  · refine ⟨-1, F, F, ?_, ?_, KX.rf, KY.rf⟩
    · rw [bI_f hg, if_neg (by decide)]
    · rw [h.yS, bnd_some, bI_f hg, if_pos rfl]
theorem q_books {N : Nat} {l1 : Int32} {F : FF} (hN : 1000 ≤ N) (hI : Inv F) : QOK (fX6_books N l1) (fX7_books N l1) F := by
  obtain ⟨H, h, -, -, ⟨sm, e, hS⟩, -⟩ := hI
  have hS : RSn F sm e := hS
  unfold QOK fX6_books fX7_books
  have hnw := h.nw
  have hnb := h.nb
  rw [h.xW]
  rcases guard (x := l1) H.1.2.2.1 with ⟨i, hi, rfl⟩ | hg
  · obtain ⟨F1, e1, e2⟩ := x_cand_L (N := N) (i0 := i) (sm := sm) (e := e) hN hi H.1.1 0 N F (by omega) (by omega) h hS
    have hR1 := h.X e2
    obtain ⟨F2, y1, y2, -⟩ := y_numbers (N := N) (at0 := 9 + i) (many := H.1.1) (Hv := fun v => setW H i (some v)) hN (by omega) (by omega) (hS.X e2) (hv_book hR1 hi)
    refine ⟨bitF (fun b => seeB (setW H i (some b)) sm e) H.1.1, F1, F2, ?_, ?_, e2, y2⟩
    · rw [bI_nI hi (by omega), if_neg n10, fX6_candidates, show (0 : Int32) = nI 0 from rfl]
      have e1' : fX6_candidates_L4 N (nI i) N (nI 0) (nI 0) F = some (bitF (fun b => seeB (setW H i (some b)) sm e) H.1.1, F1) := e1
      rw [e1', bnd_some]
    · rw [hR1.yW, bnd_some, bI_nI hi (by omega), if_neg n10, show 9 + nI i = nI (9 + i) from nI_add 9 i, hR1.2.1.1.1, y1, bnd_some]
  · refine ⟨-1, F, F, ?_, ?_, KX.rf, KY.rf⟩
    · rw [bI_f hg, if_pos rfl]
    · rw [h.yW, bnd_some, bI_f hg, if_pos rfl]
