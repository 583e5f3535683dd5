/-! TEXT: lines, the class -/
theorem x_books {N n p : Nat} {b : Nat → Nat} {F : FF} {T : Hs} (hN : 1000 ≤ N) (h : XS F b n p T false) : ∃ r F1, fX5_takeBooks N F = some (r, F1) ∧ XE F b n r F1 (bkP b n p T) := by
  obtain ⟨k1, k2, k3, k4, k5, k6, k7⟩ := id h
  obtain ⟨F0, hF0⟩ : ∃ F0, fput F 33 8 1 = F0 := ⟨_, rfl⟩
  have f8 : F0 33 8 = bI true := by rw [← hF0, fpu, if_pos ⟨rfl, rfl⟩]; rfl
  have ff : ∀ k, k ≠ 8 → F0 33 k = F 33 k := fun k hk => by rw [← hF0, fpu, if_neg (fun h => hk h.2)]
  have fc : ∀ c, c ≠ 33 → F0 c = F c := fun c hc => by rw [← hF0, fput_a hc]
  have h0 : XS F0 b n p T true := ⟨by rw [← hF0]; exact k1.put (by omega), (ff 4 (by omega)).trans k2, k3, (ff 2 (by omega)).trans k4, f8, k6.keep k7.2.1 (fun c _ _ => fc c (by omega)), k7⟩
  have hT0 : FT F F0 := fun c hc _ => fc c hc
  obtain ⟨F1, e1, e2, e3, e4, e5, e6⟩ := x_next1 hN h0
  have h1 : F1 33 1 = F 33 1 := (e2.2 1 (by omega)).trans (ff 1 (by omega))
  have hT1 : FT F F1 := hT0.tr e2.T
  have ht := tok_le (b := b) (stt_le (b := b) h.2.2.1).2
  have hv := tok_val (b := b) (n := n) (s := stt b n p)
  unfold fX5_takeBooks bkP
  rw [k5, if_pos (show bI false = 0 from rfl), hF0, nmE, e1, bnd_some, e4.1]
  by_cases c4 : (tok b n (stt b n p)).1 = 4
  · rw [if_pos c4, c4, if_neg (by decide)]
    obtain ⟨g1, g2⟩ := x_bad (N := N) (n := n) (b := b) (c := 2) hT1 h1 (e4.2.2.2 c4) e6 k7
    rw [g1, bnd_some, xe_zr g2]
    exact ⟨0, F1, rfl, g2⟩
  · rw [if_neg c4]
    have hS := e5 c4
    by_cases c1 : (tok b n (stt b n p)).1 = 1
    · rw [if_pos c1, c1, if_pos (show nI 1 = 1 from rfl), e4.2.2.1 c1]
      have hno : ¬ (1 ≤ (tok b n (stt b n p)).2.2 ∧ (tok b n (stt b n p)).2.2 ≤ 6) → ∃ r F2, fX5_takeBooks_b53 N F1 = some (r, F2) ∧ XE F b n r F2 (.inl (3, stt b n p)) := by
        intro _
        unfold fX5_takeBooks_b53
        obtain ⟨F2, g1, g2⟩ := x_ref (N := N) (n := n) (b := b) (c := 3) hT1 h1 (e4.2.1 c4).2 e3 e6 k7
        rw [show fX5_refuse N 3 F1 = some (0, F2) from g1, bnd_some, xe_zr g2]
        exact ⟨0, F2, rfl, g2⟩
      by_cases cv : 1 ≤ (tok b n (stt b n p)).2.2 ∧ (tok b n (stt b n p)).2.2 ≤ 6
      · rw [if_neg (by show ¬ nI _ < nI 1; simp (disch := omega) only [nI_ltI]; omega), if_pos (by show nI _ ≤ nI 6; simp (disch := omega) only [nI_leI]; omega), if_pos cv, nmE]
        obtain ⟨F2, hF2⟩ : ∃ F2, fput F1 16 0 (nI (tok b n (stt b n p)).2.2) = F2 := ⟨_, rfl⟩
        rw [hF2]
        have g0 : ∀ k, F2 16 k = if k = 0 then nI (tok b n (stt b n p)).2.2 else F1 16 k := fun k => by
          rw [← hF2, fpu]
          by_cases c : k = 0
          · rw [if_pos ⟨rfl, c⟩, if_pos c]
          · rw [if_neg (fun h => c h.2), if_neg c]
        have gc : ∀ c, c ≠ 16 → F2 c = F1 c := fun c hc => by rw [← hF2, fput_a hc]
        obtain ⟨s1, s2, s3, s4, s5, s6, s7⟩ := hS
        obtain ⟨⟨u1, u2, u3, u4⟩, u5, u6⟩ := s6
        have hR2 : HR 16 F2 (setB T (tok b n (stt b n p)).2.2) := ⟨⟨by rw [g0, if_pos rfl]; rfl, by rw [g0, if_neg (by omega)]; exact u2, by rw [g0, if_neg (by omega)]; exact u3, by rw [g0, if_neg (by omega)]; exact u4⟩, fun i hi => by rw [gc _ (by omega)]; exact u5 i hi, fun s hs => (u6 s hs).same (gc _ (by omega)) (gc _ (by omega)) (gc _ (by omega))⟩
        have k33 : F2 33 = F1 33 := gc 33 (by omega)
        obtain ⟨r, F3, z1, z2⟩ := x_semi (N := N) hN (show XS F2 b n _ (setB T (tok b n (stt b n p)).2.2) true from ⟨⟨by rw [k33]; exact s1.1, s1.2.1, fun j hj => by rw [gc 34 (by omega)]; exact s1.2.2 j hj⟩, by rw [k33]; exact s2, s3, by rw [k33]; exact s4, by rw [k33]; exact s5, hR2, s7.setB cv⟩)
        rw [z1, bnd_some, xe_zr z2]
        exact ⟨r, F3, rfl, z2.tr (hT1.tr (fun c _ hc => gc c (by omega))) (by rw [k33]; exact h1)⟩
      · rw [if_neg cv]
        obtain ⟨r, F2, z1, z2⟩ := hno cv
        by_cases c0 : (tok b n (stt b n p)).2.2 < 1
        · rw [if_pos (by show nI _ < nI 1; simp (disch := omega) only [nI_ltI]; exact c0)]
          exact ⟨r, F2, z1, z2⟩
        · rw [if_neg (by show ¬ nI _ < nI 1; simp (disch := omega) only [nI_ltI]; exact c0), if_neg (by show ¬ nI _ ≤ nI 6; simp (disch := omega) only [nI_leI]; omega)]
          exact ⟨r, F2, z1, z2⟩
    · rw [if_neg c1, if_neg (by show ¬ nI _ = nI 1; simp (disch := omega) only [nI_eq]; exact c1)]
      obtain ⟨F2, g1, g2⟩ := x_ref (N := N) (n := n) (b := b) (c := 2) hT1 h1 (e4.2.1 c4).2 e3 e6 k7
      rw [show fX5_refuse N 2 F1 = some (0, F2) from g1, bnd_some, xe_zr g2]
      exact ⟨0, F2, rfl, g2⟩
theorem x_shelf {N n p s0 k : Nat} {b : Nat → Nat} {F : FF} {T : Hs} {q : Bool} (hN : 1000 ≤ N) (h : XS F b n p T q) (hk : k ≤ 3) (h5 : F 33 5 = nI s0) : ∃ r F1, fX5_takeShelf N (nI k) F = some (r, F1) ∧ XE F b n r F1 (if T.1.2.1 < 4 then semP b n p (addS T k) q else .inl (5, s0)) := by
  obtain ⟨s1, s2, s3, s4, s5, s6, s7⟩ := id h
  unfold fX5_takeShelf
  by_cases c : T.1.2.1 < 4
  · obtain ⟨F1, e1, e2, e3⟩ := x_addShelf (N := N) (k := k) hN iH16 s6 c
    have k33 : F1 33 = F 33 := e3 33 (by omega)
    obtain ⟨r, F2, z1, z2⟩ := x_semi (N := N) hN (show XS F1 b n p (addS T k) q from ⟨⟨by rw [k33]; exact s1.1, s1.2.1, fun j hj => by rw [e3 34 (by omega)]; exact s1.2.2 j hj⟩, by rw [k33]; exact s2, s3, by rw [k33]; exact s4, by rw [k33]; exact s5, e2, s7.addS c hk⟩)
    rw [if_pos c, e1, bnd_some, if_pos n10, z1, bnd_some, xe_zr z2]
    exact ⟨r, F2, rfl, z2.tr (fun c _ hc => e3 c hc) (by rw [k33])⟩
  · rw [if_neg c, x_addShelf_full iH16 s6 (by have := s7.2.1; omega), bnd_some, if_neg (fun h => h rfl)]
    obtain ⟨F2, g1, g2⟩ := x_ref (N := N) (n := n) (b := b) (F := F) (F1 := F) (c := 5) FT.rf rfl s4 h5 s6 s7
    rw [show fX5_refuse N 5 F = some (0, F2) from g1, bnd_some, xe_zr g2]
    exact ⟨0, F2, rfl, g2⟩
theorem nmJ_is {b : Nat → Nat} {s e : Nat} : ∀ m j i, nmJ b s e m j = some i → j ≤ i ∧ i < j + m ∧ isN b s e i = true := by
  intro m
  induction m with
  | zero => intro j i h; cases h
  | succ m ih =>
    intro j i h
    unfold nmJ at h
    split at h
    · cases h; exact ⟨Nat.le_refl _, by omega, by assumption⟩
    · obtain ⟨a1, a2, a3⟩ := ih (j + 1) i h
      exact ⟨by omega, by omega, a3⟩
theorem nmJ_no {b : Nat → Nat} {s e : Nat} : ∀ m j, nmJ b s e m j = none → ∀ i, j ≤ i → i < j + m → isN b s e i = false := by
  intro m
  induction m with
  | zero => intro j _ i h1 h2; omega
  | succ m ih =>
    intro j h i h1 h2
    unfold nmJ at h
    split at h
    · cases h
    · rename_i hn
      by_cases c : i = j
      · rw [c]
        cases hh : isN b s e j with
        | true => exact absurd hh hn
        | false => rfl
      · exact ih (j + 1) h i (by omega) (by omega)
/-- the name that the reference finds says all of what the class asks -/
theorem nmJ_all {b : Nat → Nat} {s e : Nat} {o : Option Nat} (h : nmJ b s e 6 0 = o) : ∀ i, i < 6 → isN b s e i = decide (o = some i) := by
  intro i hi
  cases o with
  | none => rw [nmJ_no 6 0 h i (by omega) (by omega)]; exact (decide_eq_false (fun h => by cases h)).symm
  | some j =>
    obtain ⟨a1, a2, a3⟩ := nmJ_is 6 0 j h
    by_cases c : i = j
    · rw [c, a3, decide_eq_true rfl]
    · rw [decide_eq_false (fun h => by cases h; exact c rfl)]
      cases hh : isN b s e i with
      | true => exact absurd (isN_one i j hi (by omega) hh a3) c
      | false => rfl
theorem x_line {N n p : Nat} {b : Nat → Nat} {F : FF} {T : Hs} {q : Bool} (hN : 1000 ≤ N) (h : XS F b n p T q) : ∃ r F1, fX5_takeLine N F = some (r, F1) ∧ match lnP b n p T q with
    | none => r = 0 ∧ FT F F1 ∧ F1 33 1 = F 33 1 ∧ F1 33 2 = 0 ∧ F1 33 5 = nI (stt b n p) ∧ HR 16 F1 T
    | some o => XE F b n r F1 o := by
  obtain ⟨F1, e1, e2, e3, e4, e5, e6⟩ := x_next1 hN h
  have h1 : F1 33 1 = F 33 1 := e2.2 1 (by omega)
  have hs := stt_le (b := b) h.2.2.1
  have ht := tok_le (b := b) hs.2
  unfold fX5_takeLine lnP
  rw [e1, bnd_some, e4.1]
  by_cases c3 : (tok b n (stt b n p)).1 = 3
  · rw [if_pos c3, c3, if_neg (fun h => h rfl)]
    have hS := e5 (by omega)
    exact ⟨0, F1, rfl, rfl, e2.T, h1, hS.2.2.2.1, e3, hS.2.2.2.2.2.1⟩
  · rw [if_neg c3, if_pos (by show ¬ nI _ = nI 3; simp (disch := omega) only [nI_eq]; exact c3)]
    by_cases c4 : (tok b n (stt b n p)).1 = 4
    · rw [if_pos c4, c4, if_neg (by decide)]
      obtain ⟨g1, g2⟩ := x_bad (N := N) (n := n) (b := b) (c := 2) e2.T h1 (e4.2.2.2 c4) e6 h.2.2.2.2.2.2
      rw [g1, bnd_some, xe_zr g2]
      exact ⟨0, F1, rfl, g2⟩
    · rw [if_neg c4]
      have hS := e5 c4
      by_cases c0 : (tok b n (stt b n p)).1 = 0
      · rw [if_pos c0, c0, if_pos (show nI 0 = 0 from rfl)]
        have hw : ∀ (w : UInt32) (j : Nat), w.toNat < 6 → xj w.toNat = j → fX5_isNamed N w F1 = some (bI (isN b (stt b n p) (tok b n (stt b n p)).2.1 j), F1) := fun w j hw hj => by
          rw [← hj]
          exact x_named hN hw hS.1 e3 hS.2.1 ht.1 ht.2.1
        cases hj : nmJ b (stt b n p) (tok b n (stt b n p)).2.1 6 0 with
        | none =>
          have ha := nmJ_all hj
          have hf : ∀ i, i < 6 → bI (isN b (stt b n p) (tok b n (stt b n p)).2.1 i) = 0 := fun i hi => by rw [ha i hi]; rfl
          unfold fX5_kindNamed
          rw [hw 0 4 (by decide) rfl, bnd_some, hf 4 (by omega), if_pos rfl, hw 1 5 (by decide) rfl, bnd_some, hf 5 (by omega), if_pos rfl, hw 2 0 (by decide) rfl, bnd_some, hf 0 (by omega), if_pos rfl, hw 3 1 (by decide) rfl, bnd_some, hf 1 (by omega), if_pos rfl, hw 4 2 (by decide) rfl, bnd_some, hf 2 (by omega), if_pos rfl, hw 5 3 (by decide) rfl, bnd_some, hf 3 (by omega), if_pos rfl, bnd_some, if_neg (fun h => h rfl)]
          obtain ⟨F2, g1, g2⟩ := x_ref (N := N) (n := n) (b := b) (c := 2) e2.T h1 (e4.2.1 c4).2 e3 e6 h.2.2.2.2.2.2
          rw [show fX5_refuse N 2 F1 = some (0, F2) from g1, bnd_some, xe_zr g2]
          exact ⟨0, F2, rfl, g2⟩
        | some j =>
          have ha := nmJ_all hj
          have hj6 := (nmJ_is 6 0 j hj).2.1
          have hf : ∀ i, i < 6 → i ≠ j → bI (isN b (stt b n p) (tok b n (stt b n p)).2.1 i) = 0 := fun i hi hne => by rw [ha i hi, decide_eq_false (fun h => by cases h; exact hne rfl)]; rfl
          have ht' : bI (isN b (stt b n p) (tok b n (stt b n p)).2.1 j) = 1 := by rw [ha j (by omega), decide_eq_true rfl]; rfl
          dsimp only
          by_cases j4 : j = 4
          · subst j4
            rw [hw 0 4 (by decide) rfl, bnd_some, ht', if_neg n10, if_pos rfl]
            cases q with
            | true =>
              rw [if_pos rfl]
              unfold fX5_takeBooks
              rw [show F1 33 8 = 1 from hS.2.2.2.2.1, if_neg n10]
              obtain ⟨F2, g1, g2⟩ := x_ref (N := N) (n := n) (b := b) (c := 4) e2.T h1 (e4.2.1 c4).2 e3 e6 h.2.2.2.2.2.2
              rw [show fX5_refuse N 4 F1 = some (0, F2) from g1, bnd_some, xe_zr g2, bnd_some, xe_zr g2]
              exact ⟨0, F2, rfl, g2⟩
            | false =>
              rw [if_neg (by decide)]
              obtain ⟨r, F2, z1, z2⟩ := x_books hN hS
              rw [z1, bnd_some, xe_zr z2]
              exact ⟨r, F2, rfl, z2.tr e2.T h1⟩
          · rw [if_neg j4, hw 0 4 (by decide) rfl, bnd_some, hf 4 (by omega) (fun h => j4 h.symm), if_pos rfl]
            by_cases j5 : j = 5
            · subst j5
              rw [if_pos rfl, hw 1 5 (by decide) rfl, bnd_some, ht', if_neg n10]
              obtain ⟨r, F2, z1, z2⟩ := x_wants_L (N := N) (q := q) hN 17 0 N _ F1 T (by omega) (by omega) (by omega) hS
              rw [show fX5_takeWants N F1 = some (r, F2) from z1, bnd_some, xe_zr z2]
              exact ⟨r, F2, rfl, z2.tr e2.T h1⟩
            · rw [if_neg j5, hw 1 5 (by decide) rfl, bnd_some, hf 5 (by omega) (fun h => j5 h.symm), if_pos rfl]
              have hkind : fX5_kindNamed N F1 = some (nI j, F1) := by
                unfold fX5_kindNamed
                rcases (show j = 0 ∨ j = 1 ∨ j = 2 ∨ j = 3 by omega) with rfl | rfl | rfl | rfl
                · rw [hw 2 0 (by decide) rfl, bnd_some, ht', if_neg n10]; rfl
                · rw [hw 2 0 (by decide) rfl, bnd_some, hf 0 (by omega) (by omega), if_pos rfl, hw 3 1 (by decide) rfl, bnd_some, ht', if_neg n10]; rfl
                · rw [hw 2 0 (by decide) rfl, bnd_some, hf 0 (by omega) (by omega), if_pos rfl, hw 3 1 (by decide) rfl, bnd_some, hf 1 (by omega) (by omega), if_pos rfl, hw 4 2 (by decide) rfl, bnd_some, ht', if_neg n10]; rfl
                · rw [hw 2 0 (by decide) rfl, bnd_some, hf 0 (by omega) (by omega), if_pos rfl, hw 3 1 (by decide) rfl, bnd_some, hf 1 (by omega) (by omega), if_pos rfl, hw 4 2 (by decide) rfl, bnd_some, hf 2 (by omega) (by omega), if_pos rfl, hw 5 3 (by decide) rfl, bnd_some, ht', if_neg n10]; rfl
              rw [hkind, bnd_some, if_pos (show ¬ nI j = (-1) from nI_neg_ne (k := 1) (by omega) (by omega) (by omega))]
              obtain ⟨r, F2, z1, z2⟩ := x_shelf (k := j) hN hS (by omega) e3
              rw [z1, bnd_some, xe_zr z2]
              exact ⟨r, F2, rfl, z2.tr e2.T h1⟩
      · rw [if_neg c0, if_neg (by show ¬ nI _ = nI 0; simp (disch := omega) only [nI_eq]; exact c0)]
        obtain ⟨F2, g1, g2⟩ := x_ref (N := N) (n := n) (b := b) (c := 2) e2.T h1 (e4.2.1 c4).2 e3 e6 h.2.2.2.2.2.2
        rw [show fX5_refuse N 2 F1 = some (0, F2) from g1, bnd_some, xe_zr g2]
        exact ⟨0, F2, rfl, g2⟩
