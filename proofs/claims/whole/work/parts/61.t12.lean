/-! TEXT: a line, the reference, whole -/
theorem y_b61F {N n c s : Nat} {b : Nat → Nat} {l1 : Int32} {F : FF} {q : Bool} (h4 : F 82 4 = bI q) (h9 : F 82 9 = nI c) (h10 : F 82 10 = nI s) (hc : 1 ≤ c ∧ c ≤ 6) : ∃ F1, fX7_readLine_b61 N l1 F = some ((), F1) ∧ YE F b n F1 (.inl (c, s)) := by
  obtain ⟨x, hx, hx2⟩ : ∃ x : Int32, (if ¬ F 82 4 = 0 then (1 : Int32) else if ¬ l1 = 4 then 0 else 1) = x ∧ (x = 0 ∨ x = 1) := by
    refine ⟨_, rfl, ?_⟩
    split
    · exact Or.inr rfl
    · split
      · exact Or.inl rfl
      · exact Or.inr rfl
  have k9 : fput F 82 4 x 82 9 = nI c := by rw [fpu, if_neg (by omega)]; exact h9
  refine ⟨fput F 82 4 x, ?_, ⟨fun c h1 _ => fput_a h1, fun k hk => by rw [fpu, if_neg (by omega)]⟩, k9, by rw [fpu, if_neg (by omega)]; exact h10, hc⟩
  unfold fX7_readLine_b61
  rw [hx, pZ_4 hx2, y_off k9 hc, bnd_some, k9, if_neg (by show ¬ nI c ≤ nI 0; simp (disch := omega) only [nI_leI]; omega)]
theorem y_line {N n p : Nat} {b : Nat → Nat} {F : FF} {T : Hs} {q : Bool} (hN : 1000 ≤ N) (h : YS F b n p T q) (c3 : ¬ (tok b n (stt b n p)).1 = 3) (c4 : ¬ (tok b n (stt b n p)).1 = 4) : ∃ F1 o, fX7_readLine N F = some ((), F1) ∧ lnP b n p T q = some o ∧ YE F b n F1 o := by
  obtain ⟨h1, h2, h3, h4⟩ := id h
  have hs := stt_le (b := b) h2
  have ht := tok_le (b := b) hs.2
  obtain ⟨g1, g2, g3⟩ := h4.1 c4
  have h8 : F 84 8 = nI T.1.2.1 := h1.2.2.2.2.2.1.1
  have hns : T.1.2.1 ≤ 4 := h1.2.2.2.2.2.2.2.1
  have no : ∀ o, lnP b n p T q = some o → o = .inl (2, stt b n p) → fX7_nameHere N F = some (-4, F) → ∃ F1 o, fX7_readLine N F = some ((), F1) ∧ lnP b n p T q = some o ∧ YE F b n F1 o := by
    intro o ho e hn
    obtain ⟨F1, e1, e2, e3, e4⟩ := y_failed (N := N) (n := n) (b := b) (c := 2) g3 h3 (by omega)
    refine ⟨F1, o, ?_, ho, ?_⟩
    · unfold fX7_readLine
      rw [hn, bnd_some, show pX7_in ((-4 : Int32)).toInt64 0 5 F = 0 by rw [y_in]; rfl, if_neg (fun h => h rfl), show fX7_fails N 2 F = some ((), F1) from e1, bnd_some]
    · rw [e]
      exact ⟨e2.T, e3, e4, by show 1 ≤ 2; omega, by show 2 ≤ 6; omega⟩
  by_cases c0 : (tok b n (stt b n p)).1 = 0
  · have h13 : F 82 13 = 1 := by rw [g1, c0]; rfl
    have hn := y_nameHere (N := N) hN h1.1 h1.2.1 h3 g2 ht.1 ht.2.1 h13
    cases hj : nmJ b (stt b n p) (tok b n (stt b n p)).2.1 6 0 with
    | none =>
      rw [hj] at hn
      refine no (.inl (2, stt b n p)) ?_ rfl hn
      unfold lnP
      rw [if_neg c3, if_neg c4, if_pos c0, hj]
    | some j =>
      rw [hj] at hn
      have hj6 := (nmJ_is 6 0 j hj).2.1
      have hl : lnP b n p T q = some (if j = 4 then (if q = true then .inl (4, stt b n p) else bkP b n (tok b n (stt b n p)).2.1 T) else if j = 5 then wnP b n q 17 (tok b n (stt b n p)).2.1 T else if T.1.2.1 < 4 then semP b n (tok b n (stt b n p)).2.1 (addS T j) q else .inl (5, stt b n p)) := by
        unfold lnP
        rw [if_neg c3, if_neg c4, if_pos c0, hj]
      have hin : pX7_in (nI j).toInt64 0 5 F = 1 := by
        rw [show (5 : Int64) = lN 5 from rfl, yR (by omega), bI_nI (n := 5 + 1) (by omega) (by omega)]
      unfold fX7_readLine
      rw [hn, bnd_some, show oI (some j) = nI j from rfl, hin, if_pos n10, hl, h8]
      by_cases j3 : j ≤ 3
      · rw [if_neg (show ¬ (3 : Int32) < nI j by show ¬ nI 3 < nI j; simp (disch := omega) only [nI_ltI]; omega), if_neg (show ¬ j = 4 by omega), if_neg (show ¬ j = 5 by omega)]
        have n4 : ¬ nI j = 4 := by show ¬ nI j = nI 4; simp (disch := omega) only [nI_eq]; omega
        by_cases cs : T.1.2.1 < 4
        · rw [if_pos (show ¬ nI T.1.2.1 = 4 by show ¬ nI _ = nI 4; simp (disch := omega) only [nI_eq]; omega), fX7_readLine_b44, if_pos n4, if_pos cs]
          obtain ⟨F1, z1, z2⟩ := y_b61 (N := N) (j := j) hN h1 ht.2.1 g2 g3 (by omega) (fun _ => cs)
          rw [if_neg (show ¬ j = 4 by omega), if_neg (show ¬ j = 5 by omega)] at z2
          exact ⟨F1, _, z1, rfl, z2⟩
        · obtain ⟨F1, e1, e2, e3, e4⟩ := y_failed (N := N) (n := n) (b := b) (c := 5) g3 h3 (by omega)
          obtain ⟨F2, z1, z2⟩ := y_b61F (N := N) (n := n) (b := b) (l1 := nI j) (q := q) (by rw [e2.2 4 (by omega)]; exact h1.2.2.2.1) e3 e4 (by omega)
          rw [if_neg (show ¬ ¬ nI T.1.2.1 = 4 by rw [show T.1.2.1 = 4 by omega]; exact fun h => h rfl), show fX7_fails N 5 F = some ((), F1) from e1, bnd_some, fX7_readLine_b44, if_pos n4, if_neg cs]
          exact ⟨F2, _, z1, rfl, z2.tr e2.T⟩
      · rw [if_pos (show (3 : Int32) < nI j by show nI 3 < nI j; simp (disch := omega) only [nI_ltI]; omega), fX7_readLine_b44]
        by_cases j4 : j = 4
        · subst j4
          rw [if_neg (show ¬ ¬ nI 4 = 4 from fun h => h rfl), h1.2.2.2.1, if_pos (show 4 = 4 from rfl)]
          cases q with
          | false =>
            rw [if_pos (show bI false = 0 from rfl), if_neg (show ¬ false = true by decide)]
            obtain ⟨F1, z1, z2⟩ := y_b61 (N := N) (j := 4) hN h1 ht.2.1 g2 g3 (by omega) (fun h => by omega)
            rw [if_pos rfl] at z2
            exact ⟨F1, _, z1, rfl, z2⟩
          | true =>
            obtain ⟨F1, e1, e2, e3, e4⟩ := y_failed (N := N) (n := n) (b := b) (c := 4) g3 h3 (by omega)
            obtain ⟨F2, z1, z2⟩ := y_b61F (N := N) (n := n) (b := b) (l1 := nI 4) (q := true) (by rw [e2.2 4 (by omega)]; exact h1.2.2.2.1) e3 e4 (by omega)
            rw [if_neg (show ¬ bI true = 0 by decide), if_pos (show true = true from rfl), show fX7_fails N 4 F = some ((), F1) from e1, bnd_some]
            exact ⟨F2, _, z1, rfl, z2.tr e2.T⟩
        · have j5 : j = 5 := by omega
          subst j5
          rw [if_pos (show ¬ nI 5 = 4 by decide), if_neg (show ¬ 5 = 4 by omega), if_pos (show 5 = 5 from rfl)]
          obtain ⟨F1, z1, z2⟩ := y_b61 (N := N) (j := 5) hN h1 ht.2.1 g2 g3 (by omega) (fun h => by omega)
          rw [if_neg (show ¬ 5 = 4 by omega), if_pos rfl] at z2
          exact ⟨F1, _, z1, rfl, z2⟩
  · refine no (.inl (2, stt b n p)) ?_ rfl (y_noName hN ?_)
    · unfold lnP
      rw [if_neg c3, if_neg c4, if_neg c0]
    · rw [g1]
      have : yc (tok b n (stt b n p)).1 ≤ 4 ∧ yc (tok b n (stt b n p)).1 ≠ 1 := by unfold yc; split <;> omega
      show ¬ nI _ = nI 1
      simp (disch := omega) only [nI_eq]
      exact this.2
