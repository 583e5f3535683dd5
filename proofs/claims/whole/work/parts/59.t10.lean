/-! TEXT: books, the reference -/
theorem y_books {N n p : Nat} {b : Nat → Nat} {F : FF} {T : Hs} (hN : 1000 ≤ N) (h : YS F b n p T true) (c4 : ¬ (tok b n (stt b n p)).1 = 4) : ∃ F1, (bnd (fX7_readMore N 4 F) fun _ F3 => yTail N F3) = some ((), F1) ∧ YE F b n F1 (bkP b n p T) := by
  obtain ⟨h1, h2, h3, h4⟩ := id h
  have ht := tok_le (b := b) (stt_le (b := b) h2).2
  obtain ⟨g1, g2, g3⟩ := h4.1 c4
  unfold fX7_readMore bkP
  rw [if_pos (show (3 : Int32) < 4 by decide), if_neg (show ¬ ¬ (4 : Int32) = 4 from fun h => h rfl), if_neg c4]
  by_cases c1 : (tok b n (stt b n p)).1 = 1
  · rw [if_pos c1]
    obtain ⟨v, F1, e1, e2, e3⟩ := y_number (N := N) (lo := 1) (hi := 6) hN h c1 (by omega) (by omega)
    rw [show fX7_number N 1 6 F = some (v, F1) from e1, bnd_some, nmE, bnd_some]
    obtain ⟨F2, hF2⟩ : ∃ F2, fput F1 82 3 v = F2 := ⟨_, rfl⟩
    rw [hF2]
    have k3 : F2 82 3 = v := by rw [← hF2, fpu, if_pos ⟨rfl, rfl⟩]
    have k82 : ∀ k, k ≠ 3 → F2 82 k = F1 82 k := fun k hk => by rw [← hF2, fpu, if_neg (fun h => hk h.2)]
    have kc : ∀ c, c ≠ 82 → F2 c = F1 c := fun c hc => by rw [← hF2, fput_a hc]
    have hT2 : FYT F F2 := e2.T.tr ⟨fun c h1 _ => kc c h1, fun k hk => k82 k (by omega)⟩
    by_cases cv : 1 ≤ (tok b n (stt b n p)).2.2 ∧ (tok b n (stt b n p)).2.2 ≤ 6
    · rw [if_pos cv] at e3
      rw [if_pos cv]
      obtain ⟨ev, ⟨d1, d2, d3, d4, d5, d6, d7⟩, s2, s3, s4⟩ := e3
      have hS : YS F2 b n (tok b n (stt b n p)).2.1 (setB T (tok b n (stt b n p)).2.2) true := by
        refine ⟨⟨⟨by rw [k82 7 (by omega)]; exact d1.1, d1.2.1, fun j hj => by rw [kc 85 (by omega)]; exact d1.2.2 j hj⟩, d2.mv (kc 86 (by omega)) (kc 87 (by omega)), by rw [k3, ev]; rfl, by rw [k82 4 (by omega)]; exact d4, ?_, ?_, d7.setB cv⟩, s2, by rw [k82 12 (by omega)]; exact s3, ?_⟩
        · rw [k82 5 (by omega), d5]
          exact (mwI_cg (T := T) (T' := setB T (tok b n (stt b n p)).2.2) T.1.2.2.1 (fun _ _ => rfl)).symm
        · unfold PG
          rw [kc 84 (by omega)]
          exact d6
        · unfold YK
          rw [k82 13 (by omega), k82 11 (by omega), k82 9 (by omega), k82 14 (by omega), k82 10 (by omega)]
          exact s4
      obtain ⟨F3, z1, z2⟩ := y_semi (N := N) hN hS
      exact ⟨F3, z1, z2.tr hT2⟩
    · rw [if_neg cv] at e3
      rw [if_neg cv]
      obtain ⟨F3, z1, z2⟩ := y_tailF (N := N) (n := n) (b := b) (F := F2) (c := 3) (s := stt b n p) (by rw [k82 9 (by omega)]; exact e3.1) (by rw [k82 10 (by omega)]; exact e3.2) (by omega)
      exact ⟨F3, z1, z2.tr hT2⟩
  · rw [if_neg c1]
    have hne : ¬ nI (yc (tok b n (stt b n p)).1) = 2 := by
      have : yc (tok b n (stt b n p)).1 ≤ 4 ∧ yc (tok b n (stt b n p)).1 ≠ 2 := by unfold yc; split <;> omega
      show ¬ nI _ = nI 2
      simp (disch := omega) only [nI_eq]
      exact this.2
    obtain ⟨F1, e1, e2, e3, e4⟩ := y_failed (N := N) (n := n) (b := b) (c := 2) g3 h3 (by omega)
    have h9 : ¬ F1 82 9 = 0 := by rw [e3]; exact y_ne (by omega)
    unfold fX7_number fX7_number_b20 fX7_number_b47
    rw [g3, if_neg (show ¬ ¬ (0 : Int32) = 0 from fun h => h rfl), g1, if_neg hne, show fX7_fails N 2 F = some ((), F1) from e1, bnd_some, if_pos h9, y_off e3 (by omega), bnd_some, bnd_some, nmE, bnd_some]
    obtain ⟨F3, z1, z2⟩ := y_tailF (N := N) (n := n) (b := b) (F := fput F1 82 3 (if ¬ F1 82 9 = 0 then 1 else F1 82 14)) (c := 2) (s := stt b n p) (by rw [fpu, if_neg (by omega)]; exact e3) (by rw [fpu, if_neg (by omega)]; exact e4) (by omega)
    exact ⟨F3, z1, z2.tr (e2.T.tr ⟨fun c h1 _ => fput_a h1, fun k hk => by rw [fpu, if_neg (by omega)]⟩)⟩
