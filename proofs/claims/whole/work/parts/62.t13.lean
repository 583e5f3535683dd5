/-! TEXT: all lines, the reference -/
def YO (F : FF) (b : Nat → Nat) (n : Nat) (r : Int32) (F1 : FF) (o : (Nat × Nat) ⊕ (Nat × Nat × Hs)) : Prop := FYT F F1 ∧ match o with
  | .inl f => F1 82 9 = nI f.1 ∧ F1 82 10 = nI f.2 ∧ 1 ≤ f.1 ∧ f.1 ≤ 6
  | .inr g => r = nI g.1 ∧ F1 82 9 = 0 ∧ F1 82 12 = nI g.2.1 ∧ ∃ q, YD F1 b n g.2.2 q
theorem y_all_L {N n : Nat} {b : Nat → Nat} (hN : 1000 ≤ N) : ∀ (m p l n' : Nat) (F : FF) (T : Hs) (q : Bool), n - p < m → m < n' → YS F b n p T q → ∃ r F1, fX7_text_L52 N n' (nI l) F = fX7_text_b76 N r F1 ∧ YO F b n r F1 (prP b n m p l T q) := by
  intro m
  induction m with
  | zero => intro p l n' F T q hm; omega
  | succ m ih =>
    intro p l n' F T q hm hn h
    obtain ⟨n', rfl⟩ : ∃ k, n' = k + 1 := ⟨n' - 1, by omega⟩
    obtain ⟨h1, h2, h3, h4⟩ := id h
    have ht := tok_le (b := b) (stt_le (b := b) h2).2
    rw [fX7_text_L52.eq_2, prP]
    by_cases c4 : (tok b n (stt b n p)).1 = 4
    · obtain ⟨m1, m2⟩ := h4.2.2 c4
      have hl : lnP b n p T q = some (.inl (1, stt b n p)) := by unfold lnP; rw [if_neg (by omega), if_pos c4]
      rw [hl, if_pos (show ¬ F 82 9 = 0 by rw [m1]; decide)]
      exact ⟨nI l, F, rfl, FYT.rf, m1, m2, by show 1 ≤ 1; omega, by show 1 ≤ 6; omega⟩
    · obtain ⟨m1, m2, m3⟩ := h4.1 c4
      rw [m3, if_neg (show ¬ ¬ (0 : Int32) = 0 from fun h => h rfl), m1]
      by_cases c3 : (tok b n (stt b n p)).1 = 3
      · have hl : lnP b n p T q = none := by unfold lnP; rw [if_pos c3]
        rw [hl, c3, if_pos (show nI (yc 3) = 0 from rfl)]
        exact ⟨nI l, F, rfl, FYT.rf, rfl, m3, h3, q, h1⟩
      · obtain ⟨F1, o, e1, e2, e3⟩ := y_line (N := N) hN h c3 c4
        have hne : ¬ nI (yc (tok b n (stt b n p)).1) = 0 := by
          have : yc (tok b n (stt b n p)).1 ≤ 4 ∧ yc (tok b n (stt b n p)).1 ≠ 0 := by unfold yc; split <;> omega
          show ¬ nI _ = nI 0
          simp (disch := omega) only [nI_eq]
          exact this.2
        rw [if_neg hne, e1, bnd_some, e2, show nI l + 1 = nI (l + 1) from nI_1 l]
        cases o with
        | inl f =>
          obtain ⟨k1, k2, k3, k4⟩ := e3
          obtain ⟨n', rfl⟩ : ∃ k, n' = k + 1 := ⟨n' - 1, by omega⟩
          rw [fX7_text_L52.eq_2, if_pos (by rw [k2]; exact y_ne k4)]
          exact ⟨_, F1, rfl, k1, k2, k3, k4⟩
        | inr g =>
          obtain ⟨k1, k2⟩ := e3
          obtain ⟨p', T', q'⟩ := g
          have ha := ln_adv h2 e2
          obtain ⟨r, F2, z1, z2, z3⟩ := ih p' (l + 1) n' F1 T' q' (by omega) (by omega) k2
          exact ⟨r, F2, z1, k1.tr z2, z3⟩
