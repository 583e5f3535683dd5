/-! TEXT: the reference takes it in -/
theorem y_p_L {N : Nat} {l1 : Int32} {F0 : FF} : ∀ (m i n' : Nat) (F : FF), i + m = 75 → m < n' → (∀ c, c ≠ 83 → F c = F0 c) → (∀ k, F 83 k = if k < i then F0 84 k else F0 83 k) → ∃ F1, fX7_text_L130 N l1 n' (nI i) F = fX7_text_L164 N l1 N 0 (fput F1 82 1 (F0 82 3)) ∧ (∀ c, c ≠ 83 → F1 c = F0 c) ∧ ∀ k, F1 83 k = if k < 75 then F0 84 k else F0 83 k := by
  intro m
  induction m with
  | zero =>
    intro i n' F hi hn h1 h2
    obtain ⟨n', rfl⟩ : ∃ k, n' = k + 1 := ⟨n' - 1, by omega⟩
    refine ⟨F, ?_, h1, fun k => by rw [h2, show i = 75 by omega]⟩
    rw [fX7_text_L130.eq_2, if_pos (by show nI 75 ≤ nI i; simp (disch := omega) only [nI_leI]; omega), nmE, h1 82 (by omega)]
  | succ m ih =>
    intro i n' F hi hn h1 h2
    obtain ⟨n', rfl⟩ : ∃ k, n' = k + 1 := ⟨n' - 1, by omega⟩
    rw [fX7_text_L130.eq_2, if_neg (by show ¬ nI 75 ≤ nI i; simp (disch := omega) only [nI_leI]; omega), ld_ok a84 (by omega), st_ok a83 (by omega), show nI i + 1 = nI (i + 1) from nI_1 i, h1 84 (by omega)]
    refine ih (i + 1) n' _ (by omega) (by omega) (fun c hc => by rw [fput_a hc]; exact h1 c hc) (fun k => ?_)
    rw [fpu, h2]
    by_cases e : k = i
    · rw [if_pos ⟨rfl, e⟩, if_pos (by omega), e]
    · rw [if_neg (fun h => e h.2)]
      by_cases e2 : k < i
      · rw [if_pos e2, if_pos (by omega)]
      · rw [if_neg e2, if_neg (by omega)]
