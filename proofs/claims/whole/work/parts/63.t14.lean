/-! TEXT: the reference begins -/
theorem y_z_L {N : Nat} {l1 : Int32} {F0 : FF} : ∀ (m i n' : Nat) (F : FF), i + m = 75 → m < n' → (∀ c, c ≠ 84 → F c = F0 c) → (∀ k, k < i → F 84 k = 0) → ∃ F1, fX7_text_L29 N l1 n' (nI i) F = (bnd (fX7_readsOn N F1) fun _ F2 => fX7_text_L52 N N l1 F2) ∧ (∀ c, c ≠ 84 → F1 c = F0 c) ∧ ∀ k, k < 75 → F1 84 k = 0 := by
  intro m
  induction m with
  | zero =>
    intro i n' F hi hn h1 h2
    obtain ⟨n', rfl⟩ : ∃ k, n' = k + 1 := ⟨n' - 1, by omega⟩
    refine ⟨F, ?_, h1, fun k hk => h2 k (by omega)⟩
    rw [fX7_text_L29.eq_2, if_pos (by show nI 75 ≤ nI i; simp (disch := omega) only [nI_leI]; omega)]
  | succ m ih =>
    intro i n' F hi hn h1 h2
    obtain ⟨n', rfl⟩ : ∃ k, n' = k + 1 := ⟨n' - 1, by omega⟩
    rw [fX7_text_L29.eq_2, if_neg (by show ¬ nI 75 ≤ nI i; simp (disch := omega) only [nI_leI]; omega), st_ok a84 (by omega), show nI i + 1 = nI (i + 1) from nI_1 i]
    refine ih (i + 1) n' _ (by omega) (by omega) (fun c hc => by rw [fput_a hc]; exact h1 c hc) (fun k hk => ?_)
    rw [fpu]
    by_cases e : k = i
    · rw [if_pos ⟨rfl, e⟩]
    · rw [if_neg (fun h => e h.2)]; exact h2 k (by omega)
