/-! TEXT: the reference's rows begin -/
theorem y_o_L {N ns : Nat} {l1 : Int32} {F0 : FF} (hN : 1000 ≤ N) (hns : ns ≤ 4) (h8 : F0 83 8 = nI ns) : ∀ (m i n' : Nat) (F : FF), i + m = ns → m < n' → (∀ c, c ≠ 83 → F c = F0 c) → (∀ k, (k < 4 ∨ (8 ≤ k ∧ k < 27) ∨ 75 ≤ k) → F 83 k = F0 83 k) → (∀ s, s < i → F 83 (4 + s) = nI 0 ∧ ∀ p, p < 6 → F 83 (27 + 6 * s + p) = nI p ∧ F 83 (51 + 6 * s + p) = nI 0) → ∃ F1, fX7_text_L164 N l1 n' (nI i) F = some (l1, fput (fput (fput F1 82 22 0) 91 0 0) 91 1 0) ∧ (∀ c, c ≠ 83 → F1 c = F0 c) ∧ (∀ k, (k < 4 ∨ (8 ≤ k ∧ k < 27) ∨ 75 ≤ k) → F1 83 k = F0 83 k) ∧ ∀ s, s < ns → F1 83 (4 + s) = nI 0 ∧ ∀ p, p < 6 → F1 83 (27 + 6 * s + p) = nI p ∧ F1 83 (51 + 6 * s + p) = nI 0 := by
  intro m
  induction m with
  | zero =>
    intro i n' F hi hn h1 h2 h3
    obtain ⟨n', rfl⟩ : ∃ k, n' = k + 1 := ⟨n' - 1, by omega⟩
    refine ⟨F, ?_, h1, h2, fun s hs => h3 s (by omega)⟩
    rw [fX7_text_L164.eq_2, h2 8 (by omega), h8, if_pos (by simp (disch := omega) only [nI_leI]; omega), nmE, nmE, nmE]
  | succ m ih =>
    intro i n' F hi hn h1 h2 h3
    obtain ⟨n', rfl⟩ : ∃ k, n' = k + 1 := ⟨n' - 1, by omega⟩
    obtain ⟨F1, o1, o2, o3, o4, o5⟩ := y_orders (N := N) (s := i) (F := F) hN (by omega)
    rw [fX7_text_L164.eq_2, h2 8 (by omega), h8, if_neg (by simp (disch := omega) only [nI_leI]; omega), o1, bnd_some, show nI i + 1 = nI (i + 1) from nI_1 i]
    refine ih (i + 1) n' F1 (by omega) (by omega) (fun c hc => (o2 c hc).trans (h1 c hc)) (fun k hk => by rw [o3 k (by omega) (by omega) (by omega)]; exact h2 k hk) (fun s hs => ?_)
    by_cases e : s = i
    · rw [e]; exact ⟨o4, o5⟩
    · obtain ⟨a1, a2⟩ := h3 s (by omega)
      refine ⟨by rw [o3 _ (by omega) (by omega) (by omega)]; exact a1, fun p hp => ⟨by rw [o3 _ (by omega) (by omega) (by omega)]; exact (a2 p hp).1, by rw [o3 _ (by omega) (by omega) (by omega)]; exact (a2 p hp).2⟩⟩
