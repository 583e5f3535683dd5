/-! TEXT: class and reference -/
theorem y_b100 {N c s : Nat} {r : Int32} {F : FF} (h9 : F 82 9 = nI c) (h10 : F 82 10 = nI s) (hc : 1 ≤ c ∧ c ≤ 6) : fX7_text_b100 N r F = some ((-10) - nI s, fput (fput F 82 7 0) 82 8 (nI c)) := by
  unfold fX7_text_b100
  rw [nmE, show fput F 82 7 0 82 9 = nI c by rw [fpu, if_neg (by omega)]; exact h9, nmE, show fput (fput F 82 7 0) 82 8 (nI c) 82 9 = nI c by rw [fpu, if_neg (by omega), fpu, if_neg (by omega)]; exact h9, if_neg (by show ¬ nI c ≤ nI 0; simp (disch := omega) only [nI_leI]; omega), show fput (fput F 82 7 0) 82 8 (nI c) 82 10 = nI s by rw [fpu, if_neg (by omega), fpu, if_neg (by omega)]; exact h10]
theorem y_begin {N n : Nat} {b : Nat → Nat} {F : FF} (hN : 1000 ≤ N) (hB : YB F b n) (hC : RC F) : ∃ r F1, fX7_text N F = fX7_text_b76 N r F1 ∧ YO F b n r F1 (prP b n 161 0 0 T0 false) := by
  have h160 := hB.2.1
  unfold fX7_text
  rw [nmE, nmE, nmE, nmE, nmE]
  obtain ⟨F5, hF5⟩ : ∃ F5, fput (fput (fput (fput (fput F 82 9 0) 82 11 0) 82 3 4) 82 4 0) 82 5 (-1) = F5 := ⟨_, rfl⟩
  rw [hF5]
  have k82 : ∀ k, k ≠ 3 → k ≠ 4 → k ≠ 5 → k ≠ 9 → k ≠ 11 → F5 82 k = F 82 k := fun k h1 h2 h3 h4 h5 => by rw [← hF5, fpu, if_neg (by omega), fpu, if_neg (by omega), fpu, if_neg (by omega), fpu, if_neg (by omega), fpu, if_neg (by omega)]
  have kc : ∀ c, c ≠ 82 → F5 c = F c := fun c hc => by rw [← hF5, fput_a hc, fput_a hc, fput_a hc, fput_a hc, fput_a hc]
  have v9 : F5 82 9 = 0 := by rw [← hF5]; simp only [fpu]; rfl
  have v11 : F5 82 11 = nI 0 := by rw [← hF5]; simp only [fpu]; rfl
  have v3 : F5 82 3 = nI 4 := by rw [← hF5]; simp only [fpu]; rfl
  have v4 : F5 82 4 = bI false := by rw [← hF5]; simp only [fpu]; rfl
  have v5 : F5 82 5 = -1 := by rw [← hF5]; simp only [fpu]; rfl
  obtain ⟨F6, z1, z2, z3⟩ := y_z_L (N := N) (l1 := 0) (F0 := F5) 75 0 N F5 rfl (by omega) (fun _ _ => rfl) (fun k hk => absurd hk (Nat.not_lt_zero k))
  have e82 : F6 82 = F5 82 := z2 82 (by omega)
  have hD : YD F6 b n T0 false := by
    refine ⟨⟨by rw [e82, k82 7 (by omega) (by omega) (by omega) (by omega) (by omega)]; exact hB.1, h160, fun i hi => by rw [z2 85 (by omega), kc 85 (by omega)]; exact hB.2.2 i hi⟩, hC.mv (by rw [z2 86 (by omega), kc 86 (by omega)]) (by rw [z2 87 (by omega), kc 87 (by omega)]), by rw [e82]; exact v3, by rw [e82]; exact v4, by rw [e82]; exact v5, ⟨z3 8 (by omega), z3 25 (by omega), z3 26 (by omega), fun s hs => absurd hs (Nat.not_lt_zero s), fun i hi => absurd hi (Nat.not_lt_zero i)⟩, ⟨⟨by decide, by decide⟩, by decide, by decide, rfl, fun i hi => absurd hi (Nat.not_lt_zero i), fun s hs => absurd hs (Nat.not_lt_zero s)⟩⟩
  obtain ⟨F7, e1, e2, e3⟩ := y_on (N := N) hN hD (Nat.zero_le n) (by rw [e82]; exact v11) (by rw [e82]; exact v9)
  obtain ⟨r, F8, y1, y2, y3⟩ := y_all_L (N := N) hN 161 0 0 N F7 T0 false (by omega) (by omega) e3
  refine ⟨r, F8, ?_, (show FYT F F6 from ⟨fun c h1 h2 => by rw [z2 c h2, kc c h1], fun k hk => by rw [e82, k82 k (by omega) (by omega) (by omega) (by omega) (by omega)]⟩).tr (e2.T.tr y2), y3⟩
  rw [show fX7_text_L29 N 0 N 0 F5 = _ from z1, e1, bnd_some]
  exact y1
