/-! TEXT: the class takes it in -/
theorem wnB_ok {T : Hs} : ∀ (m i : Nat), wnB T m i = false → ∀ j, i ≤ j → j < i + m → ∀ b, T.2.2 j = some b → b < T.1.1 := by
  intro m
  induction m with
  | zero => intro i _ j h1 h2; omega
  | succ m ih =>
    intro i h j h1 h2 b e
    unfold wnB at h
    cases hT : T.2.2 i with
    | none => rw [hT] at h; cases h
    | some c =>
      rw [hT] at h
      dsimp only at h
      split at h
      · by_cases e2 : j = i
        · rw [e2, hT] at e
          cases e
          assumption
        · exact ih (i + 1) h j (by omega) (by omega) b e
      · cases h
theorem WT.WH {T : Hs} (h : WT T) (hb : wnB T T.1.2.2.1 0 = false) : WH T ∧ okA T := by
  obtain ⟨a1, a2, a3, a4, a5, a6⟩ := h
  refine ⟨⟨a1, a2, a3, by rw [a4]; omega, fun i hi b e => wnB_ok _ 0 hb i (by omega) (by omega) b e, fun s hs => ?_⟩, fun i hi => ?_⟩
  · obtain ⟨k, hk, e⟩ := a6 s hs
    rw [e]
    exact ws_new hk
  · obtain ⟨b, _, e⟩ := a5 i hi
    exact ⟨b, e⟩
/-- what the class answers to a text, and what it has then -/
def XA (F : FF) (r : Int32) (F1 : FF) (o : (Nat × Nat) ⊕ (Nat × Nat × Hs)) : Prop := F1 33 1 = 0 ∧ (∀ c, c ≠ 33 → c ≠ 32 → c ≠ 35 → (c < 1 ∨ 31 ≤ c) → F1 c = F c) ∧ match o with
  | .inl f => r = (-10) - nI f.2 ∧ F1 33 2 = nI f.1 ∧ FT F F1
  | .inr g => if wnB g.2.2 g.2.2.1.2.2.1 0 = true then r = (-10) - nI g.2.1 ∧ F1 33 2 = 6 ∧ FT F F1 else r = nI g.1 ∧ F1 33 2 = 0 ∧ HR 1 F1 g.2.2 ∧ WH g.2.2 ∧ okA g.2.2 ∧ WT g.2.2 ∧ F1 35 0 = 0 ∧ F1 32 0 = 0 ∧ F1 32 1 = 0
theorem x_text {N n : Nat} {b : Nat → Nat} {F : FF} (hN : 1000 ≤ N) (h : XB F b n) : ∃ r F1, fX6_text N F = some (r, F1) ∧ XA F r F1 (prP b n 161 0 0 T0 false) := by
  obtain ⟨r, F1, e1, e2, e3, e4⟩ := x_tell hN h
  unfold fX6_text
  rw [e1, bnd_some, nmE]
  obtain ⟨F2, hF2⟩ : ∃ F2, fput F1 33 1 0 = F2 := ⟨_, rfl⟩
  rw [hF2]
  have f1 : F2 33 1 = 0 := by rw [← hF2, fpu, if_pos ⟨rfl, rfl⟩]
  have ff : ∀ k, k ≠ 1 → F2 33 k = F1 33 k := fun k hk => by rw [← hF2, fpu, if_neg (fun h => hk h.2)]
  have fc : ∀ c, c ≠ 33 → F2 c = F1 c := fun c hc => by rw [← hF2, fput_a hc]
  have hT2 : FT F F2 := fun c h1 h2 => (fc c h1).trans (e2 c h1 h2)
  rw [ff 2 (by omega), ff 3 (by omega)]
  cases ho : prP b n 161 0 0 T0 false with
  | inl f =>
    rw [ho] at e4
    obtain ⟨g1, g2, g3⟩ := e4
    rw [g1, if_neg (by show ¬ nI f.1 = nI 0; simp (disch := omega) only [nI_eq]; omega), g2]
    exact ⟨_, F2, rfl, f1, fun c h1 _ _ h4 => by
      by_cases c16 : c < 31
      · exact hT2 c h1 (by omega)
      · exact hT2 c h1 (by omega), rfl, by rw [ff 2 (by omega)]; exact g1, hT2⟩
  | inr g =>
    rw [ho] at e4
    obtain ⟨g1, g2, g3, g4⟩ := e4
    cases hb : wnB g.2.2 g.2.2.1.2.2.1 0 with
    | true =>
      rw [hb, if_pos rfl] at g4
      rw [g4.1, if_neg (by decide), g4.2]
      refine ⟨_, F2, rfl, f1, fun c h1 _ _ h4 => hT2 c h1 (by omega), ?_⟩
      show (if wnB g.2.2 g.2.2.1.2.2.1 0 = true then _ else _)
      rw [hb, if_pos rfl]
      exact ⟨rfl, by rw [ff 2 (by omega)]; exact g4.1, hT2⟩
    | false =>
      rw [hb, if_neg (by decide)] at g4
      obtain ⟨hW, hA⟩ := g3.WH hb
      have hR2 : HR 16 F2 g.2.2 := g2.keep hW.2.1 (fun c _ _ => fc c (by omega))
      obtain ⟨F3, c1, c2, c3⟩ := x_copyH (N := N) (h := 1) (h0 := 16) hN iH1 iH16 (by omega) hR2 hW
      obtain ⟨F4, hF4⟩ : ∃ F4, fput F3 35 0 0 = F4 := ⟨_, rfl⟩
      obtain ⟨F5, hF5⟩ : ∃ F5, fput (fput F4 32 0 0) 32 1 0 = F5 := ⟨_, rfl⟩
      have hloop : fX6_text_L62 N r N 0 F4 = some (r, F5) := by
        obtain ⟨K, hK⟩ : ∃ K, N = K + 1 + 1 + 1 := ⟨N - 3, by omega⟩
        have st0 : ∀ (G : FF) (k : FF → Option (Int32 × FF)), stZ 32 0 0 G k = k (fput G 32 0 0) := fun G k => stZ_ok (j := 0) a32 (by omega) (Or.inl rfl)
        have st1 : ∀ (G : FF) (k : FF → Option (Int32 × FF)), stZ 32 (0 + 1) 0 G k = k (fput G 32 1 0) := fun G k => stZ_ok (j := 1) a32 (by omega) (Or.inl rfl)
        rw [hK, fX6_text_L62.eq_2, if_neg (by decide), st0, fX6_text_L62.eq_2, if_neg (by decide), st1, fX6_text_L62.eq_2, if_pos (by decide), hF5]
      have k5 : ∀ c, c ≠ 32 → c ≠ 35 → F5 c = F3 c := fun c h1 h2 => by rw [← hF5, fput_a h1, fput_a h1, ← hF4, fput_a h2]
      rw [g4, if_pos rfl, c1, bnd_some, nmE, hF4, hloop]
      refine ⟨r, F5, rfl, by rw [k5 33 (by omega) (by omega), c3 33 (by omega)]; exact f1, fun c h1 h2 h3 h4 => by rw [k5 c h2 h3, c3 c (by omega)]; exact hT2 c h1 (by omega), ?_⟩
      show (if wnB g.2.2 g.2.2.1.2.2.1 0 = true then _ else _)
      rw [hb, if_neg (by decide)]
      refine ⟨g1, by rw [k5 33 (by omega) (by omega), c3 33 (by omega), ff 2 (by omega)]; exact g4, c2.keep hW.2.1 (fun c _ _ => k5 c (by omega) (by omega)), hW, hA, g3, ?_, ?_, ?_⟩
      · rw [← hF5, fput_a (by omega), fput_a (by omega), ← hF4, fpu, if_pos ⟨rfl, rfl⟩]
      · rw [← hF5, fpu, if_neg (by omega), fpu, if_pos ⟨rfl, rfl⟩]
      · rw [← hF5, fpu, if_pos ⟨rfl, rfl⟩]
