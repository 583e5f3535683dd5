/-! TEXT: the wants that have no book -/
theorem wnB_no {T : Hs} : ∀ (m i : Nat), (∀ j, i ≤ j → j < i + m → ∃ b, T.2.2 j = some b ∧ b < T.1.1) → wnB T m i = false := by
  intro m
  induction m with
  | zero => intro i _; rfl
  | succ m ih =>
    intro i h
    obtain ⟨b, h1, h2⟩ := h i (by omega) (by omega)
    unfold wnB
    rw [h1]
    dsimp only
    rw [if_pos h2]
    exact ih (i + 1) (fun j a1 a2 => h j (by omega) (by omega))
theorem mw_rng {T : Hs} : ∀ m, (∀ i, i < m → ∃ b, b < 6 ∧ T.2.2 i = some b) → -1 ≤ (mwI T m).toInt ∧ (mwI T m).toInt < 6 ∧ ∀ v : Nat, v ≤ 6 → ((mwI T m).toInt < (v : Int) ↔ ∀ i, i < m → ∀ b, T.2.2 i = some b → b < v) := by
  intro m
  induction m with
  | zero => intro _; exact ⟨by rw [show (mwI T 0).toInt = -1 from rfl]; omega, by rw [show (mwI T 0).toInt = -1 from rfl]; omega, fun v _ => ⟨fun _ i hi => absurd hi (Nat.not_lt_zero i), fun _ => by rw [show (mwI T 0).toInt = -1 from rfl]; omega⟩⟩
  | succ m ih =>
    intro h
    obtain ⟨a1, a2, a3⟩ := ih (fun i hi => h i (by omega))
    obtain ⟨b, hb, e⟩ := h m (by omega)
    have hb' : (nI b).toInt = (b : Int) := nI_toInt (by omega)
    have key : ∀ v : Nat, (∀ i, i < m + 1 → ∀ c, T.2.2 i = some c → c < v) ↔ (∀ i, i < m → ∀ c, T.2.2 i = some c → c < v) ∧ b < v := by
      intro v
      constructor
      · intro hh
        exact ⟨fun i hi => hh i (by omega), hh m (by omega) b e⟩
      · intro hh i hi c hc
        by_cases ci : i = m
        · rw [ci, e] at hc; cases hc; exact hh.2
        · exact hh.1 i (by omega) c hc
    unfold mwI
    rw [e, show wI (some b) = nI b from rfl]
    by_cases c : nI b ≤ mwI T m
    · rw [if_pos c]
      rw [Int32.le_iff_toInt_le, hb'] at c
      refine ⟨a1, a2, fun v hv => ?_⟩
      rw [key v, a3 v hv]
      constructor
      · intro hh
        exact ⟨hh, by have := (a3 v hv).mpr hh; omega⟩
      · exact fun hh => hh.1
    · rw [if_neg c]
      rw [Int32.le_iff_toInt_le, hb'] at c
      rw [hb']
      refine ⟨by omega, by omega, fun v hv => ?_⟩
      rw [key v]
      constructor
      · intro hh
        exact ⟨(a3 v hv).mp (by omega), by omega⟩
      · intro hh
        have := hh.2
        omega
theorem mw_wn {T : Hs} (h : WT T) : mwI T T.1.2.2.1 < nI T.1.1 ↔ wnB T T.1.2.2.1 0 = false := by
  obtain ⟨w1, w2, w3, w4, w5, w6⟩ := h
  obtain ⟨a1, a2, a3⟩ := mw_rng T.1.2.2.1 w5
  rw [Int32.lt_iff_toInt_lt, nI_toInt (by omega), a3 T.1.1 w1.2]
  constructor
  · intro hh
    refine wnB_no _ 0 (fun j _ hj => ?_)
    obtain ⟨b, hb, e⟩ := w5 j (by omega)
    exact ⟨b, e, hh j (by omega) b e⟩
  · intro hh i hi b e
    exact wnB_ok _ 0 hh i (by omega) (by omega) b e
