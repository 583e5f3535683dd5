/-! TEXT: both -/
/-- a refused text -/
theorem t_no {N n c s : Nat} {b : Nat → Nat} {F F1 F2 : FF} {H : Hs} {r' : Int32} (h : IP F H) (hT : FT F F1) (h1 : F1 33 1 = 0) (h2 : F1 33 2 = nI c) (hc : 1 ≤ c ∧ c ≤ 6) (hY : FYT F1 F2) (h9 : F2 82 9 = nI c) (h10 : F2 82 10 = nI s) : ∃ F3, fX7_text_b100 N r' F2 = some ((-10) - nI s, F3) ∧ Inv F3 := by
  refine ⟨_, y_b100 h9 h10 hc, inv_T h ?_ ?_ ?_ ?_ ?_⟩
  · intro c h33 h82 h84 hcc
    rw [fput_a h82, fput_a h82, hY.1 c h82 h84]
    exact hT c h33 hcc
  · rw [fput_a (by omega), fput_a (by omega), hY.1 33 (by omega) (by omega)]
    exact h1
  · intro k hk
    rw [fpu, if_neg (by omega), fpu, if_neg (by omega), hY.2 k (by omega), hT 82 (by omega) (by omega)]
  · rw [fpu, if_neg (by omega), fpu, if_pos ⟨rfl, rfl⟩]
  · rw [fput_a (by omega), fput_a (by omega), hY.1 33 (by omega) (by omega), h2, fpu, if_pos ⟨rfl, rfl⟩]
/-- a text that was taken -/
theorem t_yes {N n : Nat} {b : Nat → Nat} {q : Bool} {F F1 F2 : FF} {H T : Hs} {r' : Int32} (hN : 1000 ≤ N) (h : IP F H) (hx : ∀ c, c ≠ 33 → c ≠ 32 → c ≠ 35 → (c < 1 ∨ 31 ≤ c) → F1 c = F c) (h331 : F1 33 1 = 0) (h332 : F1 33 2 = 0) (hR : HR 1 F1 T) (hW : WH T) (hA : okA T) (hWT : WT T) (h35 : F1 35 0 = 0) (h320 : F1 32 0 = 0) (h321 : F1 32 1 = 0) (hY : FYT F1 F2) (h9 : F2 82 9 = 0) (hD : YD F2 b n T q) : ∃ F3, fX7_text_b100 N r' F2 = some (r', F3) ∧ Inv F3 := by
  obtain ⟨a1, a2, a3, a4, a5, a6, a7, a8⟩ := h
  obtain ⟨d1, d2, d3, d4, d5, ⟨p1, p2, p3, p4, p5⟩, d7⟩ := hD
  obtain ⟨w1, w2, w3, w4, w5, w6⟩ := hWT
  have b20 : F 82 20 = -4 := a1.2.2.2.2.2
  unfold fX7_text_b100
  rw [nmE, show fput F2 82 7 0 82 9 = 0 by rw [fpu, if_neg (by omega)]; exact h9, nmE]
  obtain ⟨F3, hF3⟩ : ∃ F3, fput (fput F2 82 7 0) 82 8 0 = F3 := ⟨_, rfl⟩
  rw [hF3]
  have k3 : ∀ c, c ≠ 82 → F3 c = F2 c := fun c hc => by rw [← hF3, fput_a hc, fput_a hc]
  have k82 : ∀ k, k ≠ 7 → k ≠ 8 → F3 82 k = F2 82 k := fun k h1 h2 => by rw [← hF3, fpu, if_neg (by omega), fpu, if_neg (by omega)]
  have v7 : F3 82 7 = 0 := by rw [← hF3, fpu, if_neg (by omega), fpu, if_pos ⟨rfl, rfl⟩]
  have v8 : F3 82 8 = 0 := by rw [← hF3, fpu, if_pos ⟨rfl, rfl⟩]
  rw [if_pos (by rw [k82 9 (by omega) (by omega), h9]; decide)]
  obtain ⟨F4, e1, e2, e3⟩ := y_p_L (N := N) (l1 := r') (F0 := F3) 75 0 N F3 rfl (by omega) (fun _ _ => rfl) (fun k => by rw [if_neg (Nat.not_lt_zero k)])
  rw [show fX7_text_L130 N r' N 0 F3 = _ from e1, k82 3 (by omega) (by omega), d3]
  obtain ⟨F5, hF5⟩ : ∃ F5, fput F4 82 1 (nI T.1.1) = F5 := ⟨_, rfl⟩
  rw [hF5]
  have k5 : ∀ c, c ≠ 82 → F5 c = F4 c := fun c hc => by rw [← hF5, fput_a hc]
  have k85 : ∀ k, k ≠ 1 → F5 82 k = F3 82 k := fun k h1 => by rw [← hF5, fpu, if_neg (by omega), e2 82 (by omega)]
  have v1 : F5 82 1 = nI T.1.1 := by rw [← hF5, fpu, if_pos ⟨rfl, rfl⟩]
  have p83 : ∀ k, k < 75 → F5 83 k = F2 84 k := fun k hk => by rw [k5 83 (by omega), e3, if_pos hk, k3 84 (by omega)]
  obtain ⟨F6, g1, g2, g3, g4⟩ := y_o_L (N := N) (l1 := r') (ns := T.1.2.1) (F0 := F5) hN w2 (by rw [p83 8 (by omega)]; exact p1) T.1.2.1 0 N F5 (by omega) (by omega) (fun _ _ => rfl) (fun _ _ => rfl) (fun s hs => absurd hs (Nat.not_lt_zero s))
  rw [show fX7_text_L164 N r' N 0 F5 = _ from g1]
  refine ⟨_, rfl, ?_⟩
  obtain ⟨F7, hF7⟩ : ∃ F7, fput (fput (fput F6 82 22 0) 91 0 0) 91 1 0 = F7 := ⟨_, rfl⟩
  rw [hF7]
  have kk : ∀ c, c ≠ 82 → c ≠ 91 → F7 c = F6 c := fun c h1 h2 => by rw [← hF7, fput_a h2, fput_a h2, fput_a h1]
  have kF : ∀ c, c ≠ 82 → c ≠ 83 → c ≠ 84 → c ≠ 91 → F7 c = F1 c := fun c h1 h2 h3 h4 => by rw [kk c h1 h4, g2 c h2, k5 c h1, e2 c h2, k3 c h1, hY.1 c h1 h3]
  have q82 : ∀ k, k ≠ 22 → F7 82 k = F5 82 k := fun k hk => by rw [← hF7, fput_a (by omega), fput_a (by omega), fpu, if_neg (by omega), g2 82 (by omega)]
  have q22 : F7 82 22 = 0 := by rw [← hF7, fput_a (by omega), fput_a (by omega), fpu, if_pos ⟨rfl, rfl⟩]
  have q83 : F7 83 = F6 83 := kk 83 (by omega) (by omega)
  have z83 : ∀ k, (k < 4 ∨ (8 ≤ k ∧ k < 27)) → F7 83 k = F2 84 k := fun k hk => by rw [q83, g3 k (by omega), p83 k (by omega)]
  have o82 : ∀ k, (k < 1 ∨ (1 < k ∧ k < 3) ∨ (5 < k ∧ k < 7) ∨ (14 < k ∧ k ≠ 22)) → F7 82 k = F 82 k := fun k hk => by rw [q82 k (by omega), k85 k (by omega), k82 k (by omega) (by omega), hY.2 k (by omega), hx 82 (by omega) (by omega) (by omega) (by omega)]
  have f20 : F7 82 20 = -4 := by rw [o82 20 (by omega)]; exact b20
  refine ⟨T, ⟨hR.keep hW.2.1 (fun c _ _ => kF c (by omega) (by omega) (by omega) (by omega)), ⟨⟨?_, ?_, ?_, ?_⟩, fun i hi => ?_, fun s hs => ?_⟩, hW, hA, by rw [w4]; omega, f20⟩, fun k hk => Or.inl ⟨?_, ?_⟩, ⟨0, fun _ => 0, by omega, ?_, ?_, fun i hi => absurd hi (Nat.not_lt_zero i)⟩, ⟨0, fun _ => (0, 0, 0), by omega, ?_, q22, fun i hi => absurd hi (Nat.not_lt_zero i)⟩, a5.mv (fun c _ _ => by rw [kF c (by omega) (by omega) (by omega) (by omega)]; exact hx c (by omega) (by omega) (by omega) (by omega)) ?_ ?_ ?_, a6.mv ?_ ?_, ?_, ?_⟩
  · rw [q82 1 (by omega)]; exact v1
  · rw [z83 _ (by omega)]; exact p1
  · rw [z83 _ (by omega)]; exact p2
  · rw [z83 _ (by omega), w4]; exact p3
  · obtain ⟨bb, hb, e⟩ := w5 i hi
    have hp := p5 i hi
    rw [e] at hp ⊢
    refine ⟨?_, ?_⟩
    · rw [z83 _ (by omega), show 0 + 9 + i = 9 + i by omega]
      exact hp
    · rw [f20]
      exact fun hh => ne_m4 (a := i) (by omega) hh.symm
  · obtain ⟨k, hk, e⟩ := w6 s hs
    obtain ⟨o1, o2⟩ := g4 s hs
    have hp := p4 s hs
    rw [e] at hp ⊢
    refine ⟨?_, ?_, fun p hp => ?_, fun p hp => ?_⟩
    · rw [z83 _ (by omega), show 0 + s = s by omega]
      exact hp
    · rw [q83, show 0 + 4 + s = 4 + s by omega]
      exact o1
    · rw [q83, show 0 + 27 + 6 * s + p = 27 + 6 * s + p by omega]
      exact (o2 p hp).1
    · rw [q83, show 0 + 51 + 6 * s + p = 51 + 6 * s + p by omega]
      exact (o2 p hp).2
  · rw [kF 32 (by omega) (by omega) (by omega) (by omega)]
    rcases (show k = 0 ∨ k = 1 by omega) with rfl | rfl
    · exact h320
    · exact h321
  · rcases (show k = 0 ∨ k = 1 by omega) with rfl | rfl
    · rw [← hF7, fpu, if_neg (by omega), fpu, if_pos ⟨rfl, rfl⟩]
    · rw [← hF7, fpu, if_pos ⟨rfl, rfl⟩]
  · rw [kF 33 (by omega) (by omega) (by omega) (by omega)]; exact h331
  · rw [q82 7 (by omega), k85 7 (by omega)]; exact v7
  · rw [kF 35 (by omega) (by omega) (by omega) (by omega)]; exact h35
  · rw [kF 92 (by omega) (by omega) (by omega) (by omega)]; exact hx 92 (by omega) (by omega) (by omega) (by omega)
  · rw [kF 93 (by omega) (by omega) (by omega) (by omega)]; exact hx 93 (by omega) (by omega) (by omega) (by omega)
  · rw [kF 94 (by omega) (by omega) (by omega) (by omega)]; exact hx 94 (by omega) (by omega) (by omega) (by omega)
  · rw [kF 86 (by omega) (by omega) (by omega) (by omega)]; exact hx 86 (by omega) (by omega) (by omega) (by omega)
  · rw [kF 87 (by omega) (by omega) (by omega) (by omega)]; exact hx 87 (by omega) (by omega) (by omega) (by omega)
  · rw [kF 33 (by omega) (by omega) (by omega) (by omega), h332, q82 8 (by omega), k85 8 (by omega)]; exact v8.symm
  · rw [kF 0 (by omega) (by omega) (by omega) (by omega), hx 0 (by omega) (by omega) (by omega) (by omega), o82 28 (by omega)]; exact a8
theorem m_text {N : Nat} {F : FF} (hN : 1000 ≤ N) (hI : Inv F) : MOK (fX6_text N) (fX7_text N) F := by
  obtain ⟨H, h⟩ := hI
  have h0 : IP F H := h
  obtain ⟨a1, a2, ⟨n, b, t1, t2, t3, t4⟩, a4, a5, a6, a7, a8⟩ := h
  obtain ⟨r, F1, e1, x1, x2, x3⟩ := x_text (N := N) hN (show XB F b n from ⟨t2, t1, fun i hi => ⟨(t4 i hi).1, (t4 i hi).2.2⟩⟩)
  have e82 : F1 82 = F 82 := x2 82 (by omega) (by omega) (by omega) (by omega)
  have hB : YB F1 b n := ⟨by rw [e82]; exact t3, t1, fun i hi => by rw [x2 85 (by omega) (by omega) (by omega) (by omega)]; exact (t4 i hi).2⟩
  have hC : RC F1 := a6.mv (x2 86 (by omega) (by omega) (by omega) (by omega)) (x2 87 (by omega) (by omega) (by omega) (by omega))
  obtain ⟨r', F2, y1, y2, y3⟩ := y_begin (N := N) hN hB hC
  suffices hs : ∃ F3, fX7_text_b76 N r' F2 = some (r, F3) ∧ Inv F3 by
    obtain ⟨F3, z1, z2⟩ := hs
    exact ⟨r, F1, F3, e1, by rw [y1]; exact z1, z2⟩
  cases ho : prP b n 161 0 0 T0 false with
  | inl f =>
    rw [ho] at x3 y3
    obtain ⟨g1, g2, g3⟩ := x3
    obtain ⟨f1, f2, f3⟩ := y3
    unfold fX7_text_b76
    rw [if_pos (by rw [f1]; exact y_ne f3), g1]
    exact t_no (n := n) (b := b) h0 g3 x1 g2 f3 y2 f1 f2
  | inr g =>
    rw [ho] at x3 y3
    obtain ⟨l, p, T⟩ := g
    obtain ⟨f0, f1, f2, q, f3⟩ := y3
    have hmw := mw_wn f3.2.2.2.2.2.2
    unfold fX7_text_b76
    rw [f1, if_neg (fun hh => hh rfl), f3.2.2.2.2.1, f3.2.2.1]
    replace x3 : if wnB T T.1.2.2.1 0 = true then r = (-10) - nI p ∧ F1 33 2 = 6 ∧ FT F F1 else r = nI l ∧ F1 33 2 = 0 ∧ HR 1 F1 T ∧ WH T ∧ okA T ∧ WT T ∧ F1 35 0 = 0 ∧ F1 32 0 = 0 ∧ F1 32 1 = 0 := x3
    cases hb : wnB T T.1.2.2.1 0 with
    | true =>
      rw [hb, if_pos rfl] at x3
      rw [hb] at hmw
      obtain ⟨g1, g2, g3⟩ := x3
      rw [if_neg (fun hh => by have := hmw.mp hh; cases this)]
      obtain ⟨F3, u1, u2, u3, u4⟩ := y_failed (N := N) (n := n) (b := b) (c := 6) (s := p) f1 f2 (by omega)
      rw [show fX7_fails N 6 F2 = _ from u1, bnd_some, g1]
      exact t_no (n := n) (b := b) (c := 6) h0 g3 x1 g2 ⟨by decide, by decide⟩ (y2.tr u2.T) u3 u4
    | false =>
      rw [hb, if_neg (by decide)] at x3
      rw [hb] at hmw
      obtain ⟨g1, g2, g3, g4, g5, g6, g7, g8, g9⟩ := x3
      rw [if_pos (hmw.mpr rfl), g1]
      replace f0 : r' = nI l := f0
      rw [← f0]
      exact t_yes hN h0 x2 x1 g2 g3 g4 g5 g6 g7 g8 g9 y2 f1 f3
