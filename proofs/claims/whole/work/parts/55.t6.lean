/-! TEXT: all lines, the class -/
theorem sem_adv {b : Nat → Nat} {n e : Nat} {T T' : Hs} {q q' : Bool} {p' : Nat} (he : e ≤ n) (h : semP b n e T q = .inr (p', T', q')) : e < p' ∧ p' ≤ n := by
  unfold semP at h
  have hs := stt_le (b := b) he
  have ht := tok_le (b := b) hs.2
  split at h
  · cases h
  · split at h
    · rename_i c2
      cases h
      have : (tok b n (stt b n e)).2.1 = stt b n e + 1 := by
        unfold tok at c2 ⊢
        split at c2
        · cases c2
        · split at c2
          · rename_i a1 a2
            rw [if_neg a1, if_pos a2]
          · split at c2
            · cases c2
            · split at c2
              · split at c2
                · cases c2
                · cases c2
              · cases c2
      omega
    · cases h
theorem wn_adv {b : Nat → Nat} {n : Nat} {q : Bool} : ∀ (m e : Nat) (T T' : Hs) (q' : Bool) (p' : Nat), e ≤ n → wnP b n q m e T = .inr (p', T', q') → e < p' ∧ p' ≤ n := by
  intro m
  induction m with
  | zero => intro e T T' q' p' _ h; cases h
  | succ m ih =>
    intro e T T' q' p' he h
    have hs := stt_le (b := b) he
    have ht := tok_le (b := b) hs.2
    by_cases c4 : (tok b n (stt b n e)).1 = 4
    · rw [wnP, if_pos c4] at h; cases h
    · by_cases c2 : (tok b n (stt b n e)).1 = 2
      · rw [wnP, if_neg c4, if_pos c2] at h
        exact sem_adv (T := T) (q := q) he (by unfold semP; rw [if_neg c4, if_pos c2]; exact h)
      · rw [wnP, if_neg c4, if_neg c2] at h
        split at h
        · split at h
          · split at h
            · have := ih _ _ _ _ _ ht.2.1 h
              omega
            · cases h
          · cases h
        · cases h
theorem ln_adv {b : Nat → Nat} {n p : Nat} {T T' : Hs} {q q' : Bool} {p' : Nat} (hp : p ≤ n) (h : lnP b n p T q = some (.inr (p', T', q'))) : p < p' ∧ p' ≤ n := by
  have hs := stt_le (b := b) hp
  have ht := tok_le (b := b) hs.2
  unfold lnP at h
  split at h
  · cases h
  · have h := Option.some.inj h
    split at h
    · cases h
    · split at h
      · cases hj : nmJ b (stt b n p) (tok b n (stt b n p)).2.1 6 0 with
        | none => rw [hj] at h; cases h
        | some j =>
          rw [hj] at h
          dsimp only at h
          split at h
          · split at h
            · cases h
            · unfold bkP at h
              have hs2 := stt_le (b := b) ht.2.1
              have ht2 := tok_le (b := b) hs2.2
              split at h
              · cases h
              · split at h
                · split at h
                  · have := sem_adv ht2.2.1 h
                    omega
                  · cases h
                · cases h
          · split at h
            · have := wn_adv 17 _ _ _ _ _ ht.2.1 h
              omega
            · split at h
              · have := sem_adv ht.2.1 h
                omega
              · cases h
      · cases h
/-- all lines: a fault, or how many, where the end is, the house -/
def prP (b : Nat → Nat) (n : Nat) : Nat → Nat → Nat → Hs → Bool → (Nat × Nat) ⊕ (Nat × Nat × Hs)
  | 0, _, _, _, _ => .inl (0, 0)
  | m + 1, p, l, T, q => match lnP b n p T q with
    | none => .inr (l, stt b n p, T)
    | some (.inl f) => .inl f
    | some (.inr g) => prP b n m g.1 (l + 1) g.2.1 g.2.2
/-- a want has no book -/
def wnB (T : Hs) : Nat → Nat → Bool
  | 0, _ => false
  | m + 1, i => match T.2.2 i with
    | none => true
    | some b => if b < T.1.1 then wnB T m (i + 1) else true
theorem x_noBook_L {N : Nat} {F : FF} {T : Hs} (hR : HR 16 F T) (hW : WT T) : ∀ (m i n' : Nat), i + m = T.1.2.2.1 → m < n' → fX0_wantsNoSuchBook_L2 N 16 n' (nI i) F = some (bI (wnB T m i), F) := by
  obtain ⟨w1, w2, w3, w4, w5, w6⟩ := hW
  intro m
  induction m with
  | zero =>
    intro i n' hi hn
    obtain ⟨n', rfl⟩ : ∃ k, n' = k + 1 := ⟨n' - 1, by omega⟩
    rw [fX0_wantsNoSuchBook_L2.eq_2, gI_H2 iH16, hR.1.2.2.1, if_pos (by simp (disch := omega) only [nI_leI]; omega)]
    rfl
  | succ m ih =>
    intro i n' hi hn
    obtain ⟨n', rfl⟩ : ∃ k, n' = k + 1 := ⟨n' - 1, by omega⟩
    obtain ⟨b, hb, hT⟩ := w5 i (by omega)
    have hF : F (16 + 2) i = nI b := by rw [hR.2.1 i (by omega), hT]; rfl
    rw [fX0_wantsNoSuchBook_L2.eq_2, gI_H2 iH16, hR.1.2.2.1, if_neg (by simp (disch := omega) only [nI_leI]; omega), gR_H5 iH16, ld_ok (aH2 iH16) (by omega), hF, okc_ok (okC_H iH16), x_hasBook hR.1.1 (by omega), wnB, hT]
    dsimp only
    by_cases c : b < T.1.1
    · rw [bI_nI c (by omega), if_pos n10, if_pos c, show nI i + 1 = nI (i + 1) from nI_1 i]
      exact ih (i + 1) n' (by omega) (by omega)
    · rw [bI_f (by rw [nI_toInt (by omega)]; omega), if_neg (fun h => h rfl), if_neg c]
      rfl
theorem x_noBook {N : Nat} {F : FF} {T : Hs} (hN : 1000 ≤ N) (hR : HR 16 F T) (hW : WT T) : fX0_wantsNoSuchBook N 16 F = some (bI (wnB T T.1.2.2.1 0), F) :=
  x_noBook_L hR hW T.1.2.2.1 0 N (by omega) (by have := hW.2.2.1; omega)
/-- what the class has read -/
def XO (F : FF) (r : Int32) (F1 : FF) (o : (Nat × Nat) ⊕ (Nat × Nat × Hs)) : Prop := FT F F1 ∧ F1 33 1 = F 33 1 ∧ match o with
  | .inl f => F1 33 2 = nI f.1 ∧ F1 33 3 = nI f.2 ∧ 1 ≤ f.1 ∧ f.1 ≤ 6
  | .inr g => r = nI g.1 ∧ HR 16 F1 g.2.2 ∧ WT g.2.2 ∧ (if wnB g.2.2 g.2.2.1.2.2.1 0 = true then F1 33 2 = 6 ∧ F1 33 3 = nI g.2.1 else F1 33 2 = 0)
theorem x_tell_L {N n : Nat} {b : Nat → Nat} (hN : 1000 ≤ N) : ∀ (m p l n' : Nat) (F : FF) (T : Hs) (q : Bool), n - p < m → m < n' → l ≤ p → XS F b n p T q → ∃ r F1, fX5_tellTo_L26 N n' (nI l) F = some (r, F1) ∧ XO F r F1 (prP b n m p l T q) := by
  intro m
  induction m with
  | zero => intro p l n' F T q hm; omega
  | succ m ih =>
    intro p l n' F T q hm hn hl h
    obtain ⟨n', rfl⟩ : ∃ k, n' = k + 1 := ⟨n' - 1, by omega⟩
    have hp := h.2.2.1
    have h160 := h.1.2.1
    obtain ⟨r, F1, e1, e2⟩ := x_line (N := N) hN h
    rw [fX5_tellTo_L26.eq_2, h.1.1, if_neg (by simp (disch := omega) only [nI_ltI]; omega), e1, bnd_some, prP]
    cases ho : lnP b n p T q with
    | none =>
      rw [ho] at e2
      obtain ⟨g1, g2, g3, g4, g5, g6⟩ := e2
      have hW := h.2.2.2.2.2.2
      rw [g1, if_pos rfl, fX5_tellTo_b48, x_noBook hN g6 hW, bnd_some]
      cases hb : wnB T T.1.2.2.1 0 with
      | false =>
        rw [if_pos (show bI false = 0 from rfl)]
        refine ⟨nI l, F1, rfl, g2, g3, rfl, g6, hW, ?_⟩
        show (if wnB T T.1.2.2.1 0 = true then _ else _)
        rw [hb, if_neg (by decide)]
        exact g4
      | true =>
        rw [if_neg (by decide), x_ref0 g4, bnd_some]
        refine ⟨nI l, _, rfl, fun c hc h => by rw [fput_a hc, fput_a hc]; exact g2 c hc h, by rw [fpu, if_neg (by omega), fpu, if_neg (by omega)]; exact g3, rfl, g6.keep hW.2.1 (fun c _ _ => by rw [fput_a (by omega), fput_a (by omega)]), hW, ?_⟩
        show (if wnB T T.1.2.2.1 0 = true then _ else _)
        rw [hb, if_pos rfl]
        exact ⟨by rw [fpu, if_neg (by omega), fpu, if_pos ⟨rfl, rfl⟩], by rw [fpu, if_pos ⟨rfl, rfl⟩]; exact g5⟩
    | some o =>
      rw [ho] at e2
      obtain ⟨g1, g2, g3⟩ := e2
      cases o with
      | inl f =>
        obtain ⟨g4, g5, g6, ⟨T', g7, g8⟩, g9⟩ := g3
        rw [g4, if_pos rfl, fX5_tellTo_b48, x_noBook hN g7 g8, bnd_some]
        by_cases hb : bI (wnB T' T'.1.2.2.1 0) = 0
        · rw [if_pos hb]
          exact ⟨nI l, F1, rfl, g1, g2, g5, g6, g9⟩
        · rw [if_neg hb, x_ref1 (by rw [g5]; show ¬ nI f.1 = nI 0; simp (disch := omega) only [nI_eq]; omega), bnd_some]
          exact ⟨nI l, F1, rfl, g1, g2, g5, g6, g9⟩
      | inr g =>
        obtain ⟨g4, g5⟩ := g3
        obtain ⟨p', T', q'⟩ := g
        have ha := ln_adv hp ho
        rw [g4, if_neg n10, show nI l + 1 = nI (l + 1) from nI_1 l]
        obtain ⟨r', F2, z1, z2, z3, z4⟩ := ih p' (l + 1) n' F1 T' q' (by omega) (by omega) (by omega) g5
        exact ⟨r', F2, z1, g1.tr z2, z3.trans g2, z4⟩
def T0 : Hs := ((4, 0, 0, 0), (fun _ => newS 0), (fun _ => none))
theorem x_tell {N n : Nat} {b : Nat → Nat} {F : FF} (hN : 1000 ≤ N) (h : XB F b n) : ∃ r F1, fX5_tellTo N F = some (r, F1) ∧ XO F r F1 (prP b n 161 0 0 T0 false) := by
  have h160 := h.2.1
  unfold fX5_tellTo fX0_empty
  rw [pI_H0 iH16, pI_H1 iH16, pI_H2 iH16, pI_H3 iH16, bnd_some, nmE, nmE, nmE, nmE]
  obtain ⟨F0, hF0⟩ : ∃ F0, fput (fput (fput (fput (fput (fput (fput (fput F 16 0 4) 16 1 0) 16 2 0) 16 3 0) 33 4 0) 33 2 0) 33 3 0) 33 8 0 = F0 := ⟨_, rfl⟩
  rw [hF0]
  have k1 : F0 33 1 = F 33 1 := by
    rw [← hF0]
    simp only [fpu]
    rfl
  have kc : ∀ c, c ≠ 33 → c ≠ 16 → F0 c = F c := fun c h1 h2 => by rw [← hF0, fput_a h1, fput_a h1, fput_a h1, fput_a h1, fput_a h2, fput_a h2, fput_a h2, fput_a h2]
  have hS : XS F0 b n 0 T0 false := by
    refine ⟨⟨by rw [k1]; exact h.1, h.2.1, fun i hi => by rw [kc 34 (by omega) (by omega)]; exact h.2.2 i hi⟩, ?_, Nat.zero_le _, ?_, ?_, ⟨⟨?_, ?_, ?_, ?_⟩, fun i hi => absurd hi (Nat.not_lt_zero i), fun s hs => absurd hs (Nat.not_lt_zero s)⟩, ⟨⟨by decide, by decide⟩, by decide, by decide, rfl, fun i hi => absurd hi (Nat.not_lt_zero i), fun s hs => absurd hs (Nat.not_lt_zero s)⟩⟩
    all_goals
      rw [← hF0]
      simp only [fpu]
      rfl
  obtain ⟨r, F1, z1, z2, z3, z4⟩ := x_tell_L (N := N) hN 161 0 0 N F0 T0 false (by omega) (by omega) (by omega) hS
  exact ⟨r, F1, z1, fun c h1 h2 => by rw [z2 c h1 h2, kc c h1 (by omega)], z3.trans k1, z4⟩
