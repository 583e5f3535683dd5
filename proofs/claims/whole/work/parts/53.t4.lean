/-! TEXT: lines -/
theorem stt_le {b : Nat → Nat} {n p : Nat} (h : p ≤ n) : p ≤ stt b n p ∧ stt b n p ≤ n := by
  have := skF_le (b := b) (n - p) p
  unfold stt
  omega
theorem tok_le {b : Nat → Nat} {n s : Nat} (h : s ≤ n) : s ≤ (tok b n s).2.1 ∧ (tok b n s).2.1 ≤ n ∧ (tok b n s).1 ≤ 4 := by
  unfold tok
  have h1 := nmF_le (b := b) (n - s) s
  have h2 := ndF_le (b := b) (n - s) s
  split
  · exact ⟨Nat.le_refl _, h, by show 3 ≤ 4; omega⟩
  · split
    · exact ⟨by show s ≤ s + 1; omega, by show s + 1 ≤ n; omega, by show 2 ≤ 4; omega⟩
    · split
      · exact ⟨h1.1, by show nmF b (n - s) s ≤ n; omega, by show 0 ≤ 4; omega⟩
      · split
        · split
          · exact ⟨h2.1, by show ndF b (n - s) s ≤ n; omega, by show 1 ≤ 4; omega⟩
          · exact ⟨Nat.le_refl _, h, Nat.le_refl _⟩
        · exact ⟨Nat.le_refl _, h, Nat.le_refl _⟩
theorem tok_val {b : Nat → Nat} {n s : Nat} : (tok b n s).2.2 ≤ 99 := by
  unfold tok
  split
  · exact Nat.zero_le _
  · split
    · exact Nat.zero_le _
    · split
      · exact Nat.zero_le _
      · split
        · rename_i hd
          split
          · have hd := isD_iff.mp hd
            show val b s _ ≤ 99
            unfold val
            split
            · omega
            · by_cases h2 : isD (b (s + 1)) = true
              · have := isD_iff.mp h2; omega
              · rename_i h3 h4 _ h6
                exfalso
                apply h6
                have hm : ∃ m, n - s = m + 1 := ⟨n - s - 1, by omega⟩
                obtain ⟨m, hm⟩ := hm
                rw [hm, ndF, if_pos (isD_iff.mpr hd)]
                cases m with
                | zero => rfl
                | succ m => rw [ndF, if_neg h2]
          · exact Nat.zero_le _
        · exact Nat.zero_le _
/-- a fault (its number, its place), or where it goes on, the house, whether books were said -/
abbrev Rs : Type := (Nat × Nat) ⊕ (Nat × Hs × Bool)
def semP (b : Nat → Nat) (n e : Nat) (T : Hs) (q : Bool) : Rs :=
  if (tok b n (stt b n e)).1 = 4 then .inl (1, stt b n e) else if (tok b n (stt b n e)).1 = 2 then .inr ((tok b n (stt b n e)).2.1, T, q) else .inl (2, stt b n e)
def wnP (b : Nat → Nat) (n : Nat) (q : Bool) : Nat → Nat → Hs → Rs
  | 0, _, _ => .inl (0, 0)
  | m + 1, e, T => if (tok b n (stt b n e)).1 = 4 then .inl (1, stt b n e) else if (tok b n (stt b n e)).1 = 2 then .inr ((tok b n (stt b n e)).2.1, T, q) else if (tok b n (stt b n e)).1 = 1 then (if T.1.2.2.1 < 16 then (if (tok b n (stt b n e)).2.2 < 6 then wnP b n q m (tok b n (stt b n e)).2.1 (addW T (tok b n (stt b n e)).2.2) else .inl (3, stt b n e)) else .inl (5, stt b n e)) else .inl (2, stt b n e)
def setB (T : Hs) (v : Nat) : Hs := ((v, T.1.2), T.2)
def bkP (b : Nat → Nat) (n e : Nat) (T : Hs) : Rs :=
  if (tok b n (stt b n e)).1 = 4 then .inl (1, stt b n e) else if (tok b n (stt b n e)).1 = 1 then (if 1 ≤ (tok b n (stt b n e)).2.2 ∧ (tok b n (stt b n e)).2.2 ≤ 6 then semP b n (tok b n (stt b n e)).2.1 (setB T (tok b n (stt b n e)).2.2) true else .inl (3, stt b n e)) else .inl (2, stt b n e)
/-- a line; none: the end -/
def lnP (b : Nat → Nat) (n p : Nat) (T : Hs) (q : Bool) : Option Rs :=
  if (tok b n (stt b n p)).1 = 3 then none else some (
  if (tok b n (stt b n p)).1 = 4 then .inl (1, stt b n p) else if (tok b n (stt b n p)).1 = 0 then (match nmJ b (stt b n p) (tok b n (stt b n p)).2.1 6 0 with
    | none => .inl (2, stt b n p)
    | some j => if j = 4 then (if q = true then .inl (4, stt b n p) else bkP b n (tok b n (stt b n p)).2.1 T) else if j = 5 then wnP b n q 17 (tok b n (stt b n p)).2.1 T else if T.1.2.1 < 4 then semP b n (tok b n (stt b n p)).2.1 (addS T j) q else .inl (5, stt b n p)) else .inl (2, stt b n p))
/-- a house that is being read -/
def WT (T : Hs) : Prop := (1 ≤ T.1.1 ∧ T.1.1 ≤ 6) ∧ T.1.2.1 ≤ 4 ∧ T.1.2.2.1 ≤ 16 ∧ T.1.2.2.2 = 0 ∧ (∀ i, i < T.1.2.2.1 → ∃ b, b < 6 ∧ T.2.2 i = some b) ∧ ∀ s, s < T.1.2.1 → ∃ k, k ≤ 3 ∧ T.2.1 s = newS k
theorem WT.addW {T : Hs} {v : Nat} (h : WT T) (hw : T.1.2.2.1 < 16) (hv : v < 6) : WT (addW T v) := by
  obtain ⟨a1, a2, a3, a4, a5, a6⟩ := h
  refine ⟨a1, a2, (show T.1.2.2.1 + 1 ≤ 16 by omega), a4, fun i hi => ?_, a6⟩
  have hi : i < T.1.2.2.1 + 1 := hi
  show ∃ b, b < 6 ∧ (if i = T.1.2.2.1 then some v else T.2.2 i) = some b
  by_cases c : i = T.1.2.2.1
  · exact ⟨v, hv, if_pos c⟩
  · rw [if_neg c]; exact a5 i (by omega)
theorem WT.addS {T : Hs} {k : Nat} (h : WT T) (hw : T.1.2.1 < 4) (hk : k ≤ 3) : WT (addS T k) := by
  obtain ⟨a1, a2, a3, a4, a5, a6⟩ := h
  refine ⟨a1, (show T.1.2.1 + 1 ≤ 4 by omega), a3, a4, a5, fun s hs => ?_⟩
  have hs : s < T.1.2.1 + 1 := hs
  show ∃ k', k' ≤ 3 ∧ (if s = T.1.2.1 then newS k else T.2.1 s) = newS k'
  by_cases c : s = T.1.2.1
  · exact ⟨k, hk, if_pos c⟩
  · rw [if_neg c]; exact a6 s (by omega)
theorem WT.setB {T : Hs} {v : Nat} (h : WT T) (hv : 1 ≤ v ∧ v ≤ 6) : WT (setB T v) := ⟨hv, h.2⟩
/-! the class -/
def XS (F : FF) (b : Nat → Nat) (n p : Nat) (T : Hs) (q : Bool) : Prop := XB F b n ∧ F 33 4 = nI p ∧ p ≤ n ∧ F 33 2 = 0 ∧ F 33 8 = bI q ∧ HR 16 F T ∧ WT T
def FT (F F1 : FF) : Prop := ∀ c, c ≠ 33 → (c < 16 ∨ 31 ≤ c) → F1 c = F c
theorem FX.T {F F1 : FF} (h : FX F F1) : FT F F1 := fun c hc _ => h.1 c hc
theorem FT.rf {F : FF} : FT F F := fun _ _ _ => rfl
theorem FT.tr {F F1 F2 : FF} (a : FT F F1) (b : FT F1 F2) : FT F F2 := fun c h1 h2 => (b c h1 h2).trans (a c h1 h2)
/-- what the class ends a piece with -/
def XE (F : FF) (b : Nat → Nat) (n : Nat) (r : Int32) (F1 : FF) (o : Rs) : Prop := FT F F1 ∧ F1 33 1 = F 33 1 ∧ match o with
  | .inl f => r = 0 ∧ F1 33 2 = nI f.1 ∧ F1 33 3 = nI f.2 ∧ (∃ T, HR 16 F1 T ∧ WT T) ∧ 1 ≤ f.1 ∧ f.1 ≤ 6
  | .inr g => r = 1 ∧ XS F1 b n g.1 g.2.1 g.2.2
theorem x_next1 {N n p : Nat} {b : Nat → Nat} {F : FF} {T : Hs} {q : Bool} (hN : 1000 ≤ N) (h : XS F b n p T q) : ∃ F1, fX5_scan N F = some ((), F1) ∧ FX F F1 ∧ F1 33 5 = nI (stt b n p) ∧ XK F1 (stt b n p) (tok b n (stt b n p)) ∧ ((tok b n (stt b n p)).1 ≠ 4 → XS F1 b n (tok b n (stt b n p)).2.1 T q) ∧ HR 16 F1 T := by
  obtain ⟨h1, h2, h3, h4, h5, h6, h7⟩ := h
  obtain ⟨F1, e1, e2, e3, e4⟩ := x_scan (N := N) hN h1 h3 h2 h4
  have hs := stt_le (b := b) h3
  have ht := tok_le (b := b) hs.2
  refine ⟨F1, e1, e2, e3, e4, fun hk => ⟨⟨by rw [e2.2 1 (by omega)]; exact h1.1, h1.2.1, fun i hi => by rw [e2.1 34 (by omega)]; exact h1.2.2 i hi⟩, (e4.2.1 hk).1, ht.2.1, (e4.2.1 hk).2, by rw [e2.2 8 (by omega)]; exact h5, h6.keep h7.2.1 (fun c _ _ => e2.1 c (by omega)), h7⟩, h6.keep h7.2.1 (fun c _ _ => e2.1 c (by omega))⟩
/-- a fault, now -/
theorem x_ref {N n : Nat} {b : Nat → Nat} {F F1 : FF} {c s : Nat} (hF : FT F F1) (h1 : F1 33 1 = F 33 1) (h2 : F1 33 2 = 0) (h5 : F1 33 5 = nI s) {T : Hs} (hH : HR 16 F1 T) (hW : WT T) (hc : 1 ≤ c ∧ c ≤ 6 := by omega) : ∃ F2, fX5_refuse N (nI c) F1 = some (0, F2) ∧ XE F b n 0 F2 (.inl (c, s)) := by
  refine ⟨_, x_ref0 h2, fun c hc h => by rw [fput_a hc, fput_a hc]; exact hF c hc h, by rw [fpu, if_neg (by omega), fpu, if_neg (by omega)]; exact h1, rfl, by rw [fpu, if_neg (by omega), fpu, if_pos ⟨rfl, rfl⟩], by rw [fpu, if_pos ⟨rfl, rfl⟩]; exact h5, ⟨T, hH.keep hW.2.1 (fun c _ _ => by rw [fput_a (by omega), fput_a (by omega)]), hW⟩, hc⟩
/-- a fault that was there -/
theorem x_bad {N n : Nat} {b : Nat → Nat} {F F1 : FF} {c : Int32} {s : Nat} (hF : FT F F1) (h1 : F1 33 1 = F 33 1) (h2 : F1 33 2 = 1 ∧ F1 33 3 = nI s) {T : Hs} (hH : HR 16 F1 T) (hW : WT T) : fX5_refuse N c F1 = some (0, F1) ∧ XE F b n 0 F1 (.inl (1, s)) :=
  ⟨x_ref1 (by rw [h2.1]; decide), hF, h1, rfl, h2.1, h2.2, ⟨T, hH, hW⟩, by show 1 ≤ 1; omega, by show 1 ≤ 6; omega⟩
theorem x_semi {N n p : Nat} {b : Nat → Nat} {F : FF} {T : Hs} {q : Bool} (hN : 1000 ≤ N) (h : XS F b n p T q) : ∃ r F1, fX5_takeSemicolon N F = some (r, F1) ∧ XE F b n r F1 (semP b n p T q) := by
  obtain ⟨F1, e1, e2, e3, e4, e5, e6⟩ := x_next1 hN h
  have h1 : F1 33 1 = F 33 1 := e2.2 1 (by omega)
  have ht := tok_le (b := b) (stt_le (b := b) h.2.2.1).2
  unfold fX5_takeSemicolon semP
  rw [e1, bnd_some, e4.1]
  by_cases c4 : (tok b n (stt b n p)).1 = 4
  · rw [if_pos c4, c4, if_neg (by decide)]
    obtain ⟨g1, g2⟩ := x_bad (N := N) (n := n) (b := b) (c := 2) e2.T h1 (e4.2.2.2 c4) e6 h.2.2.2.2.2.2
    rw [g1, bnd_some, if_pos rfl]
    exact ⟨0, F1, rfl, g2⟩
  · rw [if_neg c4]
    by_cases c2 : (tok b n (stt b n p)).1 = 2
    · rw [if_pos c2, c2, if_pos (show nI 2 = 2 from rfl)]
      exact ⟨1, F1, rfl, e2.T, h1, rfl, e5 c4⟩
    · rw [if_neg c2, if_neg (by show ¬ nI _ = nI 2; simp (disch := omega) only [nI_eq]; exact c2)]
      obtain ⟨F2, g1, g2⟩ := x_ref (N := N) (n := n) (b := b) (c := 2) e2.T h1 (e4.2.1 c4).2 e3 e6 h.2.2.2.2.2.2
      rw [show fX5_refuse N 2 F1 = some (0, F2) from g1, bnd_some, if_pos rfl]
      exact ⟨0, F2, rfl, g2⟩
theorem XE.tr {n : Nat} {b : Nat → Nat} {F F0 F1 : FF} {r : Int32} {o : Rs} (h : XE F0 b n r F1 o) (a : FT F F0) (a1 : F0 33 1 = F 33 1) : XE F b n r F1 o := ⟨a.tr h.1, h.2.1.trans a1, h.2.2⟩
theorem xe_zr {n : Nat} {b : Nat → Nat} {F F1 : FF} {r : Int32} {o : Rs} (h : XE F b n r F1 o) : zr r F1 = some (r, F1) := by
  have : r = 0 ∨ r = 1 := by
    cases o with
    | inl f => exact Or.inl h.2.2.1
    | inr g => exact Or.inr h.2.2.1
  unfold zr
  rw [if_pos this]
theorem x_wants_L {N n : Nat} {b : Nat → Nat} {q : Bool} (hN : 1000 ≤ N) : ∀ (m i n' p : Nat) (F : FF) (T : Hs), i + m = 17 → m < n' → i ≤ T.1.2.2.1 → XS F b n p T q → ∃ r F1, fX5_takeWants_L2 N n' (nI i) F = some (r, F1) ∧ XE F b n r F1 (wnP b n q m p T) := by
  intro m
  induction m with
  | zero =>
    intro i n' p F T hi hn hw h
    have := h.2.2.2.2.2.2.2.2.1
    omega
  | succ m ih =>
    intro i n' p F T hi hn hw h
    obtain ⟨n', rfl⟩ : ∃ k, n' = k + 1 := ⟨n' - 1, by omega⟩
    obtain ⟨F1, e1, e2, e3, e4, e5, e6⟩ := x_next1 hN h
    have h1 : F1 33 1 = F 33 1 := e2.2 1 (by omega)
    have ht := tok_le (b := b) (stt_le (b := b) h.2.2.1).2
    have hv := tok_val (b := b) (n := n) (s := stt b n p)
    have h16 := h.2.2.2.2.2.2.2.2.1
    rw [fX5_takeWants_L2.eq_2, if_neg (by show ¬ nI 16 < nI i; simp (disch := omega) only [nI_ltI]; omega), e1, bnd_some, e4.1, wnP]
    by_cases c4 : (tok b n (stt b n p)).1 = 4
    · rw [if_pos c4, c4, if_pos (by decide), if_neg (by decide)]
      obtain ⟨g1, g2⟩ := x_bad (N := N) (n := n) (b := b) (c := 2) e2.T h1 (e4.2.2.2 c4) e6 h.2.2.2.2.2.2
      rw [g1, bnd_some, xe_zr g2]
      exact ⟨0, F1, rfl, g2⟩
    · rw [if_neg c4]
      have hS := e5 c4
      by_cases c2 : (tok b n (stt b n p)).1 = 2
      · rw [if_pos c2, c2, if_neg (fun h => h rfl)]
        exact ⟨1, F1, rfl, e2.T, h1, rfl, hS⟩
      · rw [if_neg c2, if_pos (by show ¬ nI _ = nI 2; simp (disch := omega) only [nI_eq]; exact c2)]
        by_cases c1 : (tok b n (stt b n p)).1 = 1
        · rw [if_pos c1, c1, if_pos (show nI 1 = 1 from rfl), hS.2.2.2.2.2.1.1.2.2.1, e4.2.2.1 c1]
          by_cases cw : T.1.2.2.1 < 16
          · rw [if_pos (by show nI _ < nI 16; simp (disch := omega) only [nI_ltI]; exact cw), if_pos cw]
            by_cases cv : (tok b n (stt b n p)).2.2 < 6
            · rw [if_pos (by show nI _ < nI 6; simp (disch := omega) only [nI_ltI]; exact cv), if_pos cv]
              obtain ⟨F2, g1, g2, g3⟩ := x_addWant (N := N) (b := (tok b n (stt b n p)).2.2) iH16 hS.2.2.2.2.2.1 cw
              rw [g1, bnd_some, show nI i + 1 = nI (i + 1) from nI_1 i]
              have hT : FT F F2 := e2.T.tr (fun c _ h => g3 c h)
              have k33 : F2 33 = F1 33 := g3 33 (by omega)
              obtain ⟨s1, s2, s3, s4, s5, s6, s7⟩ := hS
              obtain ⟨r, F3, z1, z2⟩ := ih (i + 1) n' _ F2 (addW T (tok b n (stt b n p)).2.2) (by omega) (by omega) (by show i + 1 ≤ T.1.2.2.1 + 1; omega) ⟨⟨by rw [k33]; exact s1.1, s1.2.1, fun j hj => by rw [g3 34 (by omega)]; exact s1.2.2 j hj⟩, by rw [k33]; exact s2, s3, by rw [k33]; exact s4, by rw [k33]; exact s5, g2, s7.addW cw cv⟩
              exact ⟨r, F3, z1, z2.tr hT (by rw [k33]; exact h1)⟩
            · rw [if_neg (by show ¬ nI _ < nI 6; simp (disch := omega) only [nI_ltI]; exact cv), if_neg cv]
              obtain ⟨F2, g1, g2⟩ := x_ref (N := N) (n := n) (b := b) (c := 3) e2.T h1 (e4.2.1 c4).2 e3 e6 h.2.2.2.2.2.2
              rw [show fX5_refuse N 3 F1 = some (0, F2) from g1, bnd_some, xe_zr g2]
              exact ⟨0, F2, rfl, g2⟩
          · rw [if_neg (by show ¬ nI _ < nI 16; simp (disch := omega) only [nI_ltI]; exact cw), if_neg cw]
            obtain ⟨F2, g1, g2⟩ := x_ref (N := N) (n := n) (b := b) (c := 5) e2.T h1 (e4.2.1 c4).2 e3 e6 h.2.2.2.2.2.2
            rw [show fX5_refuse N 5 F1 = some (0, F2) from g1, bnd_some, xe_zr g2]
            exact ⟨0, F2, rfl, g2⟩
        · rw [if_neg c1, if_neg (by show ¬ nI _ = nI 1; simp (disch := omega) only [nI_eq]; exact c1)]
          obtain ⟨F2, g1, g2⟩ := x_ref (N := N) (n := n) (b := b) (c := 2) e2.T h1 (e4.2.1 c4).2 e3 e6 h.2.2.2.2.2.2
          rw [show fX5_refuse N 2 F1 = some (0, F2) from g1, bnd_some, xe_zr g2]
          exact ⟨0, F2, rfl, g2⟩
