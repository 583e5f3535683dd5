/-! TEXT: lines, the reference -/
def mwI (T : Hs) : Nat → Int32
  | 0 => -1
  | m + 1 => if wI (T.2.2 m) ≤ mwI T m then mwI T m else wI (T.2.2 m)
theorem mwI_cg {T T' : Hs} : ∀ m, (∀ i, i < m → T'.2.2 i = T.2.2 i) → mwI T' m = mwI T m
  | 0, _ => rfl
  | m + 1, h => by
    unfold mwI
    rw [mwI_cg m (fun i hi => h i (by omega)), h m (by omega)]
def PG (F : FF) (T : Hs) : Prop := F 84 8 = nI T.1.2.1 ∧ F 84 25 = nI T.1.2.2.1 ∧ F 84 26 = 0 ∧ (∀ s, s < T.1.2.1 → F 84 s = nI (T.2.1 s).1.1) ∧ ∀ i, i < T.1.2.2.1 → F 84 (9 + i) = wI (T.2.2 i)
/-- the house that the reference reads -/
def YD (F : FF) (b : Nat → Nat) (n : Nat) (T : Hs) (q : Bool) : Prop := YB F b n ∧ RC F ∧ F 82 3 = nI T.1.1 ∧ F 82 4 = bI q ∧ F 82 5 = mwI T T.1.2.2.1 ∧ PG F T ∧ WT T
/-- and the word at p is read -/
def YS (F : FF) (b : Nat → Nat) (n p : Nat) (T : Hs) (q : Bool) : Prop := YD F b n T q ∧ p ≤ n ∧ F 82 12 = nI (stt b n p) ∧ YK F (stt b n p) (tok b n (stt b n p))
def FYT (F F1 : FF) : Prop := (∀ c, c ≠ 82 → c ≠ 84 → F1 c = F c) ∧ ∀ k, (k < 3 ∨ (5 < k ∧ k < 9) ∨ 14 < k) → F1 82 k = F 82 k
theorem FYT.rf {F : FF} : FYT F F := ⟨fun _ _ _ => rfl, fun _ _ => rfl⟩
theorem FYT.tr {F F1 F2 : FF} (a : FYT F F1) (b : FYT F1 F2) : FYT F F2 := ⟨fun c h1 h2 => (b.1 c h1 h2).trans (a.1 c h1 h2), fun k h => (b.2 k h).trans (a.2 k h)⟩
theorem FY.T {F F1 : FF} (h : FY F F1) : FYT F F1 := ⟨fun c h1 _ => h.1 c h1, fun k hk => h.2 k (by omega)⟩
theorem YD.mv {F F1 : FF} {b : Nat → Nat} {n : Nat} {T : Hs} {q : Bool} (h : YD F b n T q) (k : FY F F1) : YD F1 b n T q := by
  obtain ⟨h1, h2, h3, h4, h5, h6, h7⟩ := h
  have e84 : F1 84 = F 84 := k.1 84 (by omega)
  refine ⟨⟨by rw [k.2 7 (by omega)]; exact h1.1, h1.2.1, fun i hi => by rw [k.1 85 (by omega)]; exact h1.2.2 i hi⟩, h2.mv (k.1 86 (by omega)) (k.1 87 (by omega)), by rw [k.2 3 (by omega)]; exact h3, by rw [k.2 4 (by omega)]; exact h4, by rw [k.2 5 (by omega)]; exact h5, ?_, h7⟩
  unfold PG
  rw [e84]
  exact h6
/-- what the reference ends a piece with -/
def YE (F : FF) (b : Nat → Nat) (n : Nat) (F1 : FF) (o : Rs) : Prop := FYT F F1 ∧ match o with
  | .inl f => F1 82 9 = nI f.1 ∧ F1 82 10 = nI f.2 ∧ 1 ≤ f.1 ∧ f.1 ≤ 6
  | .inr g => YS F1 b n g.1 g.2.1 g.2.2
theorem YE.tr {n : Nat} {b : Nat → Nat} {F F0 F1 : FF} {o : Rs} (h : YE F0 b n F1 o) (a : FYT F F0) : YE F b n F1 o := ⟨a.tr h.1, h.2⟩
theorem y_on {N n p : Nat} {b : Nat → Nat} {F : FF} {T : Hs} {q : Bool} (hN : 1000 ≤ N) (h : YD F b n T q) (hp : p ≤ n) (h11 : F 82 11 = nI p) (h9 : F 82 9 = 0) : ∃ F1, fX7_readsOn N F = some ((), F1) ∧ FY F F1 ∧ YS F1 b n p T q := by
  obtain ⟨F1, e1, e2, e3, e4⟩ := y_scan (N := N) hN h.1 hp h11 h9
  exact ⟨F1, e1, e2, h.mv e2, hp, e3, e4⟩
theorem y_off {N c : Nat} {F : FF} (h9 : F 82 9 = nI c) (hc : 1 ≤ c ∧ c ≤ 6) : fX7_readsOn N F = some ((), F) := by
  unfold fX7_readsOn
  rw [h9, if_neg (by show ¬ nI c ≤ nI 0; simp (disch := omega) only [nI_leI]; omega)]
theorem y_ne {c : Nat} (hc : 1 ≤ c ∧ c ≤ 6) : ¬ nI c = 0 := by show ¬ nI c = nI 0; simp (disch := omega) only [nI_eq]; omega
/-- the end of a line -/
def yTail (N : Nat) (F : FF) : Option (Unit × FF) := if ¬ (F 82 9) = 0 then fX7_readLine_b119 N F else if (F 82 13) = 3 then fX7_readLine_b119 N F else bnd (fX7_fails N 2 F) fun _ F4 => fX7_readLine_b119 N F4
/-- a fault was there: nothing more -/
theorem y_tailF {N n c s : Nat} {b : Nat → Nat} {F : FF} (h9 : F 82 9 = nI c) (h10 : F 82 10 = nI s) (hc : 1 ≤ c ∧ c ≤ 6) : ∃ F1, yTail N F = some ((), F1) ∧ YE F b n F1 (.inl (c, s)) := by
  refine ⟨F, ?_, FYT.rf, h9, h10, hc⟩
  unfold yTail fX7_readLine_b119
  rw [if_pos (by rw [h9]; exact y_ne hc), y_off h9 hc, bnd_some]
theorem y_failed {N n c s : Nat} {b : Nat → Nat} {F : FF} (h9 : F 82 9 = 0) (h12 : F 82 12 = nI s) (hc : 1 ≤ c ∧ c ≤ 6) : ∃ F1, fX7_fails N (nI c) F = some ((), F1) ∧ FY F F1 ∧ F1 82 9 = nI c ∧ F1 82 10 = nI s :=
  ⟨_, y_fail0 h9, (FY.rf.put (by omega)).put (by omega), by rw [fpu, if_neg (by omega), fpu, if_pos ⟨rfl, rfl⟩], by rw [fpu, if_pos ⟨rfl, rfl⟩]; exact h12⟩
theorem y_semi {N n p : Nat} {b : Nat → Nat} {F : FF} {T : Hs} {q : Bool} (hN : 1000 ≤ N) (h : YS F b n p T q) : ∃ F1, yTail N F = some ((), F1) ∧ YE F b n F1 (semP b n p T q) := by
  obtain ⟨h1, h2, h3, h4⟩ := h
  have ht := tok_le (b := b) (stt_le (b := b) h2).2
  unfold semP
  by_cases c4 : (tok b n (stt b n p)).1 = 4
  · rw [if_pos c4]
    exact y_tailF (h4.2.2 c4).1 (h4.2.2 c4).2 (by omega)
  · rw [if_neg c4]
    obtain ⟨g1, g2, g3⟩ := h4.1 c4
    unfold yTail
    rw [g3, if_neg (fun h => h rfl), g1]
    by_cases c2 : (tok b n (stt b n p)).1 = 2
    · rw [if_pos c2, c2, if_pos (show nI (yc 2) = 3 from rfl), fX7_readLine_b119]
      obtain ⟨F1, e1, e2, e3⟩ := y_on (N := N) hN h1 ht.2.1 g2 g3
      rw [e1, bnd_some]
      exact ⟨F1, rfl, e2.T, e3⟩
    · have hne : ¬ nI (yc (tok b n (stt b n p)).1) = 3 := by
        have : yc (tok b n (stt b n p)).1 ≤ 4 ∧ yc (tok b n (stt b n p)).1 ≠ 3 := by unfold yc; split <;> omega
        show ¬ nI _ = nI 3
        simp (disch := omega) only [nI_eq]
        exact this.2
      rw [if_neg c2, if_neg hne]
      obtain ⟨F1, e1, e2, e3, e4⟩ := y_failed (N := N) (n := n) (b := b) (c := 2) g3 h3 (by omega)
      rw [show fX7_fails N 2 F = some ((), F1) from e1, bnd_some, fX7_readLine_b119, y_off e3 (by omega), bnd_some]
      exact ⟨F1, rfl, e2.T, e3, e4, by show 1 ≤ 2; omega, by show 2 ≤ 6; omega⟩
