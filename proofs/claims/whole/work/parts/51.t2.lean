/-! TEXT: words on the tape, the reference -/
def YB (F : FF) (b : Nat → Nat) (n : Nat) : Prop := F 82 7 = nI n ∧ n ≤ 160 ∧ ∀ i, i < n → F 85 i = nI (b i) ∧ b i ≤ 127
theorem YB.put {F : FF} {b : Nat → Nat} {n k : Nat} {x : Int32} (h : YB F b n) (hk : k ≠ 7) : YB (fput F 82 k x) b n := ⟨by rw [fpu, if_neg (fun e => hk e.2.symm)]; exact h.1, h.2.1, fun i hi => by rw [fput_a (by omega)]; exact h.2.2 i hi⟩
def yb (b : Nat → Nat) (n p : Nat) : Int32 := if n ≤ p then -4 else nI (b p)
theorem y_byte {N n p : Nat} {b : Nat → Nat} {F : FF} (h : YB F b n) (hp : p < 2 ^ 31) : fX7_byteAt N (nI p) F = some (yb b n p, F) := by
  have h160 := h.2.1
  unfold fX7_byteAt yb
  rw [h.1]
  by_cases c : n ≤ p
  · rw [if_pos (by simp (disch := omega) only [nI_leI]; exact c), if_pos c]
  · rw [if_neg (by simp (disch := omega) only [nI_leI]; exact c), if_neg c, ld_ok a85 (by omega), (h.2.2 p (by omega)).1]
theorem y_isL {n p : Nat} {b : Nat → Nat} {F : FF} (hb : p < n → b p ≤ 127) : pX7_in (yb b n p).toInt64 97 122 F = bI (decide (p < n) && isL (b p)) := by
  rw [y_in, i64]
  unfold yb
  by_cases c : n ≤ p
  · rw [if_pos c, decide_eq_false (show ¬ p < n by omega)]; rfl
  · have := hb (by omega)
    rw [if_neg c, decide_eq_true (show p < n by omega), nI_toInt (by omega), Bool.true_and]
    congr 1
    show decide ((97 : Int) ≤ _ ∧ _ ≤ (122 : Int)) = _
    cases e : isL (b p) with
    | true => have := isL_iff.mp e; exact decide_eq_true (by omega)
    | false =>
      refine decide_eq_false (fun h => ?_)
      have := (isL_iff (c := b p)).mpr (by omega)
      rw [e] at this
      cases this
theorem y_isD {n p : Nat} {b : Nat → Nat} {F : FF} (hb : p < n → b p ≤ 127) : pX7_in (yb b n p).toInt64 48 57 F = bI (decide (p < n) && isD (b p)) := by
  rw [y_in, i64]
  unfold yb
  by_cases c : n ≤ p
  · rw [if_pos c, decide_eq_false (show ¬ p < n by omega)]; rfl
  · have := hb (by omega)
    rw [if_neg c, decide_eq_true (show p < n by omega), nI_toInt (by omega), Bool.true_and]
    congr 1
    show decide ((48 : Int) ≤ _ ∧ _ ≤ (57 : Int)) = _
    cases e : isD (b p) with
    | true => have := isD_iff.mp e; exact decide_eq_true (by omega)
    | false =>
      refine decide_eq_false (fun h => ?_)
      have := (isD_iff (c := b p)).mpr (by omega)
      rw [e] at this
      cases this
theorem yb_32 {n p : Nat} {b : Nat → Nat} (hb : p < n → b p ≤ 127) : yb b n p = 32 ↔ p < n ∧ b p = 32 := by
  unfold yb
  by_cases c : n ≤ p
  · rw [if_pos c]
    exact ⟨fun h => absurd h (by decide), fun h => by omega⟩
  · have := hb (by omega)
    rw [if_neg c, show (32 : Int32) = nI 32 from rfl, nI_eq (by omega) (by omega)]
    exact ⟨fun h => ⟨by omega, h⟩, fun h => h.2⟩
theorem skF_stop {b : Nat → Nat} {n : Nat} : ∀ m p, p + m = n → skF b m p = n ∨ ¬ b (skF b m p) = 32
  | 0, p, h => Or.inl (by unfold skF; omega)
  | m + 1, p, h => by
    unfold skF
    split
    · exact skF_stop m (p + 1) (by omega)
    · exact Or.inr (by assumption)
theorem y_skip {N n : Nat} {b : Nat → Nat} : ∀ (m p n' : Nat) (F : FF), p + m = n → m < n' → YB F b n → F 82 11 = nI p → ∃ n'', fX7_readsOn_L8 N n' F = fX7_readsOn_L8 N (n'' + 1) (fput F 82 11 (nI (skF b m p))) := by
  intro m
  induction m with
  | zero =>
    intro p n' F hp hn h h4
    obtain ⟨n', rfl⟩ : ∃ k, n' = k + 1 := ⟨n' - 1, by omega⟩
    refine ⟨n', ?_⟩
    show _ = fX7_readsOn_L8 N (n' + 1) (fput F 82 11 (nI p))
    rw [fput_id h4]
  | succ m ih =>
    intro p n' F hp hn h h4
    obtain ⟨n', rfl⟩ : ∃ k, n' = k + 1 := ⟨n' - 1, by omega⟩
    have h160 := h.2.1
    have hb : p < n → b p ≤ 127 := fun hp => (h.2.2 p hp).2
    rw [skF]
    by_cases e : b p = 32
    · obtain ⟨n'', z⟩ := ih (p + 1) n' (fput F 82 11 (nI (p + 1))) (by omega) (by omega) (h.put (by omega)) (by rw [fpu, if_pos ⟨rfl, rfl⟩])
      refine ⟨n'', ?_⟩
      rw [if_pos e, fX7_readsOn_L8.eq_2, h4, y_byte h (by omega), bnd_some, if_neg (fun hh => hh ((yb_32 hb).mpr ⟨by omega, e⟩)), h4, show nI p + 1 = nI (p + 1) from nI_1 p, nmE, z, fput_ff]
    · exact ⟨n', by rw [if_neg e, fput_id h4]⟩
theorem y_name_L {N n : Nat} {b : Nat → Nat} : ∀ (m p n' : Nat) (F : FF), p + m = n → m < n' → YB F b n → F 82 11 = nI p → fX7_readsOn_L84 N n' F = some ((), fput (fput F 82 11 (nI (nmF b m p))) 82 13 1) := by
  intro m
  induction m with
  | zero =>
    intro p n' F hp hn h h4
    obtain ⟨n', rfl⟩ : ∃ k, n' = k + 1 := ⟨n' - 1, by omega⟩
    have h160 := h.2.1
    rw [fX7_readsOn_L84.eq_2, h4, y_byte h (by omega), bnd_some, y_isL (fun hp => (h.2.2 p hp).2), decide_eq_false (show ¬ p < n by omega), if_pos (show bI (false && _) = 0 from rfl), nmE]
    show _ = some ((), fput (fput F 82 11 (nI p)) 82 13 1)
    rw [fput_id h4]
  | succ m ih =>
    intro p n' F hp hn h h4
    obtain ⟨n', rfl⟩ : ∃ k, n' = k + 1 := ⟨n' - 1, by omega⟩
    have h160 := h.2.1
    rw [fX7_readsOn_L84.eq_2, h4, y_byte h (by omega), bnd_some, y_isL (fun hp => (h.2.2 p hp).2), decide_eq_true (show p < n by omega), nmF, Bool.true_and]
    cases e : isL (b p) with
    | true => rw [if_neg (by decide), if_pos rfl, h4, show nI p + 1 = nI (p + 1) from nI_1 p, nmE, ih (p + 1) n' _ (by omega) (by omega) (h.put (by omega)) (by rw [fpu, if_pos ⟨rfl, rfl⟩]), fput_ff]
    | false => rw [if_pos (by decide), if_neg (by decide), nmE, fput_id h4]
def vyF (b : Nat → Nat) (s : Nat) : Nat → Nat → Int32 → Int32
  | 0, _, v => v
  | m + 1, p, v => if isD (b p) = true then vyF b s m (p + 1) (if 2 ≤ p - s then v else 10 * v + nI (b p) - 48) else v
def yfin (N : Nat) (F : FF) : Option (Unit × FF) := if ((F 82 11) - (F 82 12)) ≤ 2 then some ((), F) else bnd (fX7_fails N 1 F) fun _ F3 => some ((), F3)
theorem y_num_L {N n s : Nat} {b : Nat → Nat} : ∀ (m p n' : Nat) (F : FF), s ≤ p → p + m = n → m < n' → YB F b n → F 82 11 = nI p → F 82 12 = nI s → fX7_readsOn_L140 N n' F = yfin N (fput (fput (fput F 82 14 (vyF b s m p (F 82 14))) 82 11 (nI (ndF b m p))) 82 13 2) := by
  intro m
  induction m with
  | zero =>
    intro p n' F hs hp hn h h4 h5
    obtain ⟨n', rfl⟩ : ∃ k, n' = k + 1 := ⟨n' - 1, by omega⟩
    have h160 := h.2.1
    rw [fX7_readsOn_L140.eq_2, h4, y_byte h (by omega), bnd_some, y_isD (fun hp => (h.2.2 p hp).2), decide_eq_false (show ¬ p < n by omega), if_pos (show bI (false && _) = 0 from rfl), nmE]
    show _ = yfin N (fput (fput (fput F 82 14 (F 82 14)) 82 11 (nI p)) 82 13 2)
    rw [fput_id rfl, fput_id h4]
    rfl
  | succ m ih =>
    intro p n' F hs hp hn h h4 h5
    obtain ⟨n', rfl⟩ : ∃ k, n' = k + 1 := ⟨n' - 1, by omega⟩
    have h160 := h.2.1
    rw [fX7_readsOn_L140.eq_2, h4, y_byte h (by omega), bnd_some, y_isD (fun hp => (h.2.2 p hp).2), decide_eq_true (show p < n by omega), ndF, vyF, Bool.true_and]
    cases e : isD (b p) with
    | true =>
      have key : ∀ x : Int32, fX7_readsOn_b201 N (fun F => fX7_readsOn_L140 N n' F) x F = yfin N (fput (fput (fput F 82 14 (vyF b s m (p + 1) x)) 82 11 (nI (ndF b m (p + 1)))) 82 13 2) := by
        intro x
        have e11 : fput F 82 14 x 82 11 = nI p := by rw [fpu, if_neg (by omega)]; exact h4
        rw [fX7_readsOn_b201, nmE, e11, show nI p + 1 = nI (p + 1) from nI_1 p, nmE, ih (p + 1) n' _ (by omega) (by omega) (by omega) ((h.put (by omega)).put (by omega)) (by rw [fpu, if_pos ⟨rfl, rfl⟩]) (by rw [fpu, if_neg (by omega), fpu, if_neg (by omega)]; exact h5)]
        congr 1
        have e14 : fput (fput F 82 14 x) 82 11 (nI (p + 1)) 82 14 = x := by rw [fpu, if_neg (by omega), fpu, if_pos ⟨rfl, rfl⟩]
        rw [e14]
        funext c q
        simp only [fpu]
        by_cases c0 : c = 82 ∧ q = 13
        · rw [if_pos c0, if_pos c0]
        · rw [if_neg c0, if_neg c0]
          by_cases c1 : c = 82 ∧ q = 11
          · rw [if_pos c1, if_pos c1]
          · rw [if_neg c1, if_neg c1]
            by_cases c2 : c = 82 ∧ q = 14
            · obtain ⟨rfl, rfl⟩ := c2; rfl
            · rw [if_neg c2, if_neg c2, if_neg c1, if_neg c2]
      rw [if_neg (by decide), if_pos rfl, if_pos rfl, h4, h5, nI_sub hs]
      by_cases c2 : 2 ≤ p - s
      · rw [if_pos (by show nI 2 ≤ nI _; simp (disch := omega) only [nI_leI]; exact c2), if_pos c2]
        exact key _
      · rw [if_neg (by show ¬ nI 2 ≤ nI _; simp (disch := omega) only [nI_leI]; exact c2), if_neg c2, y_byte h (by omega), bnd_some, show yb b n p = nI (b p) from if_neg (by omega)]
        exact key _
    | false =>
      rw [if_pos (by decide), if_neg (by decide), if_neg (by decide), nmE, fput_id rfl, fput_id h4]
      rfl
theorem vy_val {b : Nat → Nat} {s m : Nat} (h1 : isD (b s) = true) (h2 : ndF b (m + 1) s - s ≤ 2) : vyF b s (m + 1) s 0 = nI (val b s (ndF b (m + 1) s)) := by
  have d1 := isD_iff.mp h1
  have e1 : (10 : Int32) * 0 + nI (b s) - 48 = nI (b s - 48) := by
    rw [show (10 : Int32) * 0 = nI 0 from rfl, nI_add, Nat.zero_add, show (48 : Int32) = nI 48 from rfl, nI_sub (by omega)]
  rw [ndF, if_pos h1] at h2 ⊢
  rw [vyF, if_pos h1, if_neg (by omega), e1]
  cases m with
  | zero =>
    show nI _ = nI (val b s (s + 1))
    unfold val
    rw [if_pos rfl]
  | succ m =>
    rw [ndF] at h2 ⊢
    rw [vyF]
    cases hd : isD (b (s + 1)) with
    | false =>
      rw [if_neg (by decide), if_neg (by decide)]
      unfold val
      rw [if_pos rfl]
    | true =>
      have d2 := isD_iff.mp hd
      rw [hd, if_pos rfl] at h2
      rw [if_pos rfl, if_pos rfl, if_neg (by omega)]
      have hle := ndF_le (b := b) m (s + 1 + 1)
      have e2 : 10 * nI (b s - 48) + nI (b (s + 1)) - 48 = nI (10 * (b s - 48) + (b (s + 1) - 48)) := by
        rw [show (10 : Int32) = nI 10 from rfl, nI_mul, nI_add, show (48 : Int32) = nI 48 from rfl, nI_sub (by omega)]
        congr 1
        omega
      rw [e2]
      have e3 : ndF b m (s + 1 + 1) = s + 1 + 1 := by omega
      rw [e3]
      unfold val
      rw [if_neg (by omega)]
      cases m with
      | zero => rfl
      | succ m =>
        rw [vyF]
        cases hd2 : isD (b (s + 1 + 1)) with
        | false => rw [if_neg (by decide)]
        | true =>
          rw [ndF, hd2, if_pos rfl] at e3
          have := ndF_le (b := b) m (s + 1 + 1 + 1)
          omega
def yc (k : Nat) : Nat := if k = 3 then 0 else k + 1
/-- what the reference knows of the word that it has read -/
def YK (F : FF) (s : Nat) (t : Tk) : Prop := (t.1 ≠ 4 → F 82 13 = nI (yc t.1) ∧ F 82 11 = nI t.2.1 ∧ F 82 9 = 0) ∧ (t.1 = 1 → F 82 14 = nI t.2.2) ∧ (t.1 = 4 → F 82 9 = 1 ∧ F 82 10 = nI s)
theorem yk_3 {F : FF} {s e v k : Nat} (hk : k ≠ 4) (hk1 : k ≠ 1) (h : F 82 13 = nI (yc k) ∧ F 82 11 = nI e ∧ F 82 9 = 0) : YK F s (k, e, v) := ⟨fun _ => h, fun e => absurd e hk1, fun e => absurd e hk⟩
theorem yk_1 {F : FF} {s e v : Nat} (h : F 82 13 = 2 ∧ F 82 11 = nI e ∧ F 82 14 = nI v ∧ F 82 9 = 0) : YK F s (1, e, v) := ⟨fun _ => ⟨h.1, h.2.1, h.2.2.2⟩, fun _ => h.2.2.1, fun e => absurd e (by show ¬ 1 = 4; omega)⟩
theorem yk_4 {F : FF} {s e v : Nat} (h : F 82 9 = 1 ∧ F 82 10 = nI s) : YK F s (4, e, v) := ⟨fun e => absurd rfl e, fun e => absurd e (by show ¬ 4 = 1; omega), fun _ => h⟩
def FY (F F1 : FF) : Prop := (∀ c, c ≠ 82 → F1 c = F c) ∧ ∀ k, (k < 9 ∨ 14 < k) → F1 82 k = F 82 k
theorem FY.put {F F1 : FF} {k : Nat} {x : Int32} (h : FY F F1) (hk : 9 ≤ k ∧ k ≤ 14) : FY F (fput F1 82 k x) := ⟨fun c hc => by rw [fput_a hc]; exact h.1 c hc, fun q hq => by rw [fpu, if_neg (by omega)]; exact h.2 q hq⟩
theorem FY.rf {F : FF} : FY F F := ⟨fun _ _ => rfl, fun _ _ => rfl⟩
theorem FY.tr {F F1 F2 : FF} (a : FY F F1) (b : FY F1 F2) : FY F F2 := ⟨fun c h => (b.1 c h).trans (a.1 c h), fun k h => (b.2 k h).trans (a.2 k h)⟩
theorem y_fail0 {N : Nat} {v : Int32} {F : FF} (h : F 82 9 = 0) : fX7_fails N v F = some ((), fput (fput F 82 9 v) 82 10 (F 82 12)) := by
  unfold fX7_fails
  rw [h, if_neg (fun h => h rfl), nmE, nmE, show fput F 82 9 v 82 12 = F 82 12 by rw [fpu, if_neg (by omega)]]
theorem y_fail1 {N : Nat} {v : Int32} {F : FF} (h : ¬ F 82 9 = 0) : fX7_fails N v F = some ((), F) := if_pos h
theorem y_scan {N n p : Nat} {b : Nat → Nat} {F : FF} (hN : 1000 ≤ N) (h : YB F b n) (hp : p ≤ n) (h4 : F 82 11 = nI p) (h2 : F 82 9 = 0) : ∃ F1, fX7_readsOn N F = some ((), F1) ∧ FY F F1 ∧ F1 82 12 = nI (stt b n p) ∧ YK F1 (stt b n p) (tok b n (stt b n p)) := by
  have h160 := h.2.1
  have hs := skF_le (b := b) (n - p) p
  have hstop := skF_stop (b := b) (n := n) (n - p) p (by omega)
  unfold fX7_readsOn
  rw [h2, if_pos (by decide)]
  obtain ⟨n'', z⟩ := y_skip (N := N) (b := b) (n - p) p N F (by omega) (by omega) h h4
  rw [z]
  rw [show skF b (n - p) p = stt b n p from rfl] at hs hstop ⊢
  generalize stt b n p = s at hs hstop ⊢
  obtain ⟨F0, hF0⟩ : ∃ F0, fput F 82 11 (nI s) = F0 := ⟨_, rfl⟩
  rw [hF0]
  have f11 : F0 82 11 = nI s := by rw [← hF0, fpu, if_pos ⟨rfl, rfl⟩]
  have hB0 : YB F0 b n := by rw [← hF0]; exact h.put (by omega)
  have hb : s < n → b s ≤ 127 := fun hp => (h.2.2 s hp).2
  rw [fX7_readsOn_L8.eq_2, f11, y_byte hB0 (by omega), bnd_some, if_pos (fun e => by have := (yb_32 hb).mp e; omega), f11, nmE]
  have e11 : fput F0 82 12 (nI s) 82 11 = nI s := by rw [fpu, if_neg (by omega)]; exact f11
  rw [e11, y_byte (hB0.put (by omega)) (by omega), bnd_some, nmE]
  obtain ⟨F1, hF1⟩ : ∃ F1, fput (fput F0 82 12 (nI s)) 82 14 0 = F1 := ⟨_, rfl⟩
  rw [hF1]
  have g12 : F1 82 12 = nI s := by rw [← hF1, fpu, if_neg (by omega), fpu, if_pos ⟨rfl, rfl⟩]
  have g14 : F1 82 14 = 0 := by rw [← hF1, fpu, if_pos ⟨rfl, rfl⟩]
  have g11 : F1 82 11 = nI s := by rw [← hF1, fpu, if_neg (by omega)]; exact e11
  have g9 : F1 82 9 = 0 := by rw [← hF1, fpu, if_neg (by omega), fpu, if_neg (by omega), ← hF0, fpu, if_neg (by omega)]; exact h2
  have fX : FY F F1 := by rw [← hF1, ← hF0]; exact ((FY.rf.put (by omega)).put (by omega)).put (by omega)
  have hB : YB F1 b n := by rw [← hF1]; exact (hB0.put (by omega)).put (by omega)
  unfold tok
  by_cases c1 : n ≤ s
  · rw [show yb b n s = -4 from if_pos c1, if_neg (fun h => h rfl), if_pos c1, nmE]
    refine ⟨_, rfl, fX.put (by omega), by rw [fpu, if_neg (by omega)]; exact g12, yk_3 (by omega) (by omega) ⟨by rw [fpu, if_pos ⟨rfl, rfl⟩]; rfl, by rw [fpu, if_neg (by omega)]; exact g11, by rw [fpu, if_neg (by omega)]; exact g9⟩⟩
  · have hb' := hb (by omega)
    rw [if_pos (by rw [show yb b n s = nI (b s) from if_neg c1]; exact ne_m4 (by omega)), if_neg c1, y_isL hb, y_isD hb, decide_eq_true (show s < n by omega), Bool.true_and, Bool.true_and]
    have hL : b s = 59 → isL (b s) = false ∧ isD (b s) = false := fun e => by rw [e]; exact ⟨rfl, rfl⟩
    have e59 : yb b n s = 59 ↔ b s = 59 := by
      rw [show yb b n s = nI (b s) from if_neg c1, show (59 : Int32) = nI 59 from rfl, nI_eq (by omega) (by omega)]
    by_cases c2 : b s = 59
    · rw [(hL c2).1, (hL c2).2, if_pos (show bI false = 0 from rfl), if_pos (show bI false = 0 from rfl), nmE, show fput F1 82 13 3 82 11 = nI s by rw [fpu, if_neg (by omega)]; exact g11, nmE, if_pos (e59.mpr c2), if_pos c2, show nI s + 1 = nI (s + 1) from nI_1 s]
      refine ⟨_, rfl, (fX.put (by omega)).put (by omega), by rw [fpu, if_neg (by omega), fpu, if_neg (by omega)]; exact g12, yk_3 (by omega) (by omega) ⟨by rw [fpu, if_neg (by omega), fpu, if_pos ⟨rfl, rfl⟩]; rfl, by rw [fpu, if_pos ⟨rfl, rfl⟩], by rw [fpu, if_neg (by omega), fpu, if_neg (by omega)]; exact g9⟩⟩
    · rw [if_neg c2]
      cases c3 : isL (b s) with
      | true =>
        rw [if_neg (by decide), if_pos rfl, y_name_L (n - s) s N F1 (by omega) (by omega) hB g11]
        refine ⟨_, rfl, (fX.put (by omega)).put (by omega), by rw [fpu, if_neg (by omega), fpu, if_neg (by omega)]; exact g12, yk_3 (by omega) (by omega) ⟨by rw [fpu, if_pos ⟨rfl, rfl⟩]; rfl, by rw [fpu, if_neg (by omega), fpu, if_pos ⟨rfl, rfl⟩], by rw [fpu, if_neg (by omega), fpu, if_neg (by omega)]; exact g9⟩⟩
      | false =>
        rw [if_pos (show bI false = 0 from rfl), if_neg (show ¬ false = true by decide)]
        cases c4 : isD (b s) with
        | true =>
          obtain ⟨m, hm⟩ : ∃ m, n - s = m + 1 := ⟨n - s - 1, by omega⟩
          have hle := ndF_le (b := b) (n - s) s
          rw [if_neg (show ¬ bI true = 0 by decide), if_pos (show true = true from rfl), y_num_L (n - s) s N F1 (Nat.le_refl s) (by omega) (by omega) hB g11 g12, g14]
          obtain ⟨F2, hF2⟩ : ∃ F2, fput (fput (fput F1 82 14 (vyF b s (n - s) s 0)) 82 11 (nI (ndF b (n - s) s))) 82 13 2 = F2 := ⟨_, rfl⟩
          rw [hF2, yfin]
          have k13 : F2 82 13 = 2 := by rw [← hF2, fpu, if_pos ⟨rfl, rfl⟩]
          have k11 : F2 82 11 = nI (ndF b (n - s) s) := by rw [← hF2, fpu, if_neg (by omega), fpu, if_pos ⟨rfl, rfl⟩]
          have k14 : F2 82 14 = vyF b s (n - s) s 0 := by rw [← hF2, fpu, if_neg (by omega), fpu, if_neg (by omega), fpu, if_pos ⟨rfl, rfl⟩]
          have kk : ∀ k, k ≠ 11 → k ≠ 13 → k ≠ 14 → F2 82 k = F1 82 k := fun k h1 h2 h3 => by rw [← hF2, fpu, if_neg (by omega), fpu, if_neg (by omega), fpu, if_neg (by omega)]
          have kX : FY F F2 := by rw [← hF2]; exact ((fX.put (by omega)).put (by omega)).put (by omega)
          have k12 : F2 82 12 = nI s := by rw [kk 12 (by omega) (by omega) (by omega)]; exact g12
          have k9 : F2 82 9 = 0 := by rw [kk 9 (by omega) (by omega) (by omega)]; exact g9
          rw [k11, k12, nI_sub hle.1]
          by_cases c5 : ndF b (n - s) s - s ≤ 2
          · rw [if_pos (by show nI _ ≤ nI 2; simp (disch := omega) only [nI_leI]; exact c5), if_pos c5]
            refine ⟨F2, rfl, kX, k12, yk_1 ⟨k13, k11, ?_, k9⟩⟩
            rw [k14, hm]
            exact vy_val c4 (by rw [← hm]; exact c5)
          · rw [if_neg (by show ¬ nI _ ≤ nI 2; simp (disch := omega) only [nI_leI]; exact c5), if_neg c5, y_fail0 k9, bnd_some]
            refine ⟨_, rfl, (kX.put (by omega)).put (by omega), by rw [fpu, if_neg (by omega), fpu, if_neg (by omega)]; exact k12, yk_4 ⟨by rw [fpu, if_neg (by omega), fpu, if_pos ⟨rfl, rfl⟩], by rw [fpu, if_pos ⟨rfl, rfl⟩]; exact k12⟩⟩
        | false =>
          rw [if_pos (show bI false = 0 from rfl), if_neg (show ¬ false = true by decide), nmE, show fput F1 82 13 3 82 11 = nI s by rw [fpu, if_neg (by omega)]; exact g11, nmE, if_neg (fun e => c2 (e59.mp e)), y_fail0 (by rw [fpu, if_neg (by omega), fpu, if_neg (by omega)]; exact g9), bnd_some]
          refine ⟨_, rfl, (((fX.put (by omega)).put (by omega)).put (by omega)).put (by omega), ?_, yk_4 ⟨?_, ?_⟩⟩
          · rw [fpu, if_neg (by omega), fpu, if_neg (by omega), fpu, if_neg (by omega), fpu, if_neg (by omega)]; exact g12
          · rw [fpu, if_neg (by omega), fpu, if_pos ⟨rfl, rfl⟩]
          · rw [fpu, if_pos ⟨rfl, rfl⟩, fpu, if_neg (by omega), fpu, if_neg (by omega)]; exact g12
