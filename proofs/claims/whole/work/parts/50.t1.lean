/-! TEXT: words on the tape -/
theorem fput_ff {F : FF} {a k : Nat} {x y : Int32} : fput (fput F a k x) a k y = fput F a k y := by
  funext c q
  rw [fpu, fpu, fpu]
  by_cases e : c = a ∧ q = k
  · rw [if_pos e, if_pos e]
  · rw [if_neg e, if_neg e, if_neg e]
theorem fput_id {F : FF} {a k : Nat} {x : Int32} (h : F a k = x) : fput F a k x = F := by
  funext c q
  rw [fpu]
  by_cases e : c = a ∧ q = k
  · rw [if_pos e, e.1, e.2, h]
  · rw [if_neg e]
def isL (c : Nat) : Bool := Nat.ble 97 c && Nat.ble c 122
def isD (c : Nat) : Bool := Nat.ble 48 c && Nat.ble c 57
theorem isL_iff {c : Nat} : isL c = true ↔ 97 ≤ c ∧ c ≤ 122 := by unfold isL; simp [Nat.ble_eq]
theorem isD_iff {c : Nat} : isD c = true ↔ 48 ≤ c ∧ c ≤ 57 := by unfold isD; simp [Nat.ble_eq]
def skF (b : Nat → Nat) : Nat → Nat → Nat
  | 0, p => p
  | m + 1, p => if b p = 32 then skF b m (p + 1) else p
def nmF (b : Nat → Nat) : Nat → Nat → Nat
  | 0, p => p
  | m + 1, p => if isL (b p) = true then nmF b m (p + 1) else p
def ndF (b : Nat → Nat) : Nat → Nat → Nat
  | 0, p => p
  | m + 1, p => if isD (b p) = true then ndF b m (p + 1) else p
theorem skF_le {b : Nat → Nat} : ∀ m p, p ≤ skF b m p ∧ skF b m p ≤ p + m
  | 0, p => ⟨Nat.le_refl _, Nat.le_refl _⟩
  | m + 1, p => by
    unfold skF
    split
    · have := skF_le (b := b) m (p + 1); omega
    · omega
theorem nmF_le {b : Nat → Nat} : ∀ m p, p ≤ nmF b m p ∧ nmF b m p ≤ p + m
  | 0, p => ⟨Nat.le_refl _, Nat.le_refl _⟩
  | m + 1, p => by
    unfold nmF
    split
    · have := nmF_le (b := b) m (p + 1); omega
    · omega
theorem ndF_le {b : Nat → Nat} : ∀ m p, p ≤ ndF b m p ∧ ndF b m p ≤ p + m
  | 0, p => ⟨Nat.le_refl _, Nat.le_refl _⟩
  | m + 1, p => by
    unfold ndF
    split
    · have := ndF_le (b := b) m (p + 1); omega
    · omega
def val (b : Nat → Nat) (s e : Nat) : Nat := if e = s + 1 then b s - 48 else 10 * (b s - 48) + (b (s + 1) - 48)
/-- kind (0 name, 1 number, 2 semicolon, 3 end, 4 bad), end, value -/
abbrev Tk : Type := Nat × Nat × Nat
/-- the word that begins at s -/
def tok (b : Nat → Nat) (n s : Nat) : Tk :=
  if n ≤ s then (3, s, 0) else if b s = 59 then (2, s + 1, 0) else if isL (b s) = true then (0, nmF b (n - s) s, 0) else if isD (b s) = true then (if ndF b (n - s) s - s ≤ 2 then (1, ndF b (n - s) s, val b s (ndF b (n - s) s)) else (4, s, 0)) else (4, s, 0)
def stt (b : Nat → Nat) (n p : Nat) : Nat := skF b (n - p) p
/-! the class -/
def XB (F : FF) (b : Nat → Nat) (n : Nat) : Prop := F 33 1 = nI n ∧ n ≤ 160 ∧ ∀ i, i < n → F 34 i = nI (b i) ∧ b i ≤ 127
theorem XB.put {F : FF} {b : Nat → Nat} {n k : Nat} {x : Int32} (h : XB F b n) (hk : k ≠ 1) : XB (fput F 33 k x) b n := ⟨by rw [fpu, if_neg (fun e => hk e.2.symm)]; exact h.1, h.2.1, fun i hi => by rw [fput_a (by omega)]; exact h.2.2 i hi⟩
theorem x_isL {c : Nat} {F : FF} (h : c ≤ 127) : pX5_isLetter (nI c) F = bI (isL c) := by
  unfold pX5_isLetter
  simp (disch := omega) only [il, nI_ltI]
  by_cases h1 : c < 97
  · rw [if_pos h1]
    have : isL c = false := by
      cases e : isL c with
      | false => rfl
      | true => have := isL_iff.mp e; omega
    rw [this]; rfl
  · rw [if_neg h1]
    by_cases h2 : 122 < c
    · rw [if_pos h2]
      have : isL c = false := by
        cases e : isL c with
        | false => rfl
        | true => have := isL_iff.mp e; omega
      rw [this]; rfl
    · rw [if_neg h2, isL_iff.mpr ⟨by omega, by omega⟩]; rfl
theorem x_isD {c : Nat} {F : FF} (h : c ≤ 127) : pX5_isFigure (nI c) F = bI (isD c) := by
  unfold pX5_isFigure
  simp (disch := omega) only [il, nI_ltI]
  by_cases h1 : c < 48
  · rw [if_pos h1]
    have : isD c = false := by
      cases e : isD c with
      | false => rfl
      | true => have := isD_iff.mp e; omega
    rw [this]; rfl
  · rw [if_neg h1]
    by_cases h2 : 57 < c
    · rw [if_pos h2]
      have : isD c = false := by
        cases e : isD c with
        | false => rfl
        | true => have := isD_iff.mp e; omega
      rw [this]; rfl
    · rw [if_neg h2, isD_iff.mpr ⟨by omega, by omega⟩]; rfl
theorem x_skip {N n : Nat} {b : Nat → Nat} : ∀ (m p n' : Nat) (F : FF), p + m = n → m < n' → XB F b n → F 33 4 = nI p → fX5_scan_L0 N n' F = fX5_scan_b38 N (fput F 33 4 (nI (skF b m p))) := by
  intro m
  induction m with
  | zero =>
    intro p n' F hp hn h h4
    obtain ⟨n', rfl⟩ : ∃ k, n' = k + 1 := ⟨n' - 1, by omega⟩
    have h160 := h.2.1
    rw [fX5_scan_L0.eq_2, h.1, h4, if_pos (by simp (disch := omega) only [nI_leI]; omega)]
    show _ = fX5_scan_b38 N (fput F 33 4 (nI p))
    rw [fput_id h4]
  | succ m ih =>
    intro p n' F hp hn h h4
    obtain ⟨n', rfl⟩ : ∃ k, n' = k + 1 := ⟨n' - 1, by omega⟩
    have h160 := h.2.1
    obtain ⟨hb, hb2⟩ := h.2.2 p (by omega)
    rw [fX5_scan_L0.eq_2, h.1, h4, if_neg (by simp (disch := omega) only [nI_leI]; omega), ld_ok a34 (by omega), hb, skF]
    by_cases e : b p = 32
    · rw [if_neg (by rw [e]; exact fun h => h rfl), if_pos e, show nI p + 1 = nI (p + 1) from nI_1 p, nmE, ih (p + 1) n' _ (by omega) (by omega) (h.put (by omega)) (by rw [fpu, if_pos ⟨rfl, rfl⟩]), fput_ff]
    · rw [if_pos (by show ¬ nI (b p) = nI 32; simp (disch := omega) only [nI_eq]; exact e), if_neg e, fput_id h4]
theorem x_name_L {N n : Nat} {b : Nat → Nat} : ∀ (m p n' : Nat) (F : FF), p + m = n → m < n' → XB F b n → F 33 4 = nI p → fX5_scanName_L5 N n' F = some ((), fput F 33 4 (nI (nmF b m p))) := by
  intro m
  induction m with
  | zero =>
    intro p n' F hp hn h h4
    obtain ⟨n', rfl⟩ : ∃ k, n' = k + 1 := ⟨n' - 1, by omega⟩
    have h160 := h.2.1
    rw [fX5_scanName_L5.eq_2, h.1, h4, if_pos (by simp (disch := omega) only [nI_leI]; omega)]
    show _ = some ((), fput F 33 4 (nI p))
    rw [fput_id h4]
  | succ m ih =>
    intro p n' F hp hn h h4
    obtain ⟨n', rfl⟩ : ∃ k, n' = k + 1 := ⟨n' - 1, by omega⟩
    have h160 := h.2.1
    obtain ⟨hb, hb2⟩ := h.2.2 p (by omega)
    rw [fX5_scanName_L5.eq_2, h.1, h4, if_neg (by simp (disch := omega) only [nI_leI]; omega), ld_ok a34 (by omega), hb, nmF, x_isL hb2]
    cases e : isL (b p) with
    | true => rw [if_neg (by decide), if_pos rfl, show nI p + 1 = nI (p + 1) from nI_1 p, nmE, ih (p + 1) n' _ (by omega) (by omega) (h.put (by omega)) (by rw [fpu, if_pos ⟨rfl, rfl⟩]), fput_ff]
    | false => rw [if_pos (by decide), if_neg (by decide), fput_id h4]
def acF (b : Nat → Nat) : Nat → Nat → Int32 → Int32
  | 0, _, v => v
  | m + 1, p, v => if isD (b p) = true then acF b m (p + 1) (v * 10 + nI (b p) - 48) else v
theorem x_num_L {N n : Nat} {b : Nat → Nat} : ∀ (m p n' : Nat) (F : FF), p + m = n → m < n' → XB F b n → F 33 4 = nI p → fX5_scanNumber_L10 N n' F = fX5_scanNumber_b73 N (fput (fput F 33 7 (acF b m p (F 33 7))) 33 4 (nI (ndF b m p))) := by
  intro m
  induction m with
  | zero =>
    intro p n' F hp hn h h4
    obtain ⟨n', rfl⟩ : ∃ k, n' = k + 1 := ⟨n' - 1, by omega⟩
    have h160 := h.2.1
    rw [fX5_scanNumber_L10.eq_2, h.1, h4, if_pos (by simp (disch := omega) only [nI_leI]; omega)]
    show _ = fX5_scanNumber_b73 N (fput (fput F 33 7 (F 33 7)) 33 4 (nI p))
    rw [fput_id rfl, fput_id h4]
  | succ m ih =>
    intro p n' F hp hn h h4
    obtain ⟨n', rfl⟩ : ∃ k, n' = k + 1 := ⟨n' - 1, by omega⟩
    have h160 := h.2.1
    obtain ⟨hb, hb2⟩ := h.2.2 p (by omega)
    rw [fX5_scanNumber_L10.eq_2, h.1, h4, if_neg (by simp (disch := omega) only [nI_leI]; omega), ld_ok a34 (by omega), hb, ndF, x_isD hb2, acF]
    cases e : isD (b p) with
    | true =>
      rw [if_neg (by decide), if_pos rfl, if_pos rfl, ld_ok a34 (by omega), hb, nmE, fpu, if_neg (by omega), h4, show nI p + 1 = nI (p + 1) from nI_1 p, nmE, ih (p + 1) n' _ (by omega) (by omega) ((h.put (by omega)).put (by omega)) (by rw [fpu, if_pos ⟨rfl, rfl⟩])]
      congr 1
      have e7 : ∀ (x y : Int32), fput (fput F 33 7 x) 33 4 y 33 7 = x := fun x y => by rw [fpu, if_neg (by omega), fpu, if_pos ⟨rfl, rfl⟩]
      rw [e7]
      funext c q
      rw [fpu, fpu, fpu, fpu, fpu, fpu]
      by_cases c1 : c = 33 ∧ q = 4
      · rw [if_pos c1, if_pos c1]
      · rw [if_neg c1, if_neg c1]
        by_cases c2 : c = 33 ∧ q = 7
        · obtain ⟨rfl, rfl⟩ := c2; rfl
        · rw [if_neg c2, if_neg c2, if_neg c1, if_neg c2]
    | false => rw [if_pos (by decide), if_neg (by decide), if_neg (by decide), fput_id rfl, fput_id h4]
theorem ac_val {b : Nat → Nat} {s m : Nat} (h1 : isD (b s) = true) (h2 : ndF b (m + 1) s - s ≤ 2) : acF b (m + 1) s 0 = nI (val b s (ndF b (m + 1) s)) := by
  have d1 := isD_iff.mp h1
  have e1 : (0 : Int32) * 10 + nI (b s) - 48 = nI (b s - 48) := by
    rw [show (0 : Int32) * 10 = nI 0 from rfl, nI_add, Nat.zero_add, show (48 : Int32) = nI 48 from rfl, nI_sub (by omega)]
  rw [ndF, if_pos h1] at h2 ⊢
  rw [acF, if_pos h1, e1]
  cases m with
  | zero =>
    show nI _ = nI (val b s (s + 1))
    unfold val
    rw [if_pos rfl]
  | succ m =>
    rw [ndF] at h2 ⊢
    rw [acF]
    cases hd : isD (b (s + 1)) with
    | false =>
      rw [if_neg (by decide), if_neg (by decide)]
      unfold val
      rw [if_pos rfl]
    | true =>
      have d2 := isD_iff.mp hd
      rw [hd, if_pos rfl] at h2
      rw [if_pos rfl, if_pos rfl]
      have hle := ndF_le (b := b) m (s + 1 + 1)
      have e2 : nI (b s - 48) * 10 + nI (b (s + 1)) - 48 = nI (10 * (b s - 48) + (b (s + 1) - 48)) := by
        rw [show (10 : Int32) = nI 10 from rfl, nI_mul, nI_add, show (48 : Int32) = nI 48 from rfl, nI_sub (by omega)]
        congr 1
        omega
      rw [e2]
      have e3 : ndF b m (s + 1 + 1) = s + 1 + 1 := by omega
      rw [e3]
      unfold val
      rw [if_neg (by omega)]
      cases m with
      | zero => rfl
      | succ m =>
        rw [acF]
        cases hd2 : isD (b (s + 1 + 1)) with
        | false => rw [if_neg (by decide)]
        | true =>
          rw [ndF, hd2, if_pos rfl] at e3
          have := ndF_le (b := b) m (s + 1 + 1 + 1)
          omega
/-- what the class knows of the word that it has read -/
def XK (F : FF) (s : Nat) (t : Tk) : Prop := F 33 6 = nI t.1 ∧ (t.1 ≠ 4 → F 33 4 = nI t.2.1 ∧ F 33 2 = 0) ∧ (t.1 = 1 → F 33 7 = nI t.2.2) ∧ (t.1 = 4 → F 33 2 = 1 ∧ F 33 3 = nI s)
theorem xk_3 {F : FF} {s e v k : Nat} (hk : k ≠ 4) (hk1 : k ≠ 1) (h : F 33 6 = nI k ∧ F 33 4 = nI e ∧ F 33 2 = 0) : XK F s (k, e, v) := ⟨h.1, fun _ => h.2, fun e => absurd e hk1, fun e => absurd e hk⟩
theorem xk_1 {F : FF} {s e v : Nat} (h : F 33 6 = 1 ∧ F 33 4 = nI e ∧ F 33 7 = nI v ∧ F 33 2 = 0) : XK F s (1, e, v) := ⟨h.1, fun _ => ⟨h.2.1, h.2.2.2⟩, fun _ => h.2.2.1, fun e => absurd e (by show ¬ 1 = 4; omega)⟩
theorem xk_4 {F : FF} {s e v : Nat} (h : F 33 6 = 4 ∧ F 33 2 = 1 ∧ F 33 3 = nI s) : XK F s (4, e, v) := ⟨h.1, fun e => absurd rfl e, fun e => absurd e (by show ¬ 4 = 1; omega), fun _ => h.2⟩
def FX (F F1 : FF) : Prop := (∀ c, c ≠ 33 → F1 c = F c) ∧ ∀ k, (k < 2 ∨ 7 < k) → F1 33 k = F 33 k
theorem FX.put {F F1 : FF} {k : Nat} {x : Int32} (h : FX F F1) (hk : 2 ≤ k ∧ k ≤ 7) : FX F (fput F1 33 k x) := ⟨fun c hc => by rw [fput_a hc]; exact h.1 c hc, fun q hq => by rw [fpu, if_neg (by omega)]; exact h.2 q hq⟩
theorem FX.rf {F : FF} : FX F F := ⟨fun _ _ => rfl, fun _ _ => rfl⟩
theorem FX.tr {F F1 F2 : FF} (a : FX F F1) (b : FX F1 F2) : FX F F2 := ⟨fun c h => (b.1 c h).trans (a.1 c h), fun k h => (b.2 k h).trans (a.2 k h)⟩
theorem x_ref0 {N : Nat} {v : Int32} {F : FF} (h : F 33 2 = 0) : fX5_refuse N v F = some (0, fput (fput F 33 2 v) 33 3 (F 33 5)) := by
  unfold fX5_refuse
  rw [h, if_neg (fun h => h rfl), nmE, nmE, show fput F 33 2 v 33 5 = F 33 5 by rw [fpu, if_neg (by omega)]]
theorem x_ref1 {N : Nat} {v : Int32} {F : FF} (h : ¬ F 33 2 = 0) : fX5_refuse N v F = some (0, F) := if_pos h
theorem x_scan {N n p : Nat} {b : Nat → Nat} {F : FF} (hN : 1000 ≤ N) (h : XB F b n) (hp : p ≤ n) (h4 : F 33 4 = nI p) (h2 : F 33 2 = 0) : ∃ F1, fX5_scan N F = some ((), F1) ∧ FX F F1 ∧ F1 33 5 = nI (stt b n p) ∧ XK F1 (stt b n p) (tok b n (stt b n p)) := by
  have h160 := h.2.1
  have hs := skF_le (b := b) (n - p) p
  unfold fX5_scan
  rw [x_skip (n - p) p N F (by omega) (by omega) h h4]
  rw [show skF b (n - p) p = stt b n p from rfl] at hs ⊢
  generalize stt b n p = s at hs ⊢
  unfold fX5_scan_b38
  rw [nmE, show fput F 33 4 (nI s) 33 4 = nI s by rw [fpu, if_pos ⟨rfl, rfl⟩]]
  obtain ⟨F1, hF1⟩ : ∃ F1, fput (fput F 33 4 (nI s)) 33 5 (nI s) = F1 := ⟨_, rfl⟩
  rw [hF1]
  have f5 : F1 33 5 = nI s := by rw [← hF1, fpu, if_pos ⟨rfl, rfl⟩]
  have f4 : F1 33 4 = nI s := by rw [← hF1, fpu, if_neg (by omega), fpu, if_pos ⟨rfl, rfl⟩]
  have f2 : F1 33 2 = 0 := by rw [← hF1, fpu, if_neg (by omega), fpu, if_neg (by omega), h2]
  have fX : FX F F1 := by rw [← hF1]; exact (FX.rf.put (by omega)).put (by omega)
  have hB : XB F1 b n := by rw [← hF1]; exact (h.put (by omega)).put (by omega)
  unfold tok
  rw [f4, hB.1]
  by_cases c1 : n ≤ s
  · rw [if_neg (by simp (disch := omega) only [nI_ltI]; omega), if_pos c1, nmE]
    refine ⟨_, rfl, fX.put (by omega), by rw [fpu, if_neg (by omega)]; exact f5, xk_3 (by omega) (by omega) ⟨by rw [fpu, if_pos ⟨rfl, rfl⟩]; rfl, by rw [fpu, if_neg (by omega)]; exact f4, by rw [fpu, if_neg (by omega)]; exact f2⟩⟩
  · rw [if_pos (by simp (disch := omega) only [nI_ltI]; omega), if_neg c1]
    obtain ⟨hb, hb2⟩ := hB.2.2 s (by omega)
    rw [ld_ok a34 (by omega), hb]
    by_cases c2 : b s = 59
    · rw [if_neg (by rw [c2]; exact fun h => h rfl), if_pos c2, nmE, nmE, show nI s + 1 = nI (s + 1) from nI_1 s]
      refine ⟨_, rfl, (fX.put (by omega)).put (by omega), by rw [fpu, if_neg (by omega), fpu, if_neg (by omega)]; exact f5, xk_3 (by omega) (by omega) ⟨by rw [fpu, if_pos ⟨rfl, rfl⟩]; rfl, by rw [fpu, if_neg (by omega), fpu, if_pos ⟨rfl, rfl⟩], by rw [fpu, if_neg (by omega), fpu, if_neg (by omega)]; exact f2⟩⟩
    · rw [if_pos (by show ¬ nI (b s) = nI 59; simp (disch := omega) only [nI_eq]; exact c2), if_neg c2, ld_ok a34 (by omega), hb, x_isL hb2]
      cases c3 : isL (b s) with
      | true =>
        rw [if_neg (by decide), if_pos rfl, fX5_scanName, nmE, x_name_L (n - s) s N _ (by omega) (by omega) (hB.put (by omega)) (by rw [fpu, if_neg (by omega)]; exact f4), bnd_some]
        refine ⟨_, rfl, (fX.put (by omega)).put (by omega), by rw [fpu, if_neg (by omega), fpu, if_neg (by omega)]; exact f5, xk_3 (by omega) (by omega) ⟨by rw [fpu, if_neg (by omega), fpu, if_pos ⟨rfl, rfl⟩]; rfl, by rw [fpu, if_pos ⟨rfl, rfl⟩], by rw [fpu, if_neg (by omega), fpu, if_neg (by omega)]; exact f2⟩⟩
      | false =>
        rw [if_pos (by decide), if_neg (by decide), ld_ok a34 (by omega), hb, x_isD hb2]
        cases c4 : isD (b s) with
        | true =>
          obtain ⟨m, hm⟩ : ∃ m, n - s = m + 1 := ⟨n - s - 1, by omega⟩
          have hle := ndF_le (b := b) (n - s) s
          rw [if_neg (by decide), if_pos rfl, fX5_scanNumber, nmE, nmE, x_num_L (n - s) s N _ (by omega) (by omega) ((hB.put (by omega)).put (by omega)) (by rw [fpu, if_neg (by omega), fpu, if_neg (by omega)]; exact f4), fpu, if_pos ⟨rfl, rfl⟩, fX5_scanNumber_b73]
          obtain ⟨F2, hF2⟩ : ∃ F2, fput (fput (fput (fput F1 33 6 1) 33 7 0) 33 7 (acF b (n - s) s 0)) 33 4 (nI (ndF b (n - s) s)) = F2 := ⟨_, rfl⟩
          rw [hF2]
          have g4 : F2 33 4 = nI (ndF b (n - s) s) := by rw [← hF2, fpu, if_pos ⟨rfl, rfl⟩]
          have g7 : F2 33 7 = acF b (n - s) s 0 := by rw [← hF2, fpu, if_neg (by omega), fpu, if_pos ⟨rfl, rfl⟩]
          have g6 : F2 33 6 = 1 := by rw [← hF2, fpu, if_neg (by omega), fpu, if_neg (by omega), fpu, if_neg (by omega), fpu, if_pos ⟨rfl, rfl⟩]
          have gg : ∀ k, k ≠ 4 → k ≠ 6 → k ≠ 7 → F2 33 k = F1 33 k := fun k h1 h2 h3 => by rw [← hF2, fpu, if_neg (by omega), fpu, if_neg (by omega), fpu, if_neg (by omega), fpu, if_neg (by omega)]
          have gX : FX F F2 := by rw [← hF2]; exact (((fX.put (by omega)).put (by omega)).put (by omega)).put (by omega)
          rw [g4, gg 5 (by omega) (by omega) (by omega), f5, nI_sub hle.1]
          by_cases c5 : ndF b (n - s) s - s ≤ 2
          · rw [if_pos (by show nI _ ≤ nI 2; simp (disch := omega) only [nI_leI]; exact c5), if_pos c5, bnd_some]
            refine ⟨F2, rfl, gX, by rw [gg 5 (by omega) (by omega) (by omega)]; exact f5, xk_1 ⟨g6, g4, ?_, by rw [gg 2 (by omega) (by omega) (by omega)]; exact f2⟩⟩
            rw [g7, hm]
            exact ac_val c4 (by rw [← hm]; exact c5)
          · rw [if_neg (by show ¬ nI _ ≤ nI 2; simp (disch := omega) only [nI_leI]; exact c5), if_neg c5, nmE, x_ref0 (by rw [fpu, if_neg (by omega), gg 2 (by omega) (by omega) (by omega)]; exact f2), bnd_some, bnd_some]
            refine ⟨_, rfl, ((gX.put (by omega)).put (by omega)).put (by omega), ?_, xk_4 ⟨?_, ?_, ?_⟩⟩
            · rw [fpu, if_neg (by omega), fpu, if_neg (by omega), fpu, if_neg (by omega), gg 5 (by omega) (by omega) (by omega)]; exact f5
            · rw [fpu, if_neg (by omega), fpu, if_neg (by omega), fpu, if_pos ⟨rfl, rfl⟩]
            · rw [fpu, if_neg (by omega), fpu, if_pos ⟨rfl, rfl⟩]
            · rw [fpu, if_pos ⟨rfl, rfl⟩, fpu, if_neg (by omega), gg 5 (by omega) (by omega) (by omega)]; exact f5
        | false =>
          rw [if_pos (by decide), if_neg (by decide), nmE, x_ref0 (by rw [fpu, if_neg (by omega)]; exact f2), bnd_some]
          refine ⟨_, rfl, ((fX.put (by omega)).put (by omega)).put (by omega), ?_, xk_4 ⟨?_, ?_, ?_⟩⟩
          · rw [fpu, if_neg (by omega), fpu, if_neg (by omega), fpu, if_neg (by omega)]; exact f5
          · rw [fpu, if_neg (by omega), fpu, if_neg (by omega), fpu, if_pos ⟨rfl, rfl⟩]
          · rw [fpu, if_neg (by omega), fpu, if_pos ⟨rfl, rfl⟩]
          · rw [fpu, if_pos ⟨rfl, rfl⟩, fpu, if_neg (by omega)]; exact f5
