/-! THE REFERENCE'S PAGES -/
theorem y_in {a lo hi : Int64} {F : FF} : pX7_in a lo hi F = bI (decide (lo.toInt ≤ a.toInt ∧ a.toInt ≤ hi.toInt)) := by
  unfold pX7_in bI
  simp only [lg_cmp_lt, lg_cmp_gt, Int64.lt_iff_toInt_lt, decide_eq_true_eq]
  by_cases h1 : a.toInt < lo.toInt
  · rw [if_pos h1, if_neg (by omega)]
  · rw [if_neg h1]
    by_cases h2 : hi.toInt < a.toInt
    · rw [if_pos h2, if_neg (by omega)]
    · rw [if_neg h2, if_pos (by omega)]
theorem x_in {a lo hi : Int32} {F : FF} : pX6_within a lo hi F = bI (decide (lo.toInt ≤ a.toInt ∧ a.toInt ≤ hi.toInt)) := by
  unfold pX6_within bI
  simp only [Int32.lt_iff_toInt_lt, decide_eq_true_eq]
  by_cases h1 : a.toInt < lo.toInt
  · rw [if_pos h1, if_neg (by omega)]
  · rw [if_neg h1]
    by_cases h2 : hi.toInt < a.toInt
    · rw [if_pos h2, if_neg (by omega)]
    · rw [if_neg h2, if_pos (by omega)]
theorem bI_t {c : Prop} {hc : Decidable c} (h : c) : bI (decide c) = 1 := by unfold bI; rw [if_pos (by simpa using h)]
theorem bI_f {c : Prop} {hc : Decidable c} (h : ¬ c) : bI (decide c) = 0 := by unfold bI; rw [if_neg (by simpa using h)]
theorem bI_01 (b : Bool) : bI b = 0 ∨ bI b = 1 := by cases b; exact Or.inl rfl; exact Or.inr rfl
theorem zr_bI {b : Bool} {F : FF} : zr (bI b) F = some (bI b, F) := if_pos (bI_01 b)
theorem i64 {x : Int32} : x.toInt64.toInt = x.toInt := Int32.toInt_toInt64 x
theorem nIm1 {n : Nat} (h : n < 2 ^ 31) : (nI n - 1).toInt = (n : Int) - 1 := by
  by_cases e : n = 0
  · subst e; decide
  · rw [show nI n - 1 = nI (n - 1) from nI_sub (b := 1) (by omega), nI_toInt (by omega)]
    omega
theorem of_range {x : Int32} {n : Nat} (h0 : 0 ≤ x.toInt) (h1 : x.toInt < n) : ∃ j, j < n ∧ x = nI j := by
  have hx := Int32.toInt_lt x
  refine ⟨x.toInt.toNat, by omega, Int32.toInt_inj.mp ?_⟩
  rw [nI_toInt (by omega)]
  omega
/-- a want of a page: what stands there, unless it is the one that is left out -/
def wQ (pg : Nat) (F : FF) (i : Nat) : Option Nat → Prop
  | some b => F 83 (pg + 9 + i) = nI b ∧ ¬ F 82 20 = nI i
  | none => F 82 20 = nI i
theorem wQ.same {pg i : Nat} {F F' : FF} {o : Option Nat} (h : wQ pg F i o) (h1 : F' 83 (pg + 9 + i) = F 83 (pg + 9 + i)) (h2 : F' 82 20 = F 82 20) : wQ pg F' i o := by
  cases o with
  | none => exact h2.trans h
  | some b => exact ⟨h1.trans h.1, by rw [h2]; exact h.2⟩
def PR (pg : Nat) (F : FF) (H : Hs) : Prop := (F 82 1 = nI H.1.1 ∧ F 83 (pg + 8) = nI H.1.2.1 ∧ F 83 (pg + 25) = nI H.1.2.2.1 ∧ F 83 (pg + 26) = nI H.1.2.2.2) ∧ (∀ i, i < H.1.2.2.1 → wQ pg F i (H.2.2 i)) ∧ ∀ s, s < H.1.2.1 → QR pg s F (H.2.1 s)
def FrA (pg : Nat) (F F' : FF) : Prop := (∀ c, c ≠ 83 → c ≠ 82 → c ≠ 88 → F' c = F c) ∧ (∀ k, k ≠ 18 → k ≠ 19 → F' 82 k = F 82 k) ∧ ∀ k, (k < pg ∨ pg + 75 ≤ k) → F' 83 k = F 83 k
theorem FrA.rf {pg : Nat} {F : FF} : FrA pg F F := ⟨fun _ _ _ _ => rfl, fun _ _ _ => rfl, fun _ _ => rfl⟩
theorem FrA.tr {pg : Nat} {F F1 F2 : FF} (a : FrA pg F F1) (b : FrA pg F1 F2) : FrA pg F F2 := ⟨fun c h1 h2 h3 => (b.1 c h1 h2 h3).trans (a.1 c h1 h2 h3), fun k h1 h2 => (b.2.1 k h1 h2).trans (a.2.1 k h1 h2), fun k hk => (b.2.2 k hk).trans (a.2.2 k hk)⟩
theorem y_isShelf {N : Nat} {x : Int32} {F : FF} {n : Nat} (h : F 83 8 = nI n) (hn : n ≤ 4) : fX7_isShelf N x F = some (bI (decide (0 ≤ x.toInt ∧ x.toInt < (n : Int))), F) := by
  unfold fX7_isShelf
  rw [y_in, i64, i64, h, nIm1 (by omega), zr_bI]
  congr 3
  show decide ((0 : Int) ≤ x.toInt ∧ _) = _
  congr 1
  simp only [eq_iff_iff]
  omega
theorem y_isBook {N : Nat} {x : Int32} {F : FF} {n : Nat} (h : F 82 1 = nI n) (hn : n ≤ 6) : fX7_isBook N x F = some (bI (decide (0 ≤ x.toInt ∧ x.toInt < (n : Int))), F) := by
  unfold fX7_isBook
  rw [y_in, i64, i64, h, nIm1 (by omega), zr_bI]
  congr 3
  show decide ((0 : Int) ≤ x.toInt ∧ _) = _
  congr 1
  simp only [eq_iff_iff]
  omega
theorem y_isWant {N : Nat} {x : Int32} {F : FF} {n : Nat} (h : F 83 25 = nI n) (hn : n ≤ 16) : fX7_isWant N x F = some (bI (decide (0 ≤ x.toInt ∧ x.toInt < (n : Int))), F) := by
  unfold fX7_isWant
  rw [y_in, i64, i64, h, nIm1 (by omega), zr_bI]
  congr 3
  show decide ((0 : Int) ≤ x.toInt ∧ _) = _
  congr 1
  simp only [eq_iff_iff]
  omega
theorem x_hasShelf {h n : Nat} {x : Int32} {F : FF} (e : F h 1 = nI n) (hn : n < 2 ^ 31) : pX0_hasShelf h x F = bI (decide (0 ≤ x.toInt ∧ x.toInt < (n : Int))) := by
  unfold pX0_hasShelf bI
  simp only [Int32.lt_iff_toInt_lt, Int32.le_iff_toInt_le, decide_eq_true_eq, e, nI_toInt hn, show (0 : Int32).toInt = 0 from rfl]
  by_cases h1 : x.toInt < 0
  · rw [if_pos h1, if_neg (by omega)]
  · rw [if_neg h1]
    by_cases h2 : (n : Int) ≤ x.toInt
    · rw [if_pos h2, if_neg (by omega)]
    · rw [if_neg h2, if_pos (by omega)]
theorem x_hasBook {h n : Nat} {x : Int32} {F : FF} (e : F h 0 = nI n) (hn : n < 2 ^ 31) : pX0_hasBook h x F = bI (decide (0 ≤ x.toInt ∧ x.toInt < (n : Int))) := by
  unfold pX0_hasBook bI
  simp only [Int32.lt_iff_toInt_lt, Int32.le_iff_toInt_le, decide_eq_true_eq, e, nI_toInt hn, show (0 : Int32).toInt = 0 from rfl]
  by_cases h1 : x.toInt < 0
  · rw [if_pos h1, if_neg (by omega)]
  · rw [if_neg h1]
    by_cases h2 : (n : Int) ≤ x.toInt
    · rw [if_pos h2, if_neg (by omega)]
    · rw [if_neg h2, if_pos (by omega)]
theorem x_hasWant {h n : Nat} {x : Int32} {F : FF} (e : F h 2 = nI n) (hn : n < 2 ^ 31) : pX0_hasWant h x F = bI (decide (0 ≤ x.toInt ∧ x.toInt < (n : Int))) := by
  unfold pX0_hasWant bI
  simp only [Int32.lt_iff_toInt_lt, Int32.le_iff_toInt_le, decide_eq_true_eq, e, nI_toInt hn, show (0 : Int32).toInt = 0 from rfl]
  by_cases h1 : x.toInt < 0
  · rw [if_pos h1, if_neg (by omega)]
  · rw [if_neg h1]
    by_cases h2 : (n : Int) ≤ x.toInt
    · rw [if_pos h2, if_neg (by omega)]
    · rw [if_neg h2, if_pos (by omega)]
/-- the place of a book on a page -/
theorem y_place_L {N pg s b nb : Nat} {F : FF} {x : Sh} (hp : pg ≤ 375) (hs : s < 4) (h1 : F 82 1 = nI nb) (hr : ∀ p, p < 6 → F 83 (pg + 27 + 6 * s + p) = nI (x.2.1 p)) (hW : WS nb x) (hn : nb ≤ 6) (hb : b < nb) : ∀ m i n, i + m = nb → m < n → fX7_placeOn_L6 N (nI pg) (nI s) (nI b) n (nI (if plc x.2.1 b < i then plc x.2.1 b else 0)) (nI i) F = some (nI (plc x.2.1 b), F) := by
  have hpl := hW.plt hn hb
  intro m
  induction m with
  | zero =>
    intro i n hi hlt
    obtain ⟨n, rfl⟩ : ∃ k, n = k + 1 := ⟨n - 1, by omega⟩
    rw [fX7_placeOn_L6.eq_2, h1]
    simp (disch := omega) only [nI_leI]
    rw [if_pos (by omega), if_pos (by omega)]
  | succ m ih =>
    intro i n hi hlt
    obtain ⟨n, rfl⟩ : ∃ k, n = k + 1 := ⟨n - 1, by omega⟩
    have hri := hW.2.1 i (by omega)
    rw [fX7_placeOn_L6.eq_2, h1]
    simp (disch := omega) only [il, nI_leI, nI_add, nI_mul]
    rw [if_neg (by omega), ld_ok a83 (by omega), hr i (by omega)]
    simp (disch := omega) only [nI_eq]
    have e : (if ¬ x.2.1 i = b then nI (if plc x.2.1 b < i then plc x.2.1 b else 0) else nI i) = nI (if plc x.2.1 b < i + 1 then plc x.2.1 b else 0) := by
      by_cases c : x.2.1 i = b
      · have : plc x.2.1 b = i := by rw [← c]; exact hW.pl (by omega)
        rw [if_neg (by omega), if_pos (by omega), this]
      · have : plc x.2.1 b ≠ i := by
          intro h
          apply c
          rw [← h]
          exact hW.at (by omega)
        rw [if_pos c]
        by_cases c2 : plc x.2.1 b < i
        · rw [if_pos c2, if_pos (by omega)]
        · rw [if_neg c2, if_neg (by omega)]
    rw [e]
    exact ih (i + 1) n (by omega) (by omega)
theorem y_place {N pg s b nb : Nat} {F : FF} {x : Sh} (hN : 1000 ≤ N) (hp : pg ≤ 375) (hs : s < 4) (h1 : F 82 1 = nI nb) (hr : ∀ p, p < 6 → F 83 (pg + 27 + 6 * s + p) = nI (x.2.1 p)) (hW : WS nb x) (hn : nb ≤ 6) (hb : b < nb) : fX7_placeOn N (nI pg) (nI s) (nI b) F = some (nI (plc x.2.1 b), F) := by
  have := y_place_L (N := N) hp hs h1 hr hW hn hb nb 0 N (by omega) (by omega)
  rw [if_neg (by omega)] at this
  exact this
/-- rows of a page -/
theorem y_stands_L63 {N A t b : Nat} (hA : A + 6 ≤ 450) (ht : t < 6) : ∀ (m i n : Nat) (F : FF) (r : Nat → Nat), i + m = t → m < n → (∀ p, p < 6 → F 83 (A + p) = nI (r p)) → ∃ F', fX7_standsOn_L63 N (nI t) (nI A) (nI b) n (nI i) F = some ((), F') ∧ (∀ p, p < 6 → F' 83 (A + p) = nI (if p = t then b else if i ≤ p ∧ p < t then r (p + 1) else r p)) ∧ (∀ c, c ≠ 83 → F' c = F c) ∧ ∀ k, (k < A ∨ A + 6 ≤ k) → F' 83 k = F 83 k := by
  intro m
  induction m with
  | zero =>
    intro i n F r hi hn hr
    obtain ⟨n, rfl⟩ : ∃ k, n = k + 1 := ⟨n - 1, by omega⟩
    have : i = t := by omega
    subst this
    rw [fX7_standsOn_L63.eq_2]
    simp (disch := omega) only [nI_leI, nI_add]
    rw [if_pos (by omega), st_ok a83 (by omega)]
    refine ⟨_, rfl, fun p hp => ?_, fun c hc => fput_a hc, fun k hk => by rw [fpu, if_neg (by omega)]⟩
    rw [fpu]
    by_cases e : p = i
    · simp [e]
    · rw [if_neg (by omega), if_neg e, if_neg (by omega)]
      exact hr p hp
  | succ m ih =>
    intro i n F r hi hn hr
    obtain ⟨n, rfl⟩ : ∃ k, n = k + 1 := ⟨n - 1, by omega⟩
    rw [fX7_standsOn_L63.eq_2]
    simp (disch := omega) only [il, nI_leI, nI_add]
    rw [if_neg (by omega), show A + i + 1 = A + (i + 1) by omega, ld_ok a83 (by omega), st_ok a83 (by omega), hr (i + 1) (by omega)]
    obtain ⟨F', e1, e2, e3, e4⟩ := ih (i + 1) n (fput F 83 (A + i) (nI (r (i + 1)))) (fun p => if p = i then r (i + 1) else r p) (by omega) (by omega) (fun p hp => by
      rw [fpu]
      by_cases e : p = i
      · simp [e]
      · rw [if_neg (by omega), if_neg e]
        exact hr p hp)
    refine ⟨F', e1, fun p hp => ?_, fun c hc => (e3 c hc).trans (fput_a hc), fun k hk => by rw [e4 k hk, fpu, if_neg (by omega)]⟩
    rw [e2 p hp]
    congr 1
    by_cases c1 : p = t
    · simp [c1]
    · rw [if_neg c1, if_neg c1]
      by_cases c2 : p = i
      · subst c2
        rw [if_neg (by omega), if_pos rfl, if_pos (by omega)]
      · by_cases c3 : i ≤ p ∧ p < t
        · rw [if_pos (by omega), if_pos c3, if_neg (by omega)]
        · rw [if_neg (by omega), if_neg c3, if_neg c2]
theorem y_stands_L25 {N A f t b : Nat} (hN : 1000 ≤ N) (hA : A + 6 ≤ 450) (hf : f < 6) (ht : t < 6) : ∀ (m i n : Nat) (F : FF) (r : Nat → Nat), i - t = m → t ≤ i → i < 6 → m < n → (∀ p, p < 6 → F 83 (A + p) = nI (r p)) → t ≤ f → i ≤ f → ∃ F', fX7_standsOn_L25 N (nI f) (nI t) (nI A) (nI b) n (nI i) F = some ((), F') ∧ (∀ p, p < 6 → F' 83 (A + p) = nI (if p = t then b else if t < p ∧ p ≤ i then r (p - 1) else r p)) ∧ (∀ c, c ≠ 83 → F' c = F c) ∧ ∀ k, (k < A ∨ A + 6 ≤ k) → F' 83 k = F 83 k := by
  intro m
  induction m with
  | zero =>
    intro i n F r hi hti hi6 hn hr htf hif
    obtain ⟨n, rfl⟩ : ∃ k, n = k + 1 := ⟨n - 1, by omega⟩
    have : i = t := by omega
    subst this
    rw [fX7_standsOn_L25.eq_2]
    simp (disch := omega) only [nI_leI]
    rw [if_pos (by omega)]
    obtain ⟨n, rfl⟩ : ∃ k, N = k + 1 := ⟨N - 1, by omega⟩
    rw [fX7_standsOn_L63.eq_2]
    simp (disch := omega) only [nI_leI, nI_add]
    rw [if_pos (by omega), st_ok a83 (by omega)]
    refine ⟨_, rfl, fun p hp => ?_, fun c hc => fput_a hc, fun k hk => by rw [fpu, if_neg (by omega)]⟩
    rw [fpu]
    by_cases e : p = i
    · simp [e]
    · rw [if_neg (by omega), if_neg e, if_neg (by omega)]
      exact hr p hp
  | succ m ih =>
    intro i n F r hi hti hi6 hn hr htf hif
    obtain ⟨n, rfl⟩ : ∃ k, n = k + 1 := ⟨n - 1, by omega⟩
    rw [fX7_standsOn_L25.eq_2]
    simp (disch := omega) only [nI_leI, nI_add]
    rw [if_neg (by omega)]
    have e0 : nI (A + i) - 1 = nI (A + (i - 1)) := by
      rw [show nI (A + i) - 1 = nI (A + i - 1) from nI_sub (b := 1) (by omega)]
      congr 1
      omega
    rw [e0, ld_ok a83 (by omega), st_ok a83 (by omega), hr (i - 1) (by omega), nI_dec (by omega)]
    obtain ⟨F', e1, e2, e3, e4⟩ := ih (i - 1) n (fput F 83 (A + i) (nI (r (i - 1)))) (fun p => if p = i then r (i - 1) else r p) (by omega) (by omega) (by omega) (by omega) (fun p hp => by
      rw [fpu]
      by_cases e : p = i
      · simp [e]
      · rw [if_neg (by omega), if_neg e]
        exact hr p hp) htf (by omega)
    refine ⟨F', e1, fun p hp => ?_, fun c hc => (e3 c hc).trans (fput_a hc), fun k hk => by rw [e4 k hk, fpu, if_neg (by omega)]⟩
    rw [e2 p hp]
    congr 1
    by_cases c1 : p = t
    · simp [c1]
    · rw [if_neg c1, if_neg c1]
      by_cases c2 : p = i
      · subst c2
        rw [if_neg (by omega), if_pos rfl, if_pos (by omega)]
      · by_cases c3 : t < p ∧ p ≤ i
        · rw [if_pos (by omega), if_pos c3, if_neg (by omega)]
        · rw [if_neg (by omega), if_neg c3, if_neg c2]
theorem y_stands {N pg s f t : Nat} {F : FF} {r : Nat → Nat} (hN : 1000 ≤ N) (hp : pg ≤ 375) (hs : s < 4) (hf : f < 6) (ht : t < 6) (hr : ∀ p, p < 6 → F 83 (pg + 27 + 6 * s + p) = nI (r p)) : ∃ F', fX7_standsOn N (nI pg) (nI s) (nI f) (nI t) F = some ((), F') ∧ (∀ p, p < 6 → F' 83 (pg + 27 + 6 * s + p) = nI (mv r f t p)) ∧ (∀ c, c ≠ 83 → F' c = F c) ∧ ∀ k, (k < pg + 27 + 6 * s ∨ pg + 27 + 6 * s + 6 ≤ k) → F' 83 k = F 83 k := by
  unfold fX7_standsOn
  simp only [il, nI_add, nI_mul]
  rw [ld_ok a83 (by omega), hr f hf]
  by_cases h : t ≤ f
  · obtain ⟨F', e1, e2, e3, e4⟩ := y_stands_L25 (b := r f) hN (show pg + 27 + 6 * s + 6 ≤ 450 by omega) hf ht (f - t) f N F r rfl h hf (by omega) hr h (Nat.le_refl _)
    refine ⟨F', e1, fun p hp => ?_, e3, e4⟩
    rw [e2 p hp]
    unfold mv
    congr 1
    by_cases c1 : p = t
    · simp [c1]
    · rw [if_neg c1, if_neg c1]
      by_cases c2 : t < p ∧ p ≤ f
      · rw [if_pos c2, if_pos c2]
      · rw [if_neg c2, if_neg c2, if_neg (by omega)]
  · obtain ⟨k, rfl⟩ : ∃ k, N = k + 1 := ⟨N - 1, by omega⟩
    rw [fX7_standsOn_L25.eq_2]
    simp (disch := omega) only [nI_leI]
    rw [if_pos (by omega)]
    obtain ⟨F', e1, e2, e3, e4⟩ := y_stands_L63 (N := k + 1) (b := r f) (show pg + 27 + 6 * s + 6 ≤ 450 by omega) ht (t - f) f (k + 1) F r (by omega) (by omega) hr
    refine ⟨F', e1, fun p hp => ?_, e3, e4⟩
    rw [e2 p hp]
    unfold mv
    by_cases c1 : p = t
    · simp [c1]
    · rw [if_neg c1, if_neg c1, if_neg (show ¬ (t < p ∧ p ≤ f) by omega)]
theorem y_goal_L {N pg s b f : Nat} {F : FF} {r q : Nat → Nat} (hp : pg ≤ 375) (hs : s < 4) (hr : ∀ p, p < 6 → F 83 (pg + 27 + 6 * s + p) = nI (r p)) (hq : ∀ p, p < 6 → F 83 (pg + 51 + 6 * s + p) = nI (q p)) (hW : ∀ p, p < 6 → r p < 6) (hQ : ∀ p, p < 6 → q p ≤ 99) (hb : r f = b) (hb6 : b < 6) (hf : f < 6) : ∀ m i n, i + m = f → m < n → fX7_goalOn_L66 N (nI f) (nI (pg + 51 + 6 * s)) (nI (pg + 27 + 6 * s)) n (nI i) F = some (nI (flF q r b m i), F) := by
  intro m
  induction m with
  | zero =>
    intro i n hi hn
    obtain ⟨n, rfl⟩ : ∃ k, n = k + 1 := ⟨n - 1, by omega⟩
    have : i = f := by omega
    subst this
    rw [fX7_goalOn_L66.eq_2]
    simp (disch := omega) only [nI_leI]
    rw [if_pos (by omega)]
    rfl
  | succ m ih =>
    intro i n hi hn
    obtain ⟨n, rfl⟩ : ∃ k, n = k + 1 := ⟨n - 1, by omega⟩
    have h1 := hW i (by omega)
    have h2 := hQ (r i) h1
    have h3 := hQ b hb6
    rw [fX7_goalOn_L66.eq_2]
    simp (disch := omega) only [il, nI_leI, nI_add]
    rw [if_neg (by omega), ld_ok a83 (by omega), hr i (by omega)]
    simp only [nI_add]
    rw [ld_ok a83 (by omega), ld_ok a83 (by omega), hr f hf, hb]
    simp only [nI_add]
    rw [ld_ok a83 (by omega), hq _ h1, hq _ hb6]
    simp (disch := omega) only [nI_leI]
    rw [flF]
    by_cases e : q (r i) < q b
    · rw [if_neg (by omega), if_pos e]
    · rw [if_pos (by omega), if_neg e]
      exact ih (i + 1) n (by omega) (by omega)
theorem y_goal {N pg s b f k : Nat} {F : FF} {r q : Nat → Nat} (hN : 1000 ≤ N) (hp : pg ≤ 375) (hs : s < 4) (hk : F 83 (pg + s) = nI k) (hk3 : k ≤ 3) (hr : ∀ p, p < 6 → F 83 (pg + 27 + 6 * s + p) = nI (r p)) (hq : ∀ p, p < 6 → F 83 (pg + 51 + 6 * s + p) = nI (q p)) (hW : ∀ p, p < 6 → r p < 6) (hQ : ∀ p, p < 6 → q p ≤ 99) (hb : r f = b) (hb6 : b < 6) (hf : f < 6) : fX7_goalOn N (nI pg) (nI s) (nI f) F = some (nI (gol k q r b f), F) := by
  unfold fX7_goalOn
  simp only [nI_add]
  rw [ld_ok a83 (by omega), hk]
  unfold gol
  rcases (show k = 0 ∨ k = 1 ∨ k = 2 ∨ k = 3 by omega) with rfl | rfl | rfl | rfl
  · rw [if_pos (by decide)]
    rfl
  · rw [if_neg (by decide)]
    by_cases h0 : f = 0
    · subst h0; rfl
    · rw [if_pos (by simp (disch := omega) only [il, nI_eq]; exact h0), if_neg (by decide), if_neg (by decide), if_pos rfl]
      congr 2
      exact nI_sub (b := 1) (by omega)
  · rw [if_neg (by decide)]
    by_cases h0 : f = 0
    · subst h0; rfl
    · rw [if_pos (by simp (disch := omega) only [il, nI_eq]; exact h0), if_neg (by decide), if_pos (by decide)]
      rfl
  · rw [if_neg (by decide)]
    by_cases h0 : f = 0
    · subst h0; rfl
    · rw [if_pos (by simp (disch := omega) only [il, nI_eq]; exact h0), if_pos (by decide)]
      simp only [il, nI_add, nI_mul]
      exact y_goal_L hp hs hr hq hW hQ hb hb6 hf f 0 N (by omega) (by omega)
