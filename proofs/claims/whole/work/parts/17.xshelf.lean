/-! THE CLASS'S SHELF -/
theorem x_find_L {N a b : Nat} {F : FF} {x : Sh} (hS : isS a) (hR : SR a F x) (hW : ∀ p, p < 6 → x.2.1 p < 6) (hb : b < 2 ^ 31) : ∀ m i n, i + m = 5 → m < n → fX4_find_L2 N a (nI b) n (nI i) F = some (nI (plF x.2.1 b m i), F) := by
  intro m
  induction m with
  | zero =>
    intro i n hi hn
    obtain ⟨n, rfl⟩ : ∃ k, n = k + 1 := ⟨n - 1, by omega⟩
    have : i = 5 := by omega
    subst this
    rw [fX4_find_L2.eq_2, if_pos (by decide)]
    rfl
  | succ m ih =>
    intro i n hi hn
    obtain ⟨n, rfl⟩ : ∃ k, n = k + 1 := ⟨n - 1, by omega⟩
    have h1 := hW i (by omega)
    rw [fX4_find_L2.eq_2]
    simp (disch := omega) only [il, nI_leI]
    rw [if_neg (by omega), gR_S2 hS, ld_ok (aS1 hS) (by omega), hR.2.2.1 i (by omega)]
    simp (disch := omega) only [nI_eq, nI_add]
    rw [plF]
    by_cases e : x.2.1 i = b
    · rw [if_pos e, if_pos e]
    · rw [if_neg e, if_neg e]
      exact ih (i + 1) n (by omega) (by omega)
theorem x_find {N a b : Nat} {F : FF} {x : Sh} (hN : 1000 ≤ N) (hS : isS a) (hR : SR a F x) (hW : ∀ p, p < 6 → x.2.1 p < 6) (hb : b < 2 ^ 31) : fX4_find N a (nI b) F = some (nI (plc x.2.1 b), F) :=
  x_find_L hS hR hW hb 5 0 N rfl (by omega)
/-- rows by places -/
def RV (c o : Nat) (F : FF) (r : Nat → Nat) : Prop := ∀ p, p < 6 → F c (o + p) = nI (r p)
theorem x_shift_L41 {N a t b : Nat} (hS : isS a) (ht : t < 6) : ∀ (m i n : Nat) (F : FF) (r : Nat → Nat), i + m = t → m < n → (∀ p, p < 6 → F (a + 1) p = nI (r p)) → ∃ F', fX4_shift_L41 N a (nI t) (nI b) n (nI i) F = some ((), F') ∧ (∀ p, p < 6 → F' (a + 1) p = nI (if p = t then b else if i ≤ p ∧ p < t then r (p + 1) else r p)) ∧ ∀ c, c ≠ a + 1 → F' c = F c := by
  intro m
  induction m with
  | zero =>
    intro i n F r hi hn hr
    obtain ⟨n, rfl⟩ : ∃ k, n = k + 1 := ⟨n - 1, by omega⟩
    have : i = t := by omega
    subst this
    rw [fX4_shift_L41.eq_2]
    simp (disch := omega) only [nI_leI]
    rw [if_pos (by omega), gR_S2 hS, st_ok (aS1 hS) (by omega)]
    refine ⟨_, rfl, fun p hp => ?_, fun c hc => fput_a hc⟩
    rw [fpu]
    by_cases e : p = i
    · simp [e]
    · rw [if_neg (by omega), if_neg e, if_neg (by omega)]
      exact hr p hp
  | succ m ih =>
    intro i n F r hi hn hr
    obtain ⟨n, rfl⟩ : ∃ k, n = k + 1 := ⟨n - 1, by omega⟩
    rw [fX4_shift_L41.eq_2]
    simp (disch := omega) only [il, nI_leI, nI_add]
    rw [if_neg (by omega), gR_S2 hS, gR_S2 hS, ld_ok (aS1 hS) (by omega), st_ok (aS1 hS) (by omega), hr (i + 1) (by omega)]
    obtain ⟨F', e1, e2, e3⟩ := ih (i + 1) n (fput F (a + 1) i (nI (r (i + 1)))) (fun p => if p = i then r (i + 1) else r p) (by omega) (by omega) (fun p hp => by
      rw [fpu]
      by_cases e : p = i
      · simp [e]
      · rw [if_neg (by omega), if_neg e]
        exact hr p hp)
    refine ⟨F', e1, fun p hp => ?_, fun c hc => (e3 c hc).trans (fput_a hc)⟩
    rw [e2 p hp]
    congr 1
    by_cases c1 : p = t
    · simp [c1]
    · rw [if_neg c1, if_neg c1]
      by_cases c2 : p = i
      · subst c2
        rw [if_neg (by omega), if_pos rfl, if_pos (by omega)]
      · by_cases c3 : i ≤ p ∧ p < t
        · rw [if_pos (by omega), if_pos c3, if_neg (by omega)]
        · rw [if_neg (by omega), if_neg c3, if_neg c2]
theorem x_shift_L10 {N a f t b : Nat} (hN : 1000 ≤ N) (hS : isS a) (hf : f < 6) (ht : t < 6) : ∀ (m i n : Nat) (F : FF) (r : Nat → Nat), i - t = m → t ≤ i → i < 6 → m < n → (∀ p, p < 6 → F (a + 1) p = nI (r p)) → (t < f ∨ i = f) → (t ≤ f → i ≤ f) → ∃ F', fX4_shift_L10 N a (nI f) (nI t) (nI b) n (nI i) F = some ((), F') ∧ (∀ p, p < 6 → F' (a + 1) p = nI (if p = t then b else if t < p ∧ p ≤ i then r (p - 1) else if f ≤ p ∧ p < t then r (p + 1) else r p)) ∧ ∀ c, c ≠ a + 1 → F' c = F c := by
  intro m
  induction m with
  | zero =>
    intro i n F r hi hti hi6 hn hr _ _
    obtain ⟨n, rfl⟩ : ∃ k, n = k + 1 := ⟨n - 1, by omega⟩
    have : i = t := by omega
    subst this
    rw [fX4_shift_L10.eq_2]
    simp (disch := omega) only [nI_leI]
    rw [if_pos (by omega)]
    by_cases hft : i ≤ f
    · obtain ⟨n, rfl⟩ : ∃ k, N = k + 1 := ⟨N - 1, by omega⟩
      rw [fX4_shift_L41.eq_2]
      simp (disch := omega) only [nI_leI]
      rw [if_pos (by omega), gR_S2 hS, st_ok (aS1 hS) (by omega)]
      refine ⟨_, rfl, fun p hp => ?_, fun c hc => fput_a hc⟩
      rw [fpu]
      by_cases e : p = i
      · simp [e]
      · rw [if_neg (by omega), if_neg e, if_neg (by omega), if_neg (by omega)]
        exact hr p hp
    · obtain ⟨F', e1, e2, e3⟩ := x_shift_L41 (N := N) (b := b) hS ht (i - f) f N F r (by omega) (by omega) hr
      refine ⟨F', e1, fun p hp => ?_, e3⟩
      rw [e2 p hp]
      by_cases c1 : p = i
      · simp [c1]
      · rw [if_neg c1, if_neg c1, if_neg (show ¬ (i < p ∧ p ≤ i) by omega)]
  | succ m ih =>
    intro i n F r hi hti hi6 hn hr hd hle
    obtain ⟨n, rfl⟩ : ∃ k, n = k + 1 := ⟨n - 1, by omega⟩
    rw [fX4_shift_L10.eq_2]
    simp (disch := omega) only [nI_leI]
    rw [if_neg (by omega), gR_S2 hS, gR_S2 hS]
    have e0 : nI i - 1 = nI (i - 1) := nI_sub (b := 1) (by omega)
    rw [e0, ld_ok (aS1 hS) (by omega), st_ok (aS1 hS) (by omega), hr (i - 1) (by omega), nI_dec (by omega)]
    obtain ⟨F', e1, e2, e3⟩ := ih (i - 1) n (fput F (a + 1) i (nI (r (i - 1)))) (fun p => if p = i then r (i - 1) else r p) (by omega) (by omega) (by omega) (by omega) (fun p hp => by
      rw [fpu]
      by_cases e : p = i
      · simp [e]
      · rw [if_neg (by omega), if_neg e]
        exact hr p hp) (by omega) (by omega)
    refine ⟨F', e1, fun p hp => ?_, fun c hc => (e3 c hc).trans (fput_a hc)⟩
    rw [e2 p hp]
    congr 1
    by_cases c1 : p = t
    · simp [c1]
    · rw [if_neg c1, if_neg c1]
      by_cases c2 : p = i
      · subst c2
        rw [if_neg (by omega), if_neg (by omega), if_pos rfl, if_pos (by omega)]
      · by_cases c3 : t < p ∧ p ≤ i
        · rw [if_pos (by omega), if_pos c3, if_neg (by omega)]
        · rw [if_neg (by omega), if_neg c3]
          by_cases c4 : f ≤ p ∧ p < t
          · omega
          · rw [if_neg c4, if_neg c4, if_neg c2]
theorem x_shift {N a f t : Nat} {F : FF} {r : Nat → Nat} (hN : 1000 ≤ N) (hS : isS a) (hf : f < 6) (ht : t < 6) (hr : ∀ p, p < 6 → F (a + 1) p = nI (r p)) : ∃ F', fX4_shift N a (nI f) (nI t) F = some ((), F') ∧ (∀ p, p < 6 → F' (a + 1) p = nI (mv r f t p)) ∧ ∀ c, c ≠ a + 1 → F' c = F c := by
  unfold fX4_shift
  rw [gR_S2 hS, ld_ok (aS1 hS) (by omega), hr f hf]
  by_cases h : t ≤ f
  · obtain ⟨F', e1, e2, e3⟩ := x_shift_L10 (b := r f) hN hS hf ht (f - t) f N F r rfl h hf (by omega) hr (Or.inr rfl) (fun _ => Nat.le_refl _)
    exact ⟨F', e1, e2, e3⟩
  · obtain ⟨k, rfl⟩ : ∃ k, N = k + 1 := ⟨N - 1, by omega⟩
    rw [fX4_shift_L10.eq_2]
    simp (disch := omega) only [nI_leI]
    rw [if_pos (by omega)]
    obtain ⟨F', e1, e2, e3⟩ := x_shift_L41 (N := k + 1) (b := r f) hS ht (t - f) f (k + 1) F r (by omega) (by omega) hr
    refine ⟨F', e1, fun p hp => ?_, e3⟩
    rw [e2 p hp]
    unfold mv
    by_cases c1 : p = t
    · simp [c1]
    · rw [if_neg c1, if_neg c1, if_neg (show ¬ (t < p ∧ p ≤ f) by omega)]
theorem x_goal_L {N a b f : Nat} {F : FF} {k : Nat} {r q : Nat → Nat} (hS : isS a) (hk : F a 0 = nI k) (hk3 : k = 3) (hr : ∀ p, p < 6 → F (a + 1) p = nI (r p)) (hq : ∀ p, p < 6 → F (a + 2) p = nI (q p)) (hW : ∀ p, p < 6 → r p < 6) (hQ : ∀ p, p < 6 → q p ≤ 99) (hb : b < 6) (hf : f < 6) : ∀ m i n, i + m = f → m < n → fX4_goalOf_L33 N a (nI b) (nI f) n (nI i) F = some (nI (flF q r b m i), F) := by
  subst hk3
  intro m
  induction m with
  | zero =>
    intro i n hi hn
    obtain ⟨n, rfl⟩ : ∃ k, n = k + 1 := ⟨n - 1, by omega⟩
    have : i = f := by omega
    subst this
    rw [fX4_goalOf_L33.eq_2, gI_S0 hS, hk, if_neg (by decide)]
    simp (disch := omega) only [nI_leI]
    rw [if_pos (by omega)]
    rfl
  | succ m ih =>
    intro i n hi hn
    obtain ⟨n, rfl⟩ : ∃ k, n = k + 1 := ⟨n - 1, by omega⟩
    have h1 := hW i (by omega)
    have h2 := hQ (r i) h1
    have h3 := hQ b hb
    rw [fX4_goalOf_L33.eq_2, gI_S0 hS, hk, if_neg (by decide)]
    simp (disch := omega) only [il, nI_leI, nI_add]
    rw [if_neg (by omega), gR_S3 hS, gR_S2 hS, ld_ok (aS1 hS) (by omega), hr i (by omega), ld_ok (aS2 hS) h1, gR_S3 hS, ld_ok (aS2 hS) hb, hq _ h1, hq _ hb]
    simp (disch := omega) only [nI_ltI]
    rw [flF]
    by_cases e : q (r i) < q b
    · rw [if_pos e, if_pos e]
    · rw [if_neg e, if_neg e]
      exact ih (i + 1) n (by omega) (by omega)
theorem x_goal {N a b f : Nat} {F : FF} {k : Nat} {r q : Nat → Nat} (hN : 1000 ≤ N) (hS : isS a) (hk : F a 0 = nI k) (hk3 : k ≤ 3) (hr : ∀ p, p < 6 → F (a + 1) p = nI (r p)) (hq : ∀ p, p < 6 → F (a + 2) p = nI (q p)) (hW : ∀ p, p < 6 → r p < 6) (hQ : ∀ p, p < 6 → q p ≤ 99) (hb : b < 6) (hf : f < 6) : fX4_goalOf N a (nI b) (nI f) F = some (nI (gol k q r b f), F) := by
  obtain ⟨M, rfl⟩ : ∃ k, N = k + 1 := ⟨N - 1, by omega⟩
  unfold fX4_goalOf gol
  rw [gI_S0 hS, gI_S0 hS, hk]
  rcases (show k = 0 ∨ k = 1 ∨ k = 2 ∨ k = 3 by omega) with rfl | rfl | rfl | rfl
  · rw [if_pos (by decide), if_neg (show ¬ ¬ nI 0 = 0 by decide), fX4_goalOf_L33.eq_2, gI_S0 hS, hk, if_pos (by decide)]
    rfl
  · rw [if_neg (by decide), if_pos rfl]
    by_cases h0 : f = 0
    · subst h0; rfl
    · rw [if_neg (by simp (disch := omega) only [il, nI_leI]; omega)]
      congr 2
      exact nI_sub (b := 1) (by omega)
  · rw [if_pos (by decide), if_pos (show ¬ nI 2 = 0 by decide), fX4_goalOf_L33.eq_2, gI_S0 hS, hk, if_pos (by decide)]
    rfl
  · rw [if_pos (by decide), if_pos (show ¬ nI 3 = 0 by decide)]
    exact x_goal_L hS hk rfl hr hq hW hQ hb hf f 0 (M + 1) (by omega) (by omega)
theorem x_pay {a p : Nat} {F : FF} {k : Nat} (hk : F a 0 = nI k) (hk3 : k ≤ 3) (hp : p < 6) : pX4_payFor a (nI p) F = nI (pay k p) := by
  unfold pX4_payFor pay
  rw [hk]
  simp (disch := omega) only [il, nI_eq, nI_add]
  by_cases h2 : k = 2
  · subst h2
    simp only [not_true_eq_false, if_false, true_and]
    by_cases h0 : p = 0
    · subst h0; rfl
    · rw [if_neg h0, if_pos (by omega)]
  · rw [if_pos h2, if_neg (by omega)]
theorem pay_le {k p : Nat} (hp : p < 6) : pay k p ≤ 7 := by unfold pay; split <;> omega
/-- a book is ASKED for at one shelf -/
theorem x_serve {N a b nb : Nat} {F : FF} {x : Sh} (hN : 1000 ≤ N) (hS : isS a) (hR : SR a F x) (hW : WS nb x) (hn : nb ≤ 6) (hb : b < nb) : ∃ F', fX4_serve N a (nI b) F = some (nI (pyS x b), F') ∧ SR a F' (srv x b) ∧ ∀ c, c ≠ a → c ≠ a + 1 → c ≠ a + 2 → F' c = F c := by
  have hp := plc_le x.2.1 b
  have hq := hW.2.2.2.2.2 b (by omega)
  have hc := hW.1.2
  have hpy : pyS x b ≤ 7 := pay_le (by omega)
  obtain ⟨r1, r2, r3, r4⟩ := id hR
  unfold fX4_serve
  rw [x_find hN hS hR hW.2.1 (by omega), cal_some (okC_S hS), okc_ok (okC_S hS), gI_S1 hS, x_pay r1 hW.1.1 (by omega), pI_S1 hS, gR_S3 hS, gR_S3 hS, ld_ok (aS2 hS) (by omega), st_ok (aS2 hS) (by omega), r2]
  have e0 : mmin 99999 (nI x.1.2 + nI (pay x.1.1 (plc x.2.1 b))) = nI (if x.1.2 + pyS x b ≤ 99999 then x.1.2 + pyS x b else 99999) := by
    show mmin 99999 (nI x.1.2 + nI (pyS x b)) = _
    unfold mmin
    simp (disch := omega) only [il, nI_add, nI_ltI]
    by_cases h : x.1.2 + pyS x b < 99999
    · rw [if_pos h, if_pos (by omega)]
    · rw [if_neg h]
      by_cases h2 : x.1.2 + pyS x b ≤ 99999
      · rw [if_pos h2]; congr 1; omega
      · rw [if_neg h2]
  rw [e0]
  generalize hF1 : fput F a 1 (nI (if x.1.2 + pyS x b ≤ 99999 then x.1.2 + pyS x b else 99999)) = F1
  have f1 : F1 a 0 = F a 0 := by rw [← hF1, fpu, if_neg (by omega)]
  have f2 : F1 (a + 1) = F (a + 1) := by rw [← hF1, fput_a (by omega)]
  have f3 : F1 (a + 2) = F (a + 2) := by rw [← hF1, fput_a (by omega)]
  rw [f3, r4 b (by omega)]
  have e1 : mmin 99 (nI (x.2.2 b) + 1) = nI (inc x.2.2 b b) := by
    unfold mmin inc
    simp (disch := omega) only [il, nI_add, nI_ltI, if_true]
    by_cases h : x.2.2 b + 1 < 99
    · rw [if_pos h, if_pos (by omega)]
    · rw [if_neg h]
      by_cases h2 : x.2.2 b + 1 ≤ 99
      · rw [if_pos h2]; congr 1; omega
      · rw [if_neg h2]
  rw [e1]
  generalize hF2 : fput F1 (a + 2) b (nI (inc x.2.2 b b)) = F2
  have g1 : F2 a = F1 a := by rw [← hF2, fput_a (by omega)]
  have g2 : F2 (a + 1) = F (a + 1) := by rw [← hF2, fput_a (by omega), f2]
  have g3 : ∀ p, p < 6 → F2 (a + 2) p = nI (inc x.2.2 b p) := fun p hp => by
    rw [← hF2, fpu]
    by_cases e : p = b
    · rw [if_pos ⟨rfl, e⟩, e]
    · rw [if_neg (by omega), f3, r4 p hp]
      unfold inc
      rw [if_neg e]
  have hg := gol_le x.1.1 (inc x.2.2 b) x.2.1 b (plc x.2.1 b)
  rw [x_goal hN hS (F := F2) (k := x.1.1) (r := x.2.1) (q := inc x.2.2 b) (by rw [g1, f1]; exact r1) hW.1.1 (fun p hp => by rw [g2]; exact r3 p hp) g3 hW.2.1 (fun p hp => inc_le (hW.2.2.2.2.2 p hp)) (by omega) (by omega), cal_some (okC_S hS)]
  obtain ⟨F', h1, h2, h3⟩ := x_shift (F := F2) (r := x.2.1) (f := plc x.2.1 b) (t := goS x b) hN hS (by omega) (by unfold goS; omega) (fun p hp => by rw [g2]; exact r3 p hp)
  rw [show gol x.1.1 (inc x.2.2 b) x.2.1 b (plc x.2.1 b) = goS x b from rfl, h1, cal_some (okC_S hS)]
  refine ⟨F', rfl, ⟨?_, ?_, h2, ?_⟩, fun c c1 c2 c3 => ?_⟩
  · rw [h3 a (by omega), g1, f1]; exact r1
  · rw [h3 a (by omega), g1, ← hF1, fpu, if_pos ⟨rfl, rfl⟩]; rfl
  · intro p hp
    rw [h3 (a + 2) (by omega)]
    exact g3 p hp
  · rw [h3 c c2, ← hF2, fput_a c3, ← hF1, fput_a c1]
theorem x_copyS {N a a0 : Nat} {F : FF} {x : Sh} (hS : isS a) (hS0 : isS a0) (hR : SR a0 F x) : ∃ F', fX4_copy N a a0 F = some ((), F') ∧ SR a F' x ∧ ∀ c, c ≠ a → c ≠ a + 1 → c ≠ a + 2 → F' c = F c := by
  have hgap : a0 = a ∨ (a0 ≠ a ∧ a0 ≠ a + 1 ∧ a0 ≠ a + 2 ∧ a ≠ a0 + 1 ∧ a ≠ a0 + 2) := by
    have key : ∀ a ∈ [4, 7, 10, 13, 19, 22, 25, 28, 47, 50, 53, 56, 62, 65, 68, 71], ∀ a0 ∈ [4, 7, 10, 13, 19, 22, 25, 28, 47, 50, 53, 56, 62, 65, 68, 71], a0 = a ∨ (a0 ≠ a ∧ a0 ≠ a + 1 ∧ a0 ≠ a + 2 ∧ a ≠ a0 + 1 ∧ a ≠ a0 + 2) := by decide
    exact key a hS a0 hS0
  obtain ⟨r1, r2, r3, r4⟩ := id hR
  unfold fX4_copy
  rw [gI_S0 hS0, pI_S0 hS, gI_S1 hS0, pI_S1 hS, gR_S2 hS0, gR_S2 hS, cp_ok (aS1 hS0) (aS1 hS) (by omega) (by omega), gR_S3 hS0, gR_S3 hS, cp_ok (aS2 hS0) (aS2 hS) (by omega) (by omega)]
  refine ⟨_, rfl, ⟨?_, ?_, fun p hp => ?_, fun b hb => ?_⟩, fun c c1 c2 c3 => ?_⟩
  · rw [cpy_e, if_neg (by omega), cpy_e, if_neg (by omega), fpu, if_neg (by omega), fpu, if_pos ⟨rfl, rfl⟩]; exact r1
  · rw [cpy_e, if_neg (by omega), cpy_e, if_neg (by omega), fpu, if_pos ⟨rfl, rfl⟩, fpu]
    rcases hgap with e | e
    · rw [if_neg (by omega)]; exact r2
    · rw [if_neg (by omega)]; exact r2
  · rw [cpy_e, if_neg (by omega), cpy_e, if_pos ⟨rfl, hp⟩, fpu, if_neg (by omega), fpu, if_neg (by omega)]; exact r3 p hp
  · rw [cpy_e, if_pos ⟨rfl, hb⟩, cpy_e, if_neg (by omega), fpu, if_neg (by omega), fpu, if_neg (by omega)]; exact r4 b hb
  · funext k
    rw [cpy_e, if_neg (by omega), cpy_e, if_neg (by omega), fpu, if_neg (by omega), fpu, if_neg (by omega)]
