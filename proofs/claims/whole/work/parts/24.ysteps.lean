/-! THE REFERENCE'S PAGES: copies, many steps -/
theorem y_copies_L {N f t : Nat} {F0 : FF} (hf : f ≤ 375) (ht : t ≤ 375) (hap : f + 75 ≤ t ∨ t + 75 ≤ f) : ∀ (m i n : Nat) (F : FF), i + m = 75 → m < n → (∀ c, c ≠ 83 → F c = F0 c) → (∀ k, F 83 k = if t ≤ k ∧ k < t + i then F0 83 (f + (k - t)) else F0 83 k) → ∃ F', fX7_copies_L2 N (nI f) (nI t) n (nI i) F = some ((), F') ∧ (∀ c, c ≠ 83 → F' c = F0 c) ∧ ∀ k, F' 83 k = if t ≤ k ∧ k < t + 75 then F0 83 (f + (k - t)) else F0 83 k := by
  intro m
  induction m with
  | zero =>
    intro i n F hi hn h1 h2
    obtain ⟨n, rfl⟩ : ∃ k, n = k + 1 := ⟨n - 1, by omega⟩
    have : i = 75 := by omega
    subst this
    rw [fX7_copies_L2.eq_2, if_pos (by decide)]
    exact ⟨F, rfl, h1, h2⟩
  | succ m ih =>
    intro i n F hi hn h1 h2
    obtain ⟨n, rfl⟩ : ∃ k, n = k + 1 := ⟨n - 1, by omega⟩
    rw [fX7_copies_L2.eq_2, if_neg (by simp (disch := omega) only [il, nI_leI]; omega), nI_add, nI_add, ld_ok a83 (by omega), st_ok a83 (by omega), show nI i + 1 = nI (i + 1) from nI_1 i]
    refine ih (i + 1) n _ (by omega) (by omega) (fun c hc => by rw [fput_a hc]; exact h1 c hc) (fun k => ?_)
    rw [fpu]
    by_cases e : k = t + i
    · subst e
      rw [if_pos ⟨rfl, rfl⟩, if_pos (by omega), h2, if_neg (by omega)]
      congr 1
      omega
    · rw [if_neg (by omega), h2]
      by_cases e2 : t ≤ k ∧ k < t + i
      · rw [if_pos e2, if_pos (by omega)]
      · rw [if_neg e2, if_neg (by omega)]
theorem y_copies {N f t : Nat} {F : FF} (hN : 1000 ≤ N) (hf : f ≤ 375) (ht : t ≤ 375) (hap : f + 75 ≤ t ∨ t + 75 ≤ f) : ∃ F', fX7_copies N (nI f) (nI t) F = some ((), F') ∧ (∀ c, c ≠ 83 → F' c = F c) ∧ ∀ k, F' 83 k = if t ≤ k ∧ k < t + 75 then F 83 (f + (k - t)) else F 83 k :=
  y_copies_L hf ht hap 75 0 N F (by omega) (by omega) (fun _ _ => rfl) (fun k => by rw [if_neg (by omega)])
theorem PR.copy {f t : Nat} {F F' : FF} {H : Hs} (hR : PR f F H) (hW : WH H) (h1 : ∀ c, c ≠ 83 → F' c = F c) (h2 : ∀ k, F' 83 k = if t ≤ k ∧ k < t + 75 then F 83 (f + (k - t)) else F 83 k) : PR t F' H := by
  obtain ⟨⟨a1, a2, a3, a4⟩, a5, a6⟩ := hR
  obtain ⟨w1, w2, w3, w4, w5, w6⟩ := hW
  have e : ∀ j, j < 75 → F' 83 (t + j) = F 83 (f + j) := fun j hj => by
    rw [h2, if_pos (by omega)]
    congr 1
    omega
  have e82 : F' 82 = F 82 := h1 82 (by omega)
  refine ⟨⟨by rw [e82]; exact a1, (e 8 (by omega)).trans a2, (e 25 (by omega)).trans a3, (e 26 (by omega)).trans a4⟩, fun i hi => ?_, fun s hs => ?_⟩
  · have h := a5 i hi
    have e9 : F' 83 (t + 9 + i) = F 83 (f + 9 + i) := by rw [Nat.add_assoc, Nat.add_assoc]; exact e (9 + i) (by omega)
    cases ho : H.2.2 i with
    | none => rw [ho] at h; show F' 82 20 = _; rw [e82]; exact h
    | some b => rw [ho] at h; exact ⟨e9.trans h.1, by rw [e82]; exact h.2⟩
  · obtain ⟨q1, q2, q3, q4⟩ := a6 s hs
    refine ⟨(e s (by omega)).trans q1, ?_, fun p hp => ?_, fun p hp => ?_⟩
    · rw [Nat.add_assoc, e (4 + s) (by omega), ← Nat.add_assoc]; exact q2
    · rw [show t + 27 + 6 * s + p = t + (27 + 6 * s + p) by omega, e _ (by omega), show f + (27 + 6 * s + p) = f + 27 + 6 * s + p by omega]; exact q3 p hp
    · rw [show t + 51 + 6 * s + p = t + (51 + 6 * s + p) by omega, e _ (by omega), show f + (51 + 6 * s + p) = f + 51 + 6 * s + p by omega]; exact q4 p hp
/-- a page is as it was -/
theorem PR.keep {pg : Nat} {F F' : FF} {H : Hs} (hR : PR pg F H) (hW : WH H) (h1 : F' 82 1 = F 82 1) (h20 : F' 82 20 = F 82 20) (h2 : ∀ k, pg ≤ k → k < pg + 75 → F' 83 k = F 83 k) : PR pg F' H := by
  obtain ⟨⟨a1, a2, a3, a4⟩, a5, a6⟩ := hR
  obtain ⟨w1, w2, w3, w4, w5, w6⟩ := hW
  refine ⟨⟨h1.trans a1, (h2 _ (by omega) (by omega)).trans a2, (h2 _ (by omega) (by omega)).trans a3, (h2 _ (by omega) (by omega)).trans a4⟩, fun i hi => (a5 i hi).same (h2 _ (by omega) (by omega)) h20, fun s hs => (a6 s hs).same (h2 _ (by omega) (by omega)) (h2 _ (by omega) (by omega)) (fun p hp => h2 _ (by omega) (by omega)) (fun p hp => h2 _ (by omega) (by omega))⟩
theorem y_starts_L {N : Nat} {F0 : FF} : ∀ (m i n : Nat) (F : FF), i + m = 4 → m < n → (∀ c, c ≠ 88 → F c = F0 c) → (∀ s, s < i → F 88 s = 0) → ∃ F', fX7_starts_L2 N n (nI i) F = some ((), F') ∧ (∀ c, c ≠ 88 → c ≠ 82 → F' c = F0 c) ∧ (∀ k, k ≠ 18 → k ≠ 19 → F' 82 k = F0 82 k) ∧ ACC F' (fun _ => 0) 0 0 := by
  intro m
  induction m with
  | zero =>
    intro i n F hi hn h1 h2
    obtain ⟨n, rfl⟩ : ∃ k, n = k + 1 := ⟨n - 1, by omega⟩
    have : i = 4 := by omega
    subst this
    rw [fX7_starts_L2.eq_2, if_pos (by decide), nmE, nmE]
    refine ⟨_, rfl, fun c c1 c2 => by rw [fput_a c2, fput_a c2, h1 c c1], fun k k1 k2 => by rw [fpu, if_neg (by omega), fpu, if_neg (by omega), h1 82 (by omega)], fun s hs => ?_, ?_, ?_⟩
    · rw [fput_a (by omega), fput_a (by omega)]; exact h2 s hs
    · rw [fpu, if_neg (by omega), fpu, if_pos ⟨rfl, rfl⟩]; rfl
    · rw [fpu, if_pos ⟨rfl, rfl⟩]; rfl
  | succ m ih =>
    intro i n F hi hn h1 h2
    obtain ⟨n, rfl⟩ : ∃ k, n = k + 1 := ⟨n - 1, by omega⟩
    rw [fX7_starts_L2.eq_2, if_neg (by simp (disch := omega) only [il, nI_leI]; omega), st_ok a88 (by omega), show nI i + 1 = nI (i + 1) from nI_1 i]
    refine ih (i + 1) n _ (by omega) (by omega) (fun c hc => by rw [fput_a hc]; exact h1 c hc) (fun s hs => ?_)
    rw [fpu]
    by_cases e : s = i
    · rw [if_pos ⟨rfl, e⟩]
    · rw [if_neg (by omega)]; exact h2 s (by omega)
theorem y_starts {N : Nat} {F : FF} (hN : 1000 ≤ N) : ∃ F', fX7_starts N F = some ((), F') ∧ (∀ c, c ≠ 88 → c ≠ 82 → F' c = F c) ∧ (∀ k, k ≠ 18 → k ≠ 19 → F' 82 k = F 82 k) ∧ ACC F' (fun _ => 0) 0 0 :=
  y_starts_L 4 0 N F rfl (by omega) (fun _ _ => rfl) (fun s hs => by omega)
theorem y_paidAll_L {N : Nat} {F : FF} {P : Nat → Nat} (h : ∀ s, s < 4 → F 88 s = nI (P s)) : ∀ (m i n : Nat), i + m = 4 → m < n → fX7_paidAll_L4 N n (nI (sumTo P i)) (nI i) F = some (nI (sumTo P 4), F) := by
  intro m
  induction m with
  | zero =>
    intro i n hi hn
    obtain ⟨n, rfl⟩ : ∃ k, n = k + 1 := ⟨n - 1, by omega⟩
    have : i = 4 := by omega
    subst this
    rw [fX7_paidAll_L4.eq_2, if_pos (by decide)]
  | succ m ih =>
    intro i n hi hn
    obtain ⟨n, rfl⟩ : ∃ k, n = k + 1 := ⟨n - 1, by omega⟩
    rw [fX7_paidAll_L4.eq_2, if_neg (by simp (disch := omega) only [il, nI_leI]; omega), ld_ok a88 (by omega), h i (by omega), nI_add, show nI i + 1 = nI (i + 1) from nI_1 i]
    exact ih (i + 1) n (by omega) (by omega)
theorem y_paidAll {N : Nat} {F : FF} {P : Nat → Nat} (hN : 1000 ≤ N) (h : ∀ s, s < 4 → F 88 s = nI (P s)) : fX7_paidAll N F = some (nI (sumTo P 4), F) :=
  y_paidAll_L h 4 0 N rfl (by omega)
theorem sum_cut {f : Nat → Nat} {n : Nat} : ∀ m, sumTo (fun s => if s < n then f s else 0) (n + m) = sumTo f n
  | 0 => sumTo_congr n (fun i hi => if_pos hi)
  | m + 1 => by
    show sumTo _ (n + m) + (if n + m < n then _ else 0) = _
    rw [sum_cut m, if_neg (by omega)]
    rfl
theorem sum4 {f : Nat → Nat} {n : Nat} (h : n ≤ 4) : sumTo (fun s => if s < n then f s else 0) 4 = sumTo f n := by
  have := sum_cut (f := f) (n := n) (4 - n)
  rw [show n + (4 - n) = 4 by omega] at this
  exact this
theorem mx_max {f g : Nat → Nat} : ∀ n, max (mxTo f n) (mxTo g n) = mxTo (fun s => max (f s) (g s)) n
  | 0 => rfl
  | n + 1 => by
    show max (max (mxTo f n) (f n)) (max (mxTo g n) (g n)) = max (mxTo (fun s => max (f s) (g s)) n) (max (f n) (g n))
    rw [← mx_max n]
    omega
theorem sum_add {f g : Nat → Nat} : ∀ n, sumTo f n + sumTo g n = sumTo (fun s => f s + g s) n
  | 0 => rfl
  | n + 1 => by
    show (sumTo f n + f n) + (sumTo g n + g n) = sumTo (fun s => f s + g s) n + (f n + g n)
    rw [← sum_add n]
    omega
/-- what is counted in n steps of the wants w -/
def ACCn (F : FF) (H : Hs) (w : Nat → Option Nat) (n : Nat) : Prop := ACC F (fun s => if s < H.1.2.1 then pdS w (H.2.1 s) n else 0) (mxTo (fun s => mxS w (H.2.1 s) n) H.1.2.1) (sumTo (fun s => mvS w (H.2.1 s) n) H.1.2.1)
theorem ACCn.step {F F' : FF} {H : Hs} {w : Nat → Option Nat} {n : Nat} (h : ACCn F H w n) (k : ∀ (P : Nat → Nat) (D M : Nat), D ≤ 7 → ACC F P D M → ACC F' (fun s => P s + if s < H.1.2.1 then pyo (w n) (stS w (H.2.1 s) n) else 0) (max D (mxTo (fun s => pyo (w n) (stS w (H.2.1 s) n)) H.1.2.1)) (M + sumTo (fun s => mvo (w n) (stS w (H.2.1 s) n)) H.1.2.1)) : ACCn F' H w (n + 1) := by
  have := k _ _ _ (mxTo_le _ (fun i _ => mxS_le n)) h
  rw [mx_max, sum_add] at this
  unfold ACCn
  have e : (fun s => if s < H.1.2.1 then pdS w (H.2.1 s) (n + 1) else 0) = (fun s => (if s < H.1.2.1 then pdS w (H.2.1 s) n else 0) + if s < H.1.2.1 then pyo (w n) (stS w (H.2.1 s) n) else 0) := by
    funext s
    by_cases e : s < H.1.2.1
    · rw [if_pos e, if_pos e, if_pos e]; rfl
    · rw [if_neg e, if_neg e, if_neg e]
  rw [e]
  exact this
theorem ACCn.zero {F : FF} {H : Hs} {w : Nat → Option Nat} (h : ACC F (fun _ => 0) 0 0) : ACCn F H w 0 := by
  have := accz h (ns := H.1.2.1) (f := fun _ => 0) (g := fun _ => 0) (fun _ _ => rfl) (fun _ _ => rfl)
  unfold ACCn
  have e1 : (fun s => if s < H.1.2.1 then pdS w (H.2.1 s) 0 else 0) = (fun s => 0 + if s < H.1.2.1 then 0 else 0) := by funext s; simp [pdS]
  rw [e1]
  have e2 : max 0 (mxTo (fun _ => 0) H.1.2.1) = mxTo (fun s => mxS w (H.2.1 s) 0) H.1.2.1 := by
    rw [Nat.zero_max]; rfl
  have e3 : 0 + sumTo (fun _ => 0) H.1.2.1 = sumTo (fun s => mvS w (H.2.1 s) 0) H.1.2.1 := by rw [Nat.zero_add]; rfl
  rw [← e2, ← e3]
  exact this
theorem y_go_L {N nn : Nat} {H : Hs} (hN : 1000 ≤ N) (hW : WH H) (hs : H.1.2.2.2 ≤ 10000) (hn : nn ≤ 200) : ∀ (m i n : Nat) (F : FF), i + m = nn → m < n → PR 300 F (runH H i) → ACCn F H (wAt H) i → ∃ F', fX7_stepsGo_L14 N (nI nn) n (nI i) F = some (nI (totP H nn), F') ∧ PR 300 F' (runH H nn) ∧ ACCn F' H (wAt H) nn ∧ FrA 300 F F' := by
  intro m
  induction m with
  | zero =>
    intro i n F hi hlt hR hA
    obtain ⟨n, rfl⟩ : ∃ k, n = k + 1 := ⟨n - 1, by omega⟩
    have : i = nn := by omega
    subst this
    rw [fX7_stepsGo_L14.eq_2, if_pos (by simp (disch := omega) only [nI_leI]; omega), y_paidAll hN hA.1, bnd_some]
    refine ⟨F, ?_, hR, hA, FrA.rf⟩
    rw [sum4 hW.2.1]
    rfl
  | succ m ih =>
    intro i n F hi hlt hR hA
    obtain ⟨n, rfl⟩ : ∃ k, n = k + 1 := ⟨n - 1, by omega⟩
    rw [fX7_stepsGo_L14.eq_2, if_neg (by simp (disch := omega) only [nI_leI]; omega)]
    obtain ⟨F1, z1, z2, z3, z4⟩ := y_step (z := false) (pg := 300) hN (by omega) hR (hW.run (n := i) (by omega))
    have e : wAt (runH H i) 0 = wAt H i := runH_w
    have e2 : (if false = true then none else wAt (runH H i) 0) = wAt H i := e
    rw [e2] at z4
    have z2' : PR 300 F1 (runH H (i + 1)) := by
      have : stpO (runH H i) false = runH H (i + 1) := by
        unfold stpO
        rw [e2]
        rfl
      rw [← this]
      exact z2
    obtain ⟨F', y1, y2, y3, y4⟩ := ih (i + 1) n F1 (by omega) (by omega) z2' (hA.step z4)
    refine ⟨F', ?_, y2, y3, z3.tr y4⟩
    rw [show (300 : Int32) = nI 300 from rfl, show (0 : Int32) = bI false from rfl, z1, bnd_some, show nI i + 1 = nI (i + 1) from nI_1 i]
    exact y1
/-- steps of a page, tried -/
theorem y_go {N pg nn : Nat} {F : FF} {H : Hs} (hN : 1000 ≤ N) (hp : pg ≤ 225 ∨ pg = 375) (hR : PR pg F H) (hW : WH H) (hs : H.1.2.2.2 ≤ 10000) (hn : nn ≤ 200) : ∃ F', fX7_stepsGo N (nI pg) (nI nn) F = some (nI (totP H nn), F') ∧ PR 300 F' (runH H nn) ∧ ACCn F' H (wAt H) nn ∧ FrA 300 F F' := by
  obtain ⟨F1, a1, a2, a3⟩ := y_copies (N := N) (F := F) (f := pg) (t := 300) hN (by omega) (by omega) (by omega)
  obtain ⟨F2, b1, b2, b3, b4⟩ := y_starts (N := N) (F := F1) hN
  have hR1 : PR 300 F1 H := hR.copy hW a2 a3
  have hR2 : PR 300 F2 (runH H 0) := hR1.keep hW (b3 1 (by omega) (by omega)) (b3 20 (by omega) (by omega)) (fun k _ _ => by rw [b2 83 (by omega) (by omega)])
  obtain ⟨F', y1, y2, y3, y4⟩ := y_go_L hN hW hs hn nn 0 N F2 (by omega) (by omega) hR2 (ACCn.zero b4)
  refine ⟨F', ?_, y2, y3, (show FrA 300 F F2 from ⟨fun c h1 h2 h3 => by rw [b2 c h3 h2, a2 c h1], fun k h1 h2 => by rw [b3 k h1 h2, a2 82 (by omega)], fun k hk => by rw [b2 83 (by omega) (by omega), a3, if_neg (by omega)]⟩).tr y4⟩
  unfold fX7_stepsGo
  rw [show (300 : Int32) = nI 300 from rfl, a1, bnd_some, b1, bnd_some]
  exact y1
/-! the first of the least -/
def bst (f : Nat → Nat) (L : Nat) : Nat → Option Nat × Nat
  | 0 => (none, L)
  | n + 1 => if f n < (bst f L n).2 then (some n, f n) else bst f L n
def oI : Option Nat → Int32
  | none => -4
  | some n => nI n
theorem bst_lt {f : Nat → Nat} {L : Nat} : ∀ n i, (bst f L n).1 = some i → i < n ∧ (bst f L n).2 = f i
  | 0, i => by intro h; cases h
  | n + 1, i => by
    unfold bst
    split
    · intro h
      cases h
      exact ⟨Nat.lt_succ_self _, rfl⟩
    · intro h
      have := bst_lt n i h
      exact ⟨by omega, this.2⟩
theorem bst_le {f : Nat → Nat} {L : Nat} : ∀ n, (bst f L n).2 ≤ L
  | 0 => Nat.le_refl _
  | n + 1 => by
    have := bst_le (f := f) (L := L) n
    unfold bst
    split
    · show f n ≤ L
      omega
    · exact this
theorem bst_none {f : Nat → Nat} {L : Nat} : ∀ n, (∀ i, i < n → f i < L) → (bst f L n).1 = none → n = 0
  | 0, _ => fun _ => rfl
  | n + 1, h => by
    unfold bst
    split
    · intro e; cases e
    · rename_i hc
      intro e
      have := bst_none n (fun i hi => h i (by omega)) e
      subst this
      exact absurd (h 0 (by omega)) (by
        intro h2
        exact hc h2)
theorem oI_ne {n : Nat} (h : n < 2 ^ 31) : ¬ oI (some n) = (-4) := ne_m4 h
theorem y_cheap_L {N ns : Nat} {F : FF} {P : Nat → Nat} (h8 : F 83 8 = nI ns) (hns : ns ≤ 4) (h : ∀ s, s < 4 → F 88 s = nI (P s)) (hP : ∀ s, s < 4 → P s < 1000000000) : ∀ (m i n : Nat), i + m = ns → m < n → fX7_cheapest_L5 N n (oI (bst P 1000000000 i).1) (nI i) F = some (oI (bst P 1000000000 ns).1, F) := by
  intro m
  induction m with
  | zero =>
    intro i n hi hn
    obtain ⟨n, rfl⟩ : ∃ k, n = k + 1 := ⟨n - 1, by omega⟩
    have : i = ns := by omega
    subst this
    rw [fX7_cheapest_L5.eq_2, h8, if_pos (by simp (disch := omega) only [nI_leI]; omega)]
  | succ m ih =>
    intro i n hi hn
    obtain ⟨n, rfl⟩ : ∃ k, n = k + 1 := ⟨n - 1, by omega⟩
    have h1 := ih (i + 1) n (by omega) (by omega)
    rw [fX7_cheapest_L5.eq_2, h8, if_neg (by simp (disch := omega) only [nI_leI]; omega), ← h1]
    have hPi := hP i (by omega)
    cases hb : (bst P 1000000000 i).1 with
    | none =>
      have := bst_none i (fun j hj => hP j (by omega)) hb
      subst this
      rw [show oI none = (-4) from rfl, if_pos rfl, fX7_cheapest_b37, fX7_cheapest_b42, show nI 0 + 1 = nI (0 + 1) from rfl]
      congr 1
      unfold bst
      rw [if_pos (show P 0 < (bst P 1000000000 0).2 from hPi)]
      rfl
    | some j =>
      have hj := bst_lt i j hb
      have hPj := hP j (by omega)
      rw [if_neg (oI_ne (by omega)), ld_ok a88 (by omega), show oI (some j) = nI j from rfl, ld_ok a88 (by omega), h i (by omega), h j (by omega), show nI i + 1 = nI (i + 1) from nI_1 i]
      congr 1
      simp (disch := omega) only [nI_leI]
      rw [bst]
      by_cases c : P i < (bst P 1000000000 i).2
      · rw [if_pos c, if_neg (by omega)]; rfl
      · rw [if_neg c, if_pos (by omega), hb]; rfl
theorem y_cheap {N ns : Nat} {F : FF} {P : Nat → Nat} (hN : 1000 ≤ N) (h8 : F 83 8 = nI ns) (hns : ns ≤ 4) (h : ∀ s, s < 4 → F 88 s = nI (P s)) (hP : ∀ s, s < 4 → P s < 1000000000) : fX7_cheapest N F = some (oI (bst P 1000000000 ns).1, F) :=
  y_cheap_L h8 hns h hP ns 0 N (by omega) (by omega)
theorem bst_cg {f g : Nat → Nat} {L : Nat} : ∀ n, (∀ i, i < n → f i = g i) → bst f L n = bst g L n
  | 0, _ => rfl
  | n + 1, h => by
    unfold bst
    rw [bst_cg n (fun i hi => h i (by omega)), h n (by omega)]
/-- rows as at first -/
theorem y_orders_L {N s : Nat} {F0 : FF} (hs : s < 4) : ∀ (m i n : Nat) (F : FF), i + m = 6 → m < n → (∀ c, c ≠ 83 → F c = F0 c) → (∀ k, (k < 27 + 6 * s ∨ 33 + 6 * s ≤ k) → (k < 51 + 6 * s ∨ 57 + 6 * s ≤ k) → F 83 k = F0 83 k) → (∀ p, p < i → F 83 (27 + 6 * s + p) = nI p ∧ F 83 (51 + 6 * s + p) = nI 0) → ∃ F', fX7_ordersFirst_L2 N (nI s) n (nI i) F = some ((), F') ∧ (∀ c, c ≠ 83 → F' c = F0 c) ∧ (∀ k, k ≠ 4 + s → (k < 27 + 6 * s ∨ 33 + 6 * s ≤ k) → (k < 51 + 6 * s ∨ 57 + 6 * s ≤ k) → F' 83 k = F0 83 k) ∧ F' 83 (4 + s) = nI 0 ∧ ∀ p, p < 6 → F' 83 (27 + 6 * s + p) = nI p ∧ F' 83 (51 + 6 * s + p) = nI 0 := by
  intro m
  induction m with
  | zero =>
    intro i n F hi hn h1 h2 h3
    obtain ⟨n, rfl⟩ : ∃ k, n = k + 1 := ⟨n - 1, by omega⟩
    have : i = 6 := by omega
    subst this
    rw [fX7_ordersFirst_L2.eq_2, if_pos (by decide), show 4 + nI s = nI (4 + s) from nI_add 4 s, st_ok a83 (by omega)]
    refine ⟨_, rfl, fun c hc => by rw [fput_a hc]; exact h1 c hc, fun k k1 k2 k3 => by rw [fpu, if_neg (by omega)]; exact h2 k k2 k3, by rw [fpu, if_pos ⟨rfl, rfl⟩]; rfl, fun p hp => ?_⟩
    rw [fpu, if_neg (by omega), fpu, if_neg (by omega)]
    exact h3 p hp
  | succ m ih =>
    intro i n F hi hn h1 h2 h3
    obtain ⟨n, rfl⟩ : ∃ k, n = k + 1 := ⟨n - 1, by omega⟩
    have e1 : 27 + 6 * nI s + nI i = nI (27 + 6 * s + i) := by rw [show 6 * nI s = nI (6 * s) from nI_mul 6 s, show 27 + nI (6 * s) = nI (27 + 6 * s) from nI_add 27 _, nI_add]
    have e2 : 51 + 6 * nI s + nI i = nI (51 + 6 * s + i) := by rw [show 6 * nI s = nI (6 * s) from nI_mul 6 s, show 51 + nI (6 * s) = nI (51 + 6 * s) from nI_add 51 _, nI_add]
    rw [fX7_ordersFirst_L2.eq_2, if_neg (by simp (disch := omega) only [il, nI_leI]; omega), e1, e2, st_ok a83 (by omega), st_ok a83 (by omega), show nI i + 1 = nI (i + 1) from nI_1 i]
    refine ih (i + 1) n _ (by omega) (by omega) (fun c hc => by rw [fput_a hc, fput_a hc]; exact h1 c hc) (fun k k2 k3 => by rw [fpu, if_neg (by omega), fpu, if_neg (by omega)]; exact h2 k k2 k3) (fun p hp => ?_)
    by_cases e : p = i
    · subst e
      exact ⟨by rw [fpu, if_neg (by omega), fpu, if_pos ⟨rfl, rfl⟩], by rw [fpu, if_pos ⟨rfl, rfl⟩]; rfl⟩
    · exact ⟨by rw [fpu, if_neg (by omega), fpu, if_neg (by omega)]; exact (h3 p (by omega)).1, by rw [fpu, if_neg (by omega), fpu, if_neg (by omega)]; exact (h3 p (by omega)).2⟩
theorem y_orders {N s : Nat} {F : FF} (hN : 1000 ≤ N) (hs : s < 4) : ∃ F', fX7_ordersFirst N (nI s) F = some ((), F') ∧ (∀ c, c ≠ 83 → F' c = F c) ∧ (∀ k, k ≠ 4 + s → (k < 27 + 6 * s ∨ 33 + 6 * s ≤ k) → (k < 51 + 6 * s ∨ 57 + 6 * s ≤ k) → F' 83 k = F 83 k) ∧ F' 83 (4 + s) = nI 0 ∧ ∀ p, p < 6 → F' 83 (27 + 6 * s + p) = nI p ∧ F' 83 (51 + 6 * s + p) = nI 0 :=
  y_orders_L hs 6 0 N F rfl (by omega) (fun _ _ => rfl) (fun _ _ _ => rfl) (fun p hp => by omega)
