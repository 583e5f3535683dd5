/-! NUMBERS: Int32 by Nat -/
theorem il (n : Nat) : (OfNat.ofNat n : Int32) = nI n := rfl
theorem nI_mul (a b : Nat) : nI a * nI b = nI (a * b) := (Int32.ofNat_mul a b).symm
theorem nI_sub {a b : Nat} (h : b ≤ a) : nI a - nI b = nI (a - b) := by
  have : nI a = nI (a - b) + nI b := by rw [nI_add]; congr 1; omega
  rw [this, Int32.add_sub_cancel]
theorem nI_dec {a : Nat} (h : 0 < a) : nI a + (-1) = nI (a - 1) := by
  have e : (-1 : Int32) = - nI 1 := rfl
  rw [e, ← Int32.sub_eq_add_neg, nI_sub (by omega)]
theorem ix_nI {n : Nat} (h : n < 2 ^ 31) : ix (nI n) = n := nI_clamp h
theorem nI_ne {a b : Nat} (ha : a < 2 ^ 31) (hb : b < 2 ^ 31) : nI a ≠ nI b ↔ a ≠ b := not_congr (nI_eq ha hb)
theorem nI_neg_ne {a k : Nat} (ha : a < 2 ^ 31) (h0 : 0 < k) (hk : k < 2 ^ 31) : nI a ≠ - nI k := by
  intro h
  have := congrArg Int32.toInt h
  rw [nI_toInt ha, Int32.toInt_neg, nI_toInt hk] at this
  have e : (-(k : Int)).bmod (2 ^ 32) = -(k : Int) := by
    rw [Int.bmod_eq_of_le] <;> omega
  omega
theorem nI_lt0 {a : Nat} (ha : a < 2 ^ 31) : ¬ nI a < 0 := nI_pos ha
theorem fpu {F : FF} {a k a' k' : Nat} {x : Int32} : fput F a k x a' k' = if a' = a ∧ k' = k then x else F a' k' := fput_e
/-! OPS at places -/
theorem okT_nI {t a n j : Nat} (h : alen t a = some n) (hj : j < n) : okT t a (nI j) = true := by
  have hn := (alen_spec h).2
  unfold okT
  rw [h]
  simp only [nI_toInt (show j < 2 ^ 31 by omega), decide_eq_true_eq]
  omega
theorem ld_ok {β : Type} {t a n j : Nat} {F : FF} {k : Int32 → Option β} (h : alen t a = some n) (hj : j < n) : ldT t a (nI j) F k = k (F a j) := by
  have hn := (alen_spec h).2
  unfold ldT
  rw [if_pos (okT_nI h hj), ix_nI (by omega)]
theorem st_ok {β : Type} {t a n j : Nat} {x : Int32} {F : FF} {k : FF → Option β} (h : alen t a = some n) (hj : j < n) : stT t a (nI j) x F k = k (fput F a j x) := by
  have hn := (alen_spec h).2
  unfold stT
  rw [if_pos (okT_nI h hj), ix_nI (by omega)]
theorem stZ_ok {β : Type} {a n j : Nat} {x : Int32} {F : FF} {k : FF → Option β} (h : alen 2 a = some n) (hj : j < n) (hx : x = 0 ∨ x = 1) : stZ a (nI j) x F k = k (fput F a j x) := by
  have hn := (alen_spec h).2
  unfold stZ
  rw [if_pos ⟨okT_nI h hj, hx⟩, ix_nI (by omega)]
theorem ldR_ok {β : Type} {t a j b : Nat} {k : Nat → Option β} (h : rarr t a j = some b) (hj : j < 2 ^ 31) : ldR t a (nI j) k = k b := by
  unfold ldR
  rw [if_pos (by rw [nI_toInt hj]; omega), ix_nI hj, h]
theorem bnd_some {α β : Type} {r : α} {F : FF} {k : α → FF → Option β} : bnd (some (r, F)) k = k r F := rfl
theorem cal_some {α β : Type} {ci a : Nat} {r : α} {F : FF} {k : α → FF → Option β} (h : okC ci a = true) : cal ci a (some (r, F)) k = k r F := by
  unfold cal; rw [if_pos h]; rfl
theorem okc_ok {β : Type} {ci a : Nat} {k : Option β} (h : okC ci a = true) : okc ci a k = k := if_pos h
theorem dv_ok {β : Type} {y : Int32} {k : Option β} (h : ¬ y = 0) : dv y k = k := if_neg h
theorem dvl_ok {β : Type} {y : Int64} {k : Option β} (h : ¬ y = 0) : dvl y k = k := if_neg h
theorem nmE {α β : Type} {x : α} {k : α → Option β} : nm x k = k x := rfl
theorem zr_0 {F : FF} : zr 0 F = some (0, F) := rfl
theorem zr_1 {F : FF} : zr 1 F = some (1, F) := rfl
/-! THE LAYOUT by kinds -/
def isH (h : Nat) : Prop := h = 1 ∨ h = 16 ∨ h = 44 ∨ h = 59
def isS (a : Nat) : Prop := a ∈ [4, 7, 10, 13, 19, 22, 25, 28, 47, 50, 53, 56, 62, 65, 68, 71]
theorem isS_of {h s : Nat} (hh : isH h) (hs : s < 4) : isS (h + 3 + 3 * s) := by
  have key : ∀ h ∈ [1, 16, 44, 59], ∀ s, s < 4 → h + 3 + 3 * s ∈ [4, 7, 10, 13, 19, 22, 25, 28, 47, 50, 53, 56, 62, 65, 68, 71] := by decide
  refine key h ?_ s hs
  rcases hh with rfl | rfl | rfl | rfl <;> decide
theorem lyS : ∀ a ∈ [4, 7, 10, 13, 19, 22, 25, 28, 47, 50, 53, 56, 62, 65, 68, 71], (okC 4 a = true ∧ okF 4 0 a = true ∧ okF 4 1 a = true) ∧ (frf 4 2 a = some (a + 1) ∧ frf 4 3 a = some (a + 2)) ∧ alen 0 (a + 1) = some 6 ∧ alen 0 (a + 2) = some 6 := by decide +kernel
theorem lyH : ∀ h ∈ [1, 16, 44, 59], (okC 0 h = true ∧ okF 0 0 h = true ∧ okF 0 1 h = true ∧ okF 0 2 h = true ∧ okF 0 3 h = true) ∧ (frf 0 4 h = some (h + 1) ∧ frf 0 5 h = some (h + 2)) ∧ alen 0 (h + 2) = some 16 ∧ ∀ s, s < 4 → rarr 5 (h + 1) s = some (h + 3 + 3 * s) := by decide +kernel
theorem isH_m {h : Nat} (hh : isH h) : h ∈ [1, 16, 44, 59] := by rcases hh with rfl | rfl | rfl | rfl <;> decide
section LY
variable {β : Type} {a h s k j : Nat} {F : FF} {x : Int32} {c : Int32 → Option β} {cF : FF → Option β} {cN : Nat → Option β}
theorem okC_S (hS : isS a) : okC 4 a = true := (lyS a hS).1.1
theorem okC_H (hh : isH h) : okC 0 h = true := (lyH h (isH_m hh)).1.1
theorem gI_S0 (hS : isS a) : gI 4 0 a F c = c (F a 0) := if_pos (lyS a hS).1.2.1
theorem gI_S1 (hS : isS a) : gI 4 1 a F c = c (F a 1) := if_pos (lyS a hS).1.2.2
theorem pI_S0 (hS : isS a) : pI 4 0 a x F cF = cF (fput F a 0 x) := if_pos (lyS a hS).1.2.1
theorem pI_S1 (hS : isS a) : pI 4 1 a x F cF = cF (fput F a 1 x) := if_pos (lyS a hS).1.2.2
theorem gR_S2 (hS : isS a) : gR 4 2 a cN = cN (a + 1) := by unfold gR; rw [(lyS a hS).2.1.1]
theorem gR_S3 (hS : isS a) : gR 4 3 a cN = cN (a + 2) := by unfold gR; rw [(lyS a hS).2.1.2]
theorem aS1 (hS : isS a) : alen 0 (a + 1) = some 6 := (lyS a hS).2.2.1
theorem aS2 (hS : isS a) : alen 0 (a + 2) = some 6 := (lyS a hS).2.2.2
theorem gI_H0 (hh : isH h) : gI 0 0 h F c = c (F h 0) := if_pos (lyH h (isH_m hh)).1.2.1
theorem gI_H1 (hh : isH h) : gI 0 1 h F c = c (F h 1) := if_pos (lyH h (isH_m hh)).1.2.2.1
theorem gI_H2 (hh : isH h) : gI 0 2 h F c = c (F h 2) := if_pos (lyH h (isH_m hh)).1.2.2.2.1
theorem gI_H3 (hh : isH h) : gI 0 3 h F c = c (F h 3) := if_pos (lyH h (isH_m hh)).1.2.2.2.2
theorem pI_H0 (hh : isH h) : pI 0 0 h x F cF = cF (fput F h 0 x) := if_pos (lyH h (isH_m hh)).1.2.1
theorem pI_H1 (hh : isH h) : pI 0 1 h x F cF = cF (fput F h 1 x) := if_pos (lyH h (isH_m hh)).1.2.2.1
theorem pI_H2 (hh : isH h) : pI 0 2 h x F cF = cF (fput F h 2 x) := if_pos (lyH h (isH_m hh)).1.2.2.2.1
theorem pI_H3 (hh : isH h) : pI 0 3 h x F cF = cF (fput F h 3 x) := if_pos (lyH h (isH_m hh)).1.2.2.2.2
theorem gR_H4 (hh : isH h) : gR 0 4 h cN = cN (h + 1) := by unfold gR; rw [(lyH h (isH_m hh)).2.1.1]
theorem gR_H5 (hh : isH h) : gR 0 5 h cN = cN (h + 2) := by unfold gR; rw [(lyH h (isH_m hh)).2.1.2]
theorem aH2 (hh : isH h) : alen 0 (h + 2) = some 16 := (lyH h (isH_m hh)).2.2.1
theorem ldR_H (hh : isH h) (hs : s < 4) : ldR 5 (h + 1) (nI s) cN = cN (h + 3 + 3 * s) := ldR_ok ((lyH h (isH_m hh)).2.2.2 s hs) (by omega)
theorem cp_ok {n n0 n1 : Nat} {a0 : Nat} (h0 : alen 0 a0 = some n0) (h1 : alen 0 a = some n1) (h2 : n ≤ n0) (h3 : n ≤ n1) : cpI a0 a n F cF = cF (va_up F a (va_cpy (F a0) (F a) 0 0 n)) := by
  unfold cpI
  rw [h0, h1]
  exact if_pos ⟨h2, h3⟩
end LY
theorem cpy_e {F : FF} {a0 a n c k : Nat} : va_up F a (va_cpy (F a0) (F a) 0 0 n) c k = if c = a ∧ k < n then F a0 k else F c k := by
  unfold va_up va_cpy
  by_cases h : c = a
  · subst h
    by_cases h2 : k < n
    · simp [h2]
    · simp [h2]
  · simp [h]
theorem a83 : alen 0 83 = some 450 := by decide +kernel
theorem a84 : alen 0 84 = some 75 := by decide +kernel
theorem a85 : alen 0 85 = some 160 := by decide +kernel
theorem a86 : alen 0 86 = some 7 := by decide +kernel
theorem a87 : alen 0 87 = some 27 := by decide +kernel
theorem a88 : alen 0 88 = some 4 := by decide +kernel
theorem a89 : alen 0 89 = some 18 := by decide +kernel
theorem a90 : alen 0 90 = some 984 := by decide +kernel
theorem a91 : alen 2 91 = some 2 := by decide +kernel
theorem a92 : alen 0 92 = some 4 := by decide +kernel
theorem a93 : alen 0 93 = some 4 := by decide +kernel
theorem a94 : alen 0 94 = some 160 := by decide +kernel
theorem a34 : alen 1 34 = some 160 := by decide +kernel
theorem a32 : alen 2 32 = some 2 := by decide +kernel
theorem a36 : alen 0 36 = some 6 := by decide +kernel
theorem a37 : alen 0 37 = some 6 := by decide +kernel
theorem a38 : alen 0 38 = some 6 := by decide +kernel
theorem a41 : alen 0 41 = some 6 := by decide +kernel
theorem a42 : alen 0 42 = some 6 := by decide +kernel
theorem a43 : alen 0 43 = some 164 := by decide +kernel
theorem a3 : alen 0 3 = some 16 := by decide +kernel
theorem a18 : alen 0 18 = some 16 := by decide +kernel
theorem iH1 : isH 1 := Or.inl rfl
theorem iH16 : isH 16 := Or.inr (Or.inl rfl)
theorem iH44 : isH 44 := Or.inr (Or.inr (Or.inl rfl))
theorem iH59 : isH 59 := Or.inr (Or.inr (Or.inr rfl))
