/-! TEXT: names -/
def nmn (j : Nat) : Nat := yEnds.getD (j + 1) 0 - yEnds.getD j 0
def nml (j i : Nat) : Nat := yLets.getD (yEnds.getD j 0 + i) 0
def eqN (b : Nat → Nat) (s j : Nat) : Nat → Nat → Bool
  | 0, _ => true
  | m + 1, i => if b (s + i) = nml j i then eqN b s j m (i + 1) else false
/-- the word from s to e is the name j -/
def isN (b : Nat → Nat) (s e j : Nat) : Bool := decide (e - s = nmn j) && eqN b s j (nmn j) 0
/-- the first name that it is -/
def nmJ (b : Nat → Nat) (s e : Nat) : Nat → Nat → Option Nat
  | 0, _ => none
  | m + 1, j => if isN b s e j = true then some j else nmJ b s e m (j + 1)
def xj (w : Nat) : Nat := ([4, 5, 0, 1, 2, 3] : List Nat).getD w 0
theorem xs_len : ∀ w, w < 6 → ma_len.getD w 0 = nmn (xj w) := by decide +kernel
theorem xs_at : ∀ w, w < 6 → ∀ i, i < 5 → i < nmn (xj w) → (ma_byt.getD w []).getD i 0 = nI (nml (xj w) i) := by decide +kernel
theorem nm_5 : ∀ j, j < 6 → nmn j ≤ 5 ∧ yEnds.getD j 0 + nmn j ≤ 27 ∧ yEnds.getD j 0 + nmn j = yEnds.getD (j + 1) 0 := by decide +kernel
theorem nml_le : ∀ j, j < 6 → ∀ i, i < 5 → nml j i < 128 := by decide +kernel
theorem xj_lt : ∀ w, w < 6 → xj w < 6 := by decide +kernel
theorem x_named_L {N n s e : Nat} {w : UInt32} {b : Nat → Nat} {F : FF} (hw : w.toNat < 6) (h : XB F b n) (h5 : F 33 5 = nI s) (he : e ≤ n) (hl : s + nmn (xj w.toNat) = e) : ∀ (m i n' : Nat), i + m = nmn (xj w.toNat) → m < n' → fX5_isNamed_L20 N w n' (nI i) F = some (bI (eqN b s (xj w.toNat) m i), F) := by
  have h160 := h.2.1
  have h5' := nm_5 (xj w.toNat) (xj_lt _ hw)
  intro m
  induction m with
  | zero =>
    intro i n' hi hn
    obtain ⟨n', rfl⟩ : ∃ k, n' = k + 1 := ⟨n' - 1, by omega⟩
    rw [fX5_isNamed_L20.eq_2, sLen, if_pos hw, xs_len _ hw, if_pos (by simp (disch := omega) only [nI_leI]; omega)]
    rfl
  | succ m ih =>
    intro i n' hi hn
    obtain ⟨n', rfl⟩ : ∃ k, n' = k + 1 := ⟨n' - 1, by omega⟩
    obtain ⟨hb, hb2⟩ := h.2.2 (s + i) (by omega)
    have hlt := nml_le (xj w.toNat) (xj_lt _ hw) i (by omega)
    rw [fX5_isNamed_L20.eq_2, sLen, if_pos hw, xs_len _ hw, if_neg (by simp (disch := omega) only [nI_leI]; omega), h5, nI_add, ld_ok a34 (by omega), sAt, if_pos ⟨hw, by rw [nI_toInt (by omega)]; omega, by rw [nI_toInt (by omega), xs_len _ hw]; omega⟩, ix_nI (by omega), xs_at _ hw i (by omega) (by omega), hb, eqN]
    by_cases c : b (s + i) = nml (xj w.toNat) i
    · rw [if_pos (by rw [c]), if_pos c, show nI i + 1 = nI (i + 1) from nI_1 i]
      exact ih (i + 1) n' (by omega) (by omega)
    · rw [if_neg (by simp (disch := omega) only [nI_eq]; exact c), if_neg c]
      rfl
theorem x_named {N n s e : Nat} {w : UInt32} {b : Nat → Nat} {F : FF} (hN : 1000 ≤ N) (hw : w.toNat < 6) (h : XB F b n) (h5 : F 33 5 = nI s) (h4 : F 33 4 = nI e) (hs : s ≤ e) (he : e ≤ n) : fX5_isNamed N w F = some (bI (isN b s e (xj w.toNat)), F) := by
  have h160 := h.2.1
  have h5' := nm_5 (xj w.toNat) (xj_lt _ hw)
  unfold fX5_isNamed isN
  rw [sLen, if_pos hw, xs_len _ hw, h4, h5, nI_sub hs]
  by_cases c : e - s = nmn (xj w.toNat)
  · rw [if_pos (by rw [c]), decide_eq_true c, Bool.true_and]
    exact x_named_L hw h h5 he (by omega) (nmn (xj w.toNat)) 0 N (by omega) (by omega)
  · rw [if_neg (by simp (disch := omega) only [nI_eq]; exact c), decide_eq_false c]
    rfl
/-! the reference -/
theorem y_name51 {N n s e j : Nat} {b : Nat → Nat} {F : FF} {k2 : Int32 → FF → Option (Int32 × FF)} (hj : j < 6) (h : YB F b n) (hC : RC F) (h12 : F 82 12 = nI s) (h11 : F 82 11 = nI e) (hs : s ≤ e) (he : e ≤ n) (hl : e - s = nmn j) : ∀ (m i n' : Nat), i + m = nmn j → m + 1 < n' → fX7_nameHere_L51 N k2 (nI j) n' 1 (nI i) F = if eqN b s j m i = true then some (nI j, F) else k2 (nI (j + 1)) F := by
  have h160 := h.2.1
  have h5' := nm_5 j hj
  intro m
  induction m with
  | zero =>
    intro i n' hi hn
    obtain ⟨n', rfl⟩ : ∃ k, n' = k + 1 := ⟨n' - 1, by omega⟩
    rw [fX7_nameHere_L51.eq_2, if_neg n10, h11, h12, nI_sub hs, if_pos (by simp (disch := omega) only [nI_leI]; omega), fX7_nameHere_b106, if_neg n10]
    rfl
  | succ m ih =>
    intro i n' hi hn
    obtain ⟨n', rfl⟩ : ∃ k, n' = k + 1 := ⟨n' - 1, by omega⟩
    obtain ⟨hb, hb2⟩ := h.2.2 (s + i) (by omega)
    have hlt := nml_le j hj i (by omega)
    have hends : F 86 j = nI (yEnds.getD j 0) := hC.1 j (by omega)
    have hlets : F 87 (yEnds.getD j 0 + i) = nI (nml j i) := hC.2 _ (by omega)
    rw [fX7_nameHere_L51.eq_2, if_neg n10, h11, h12, nI_sub hs, if_neg (by simp (disch := omega) only [nI_leI]; omega), nI_add, y_byte h (by omega), bnd_some, show yb b n (s + i) = nI (b (s + i)) from if_neg (by omega), ld_ok a86 (by omega), hends, nI_add, ld_ok a87 (by omega), hlets, show nI i + 1 = nI (i + 1) from nI_1 i, eqN]
    by_cases c : b (s + i) = nml j i
    · rw [if_neg (by rw [c]; exact fun h => h rfl), if_pos c]
      exact ih (i + 1) n' (by omega) (by omega)
    · rw [if_pos (by simp (disch := omega) only [nI_eq]; exact c), if_neg c, if_neg (by decide)]
      obtain ⟨n', rfl⟩ : ∃ k, n' = k + 1 := ⟨n' - 1, by omega⟩
      rw [fX7_nameHere_L51.eq_2, if_pos rfl, fX7_nameHere_b106, if_pos rfl, show nI j + 1 = nI (j + 1) from nI_1 j]
theorem y_names {N n s e : Nat} {b : Nat → Nat} {F : FF} (hN : 1000 ≤ N) (h : YB F b n) (hC : RC F) (h12 : F 82 12 = nI s) (h11 : F 82 11 = nI e) (hs : s ≤ e) (he : e ≤ n) (h13 : F 82 13 = 1) : ∀ (m j n' : Nat), j + m = 6 → m < n' → fX7_nameHere_L2 N n' (nI j) F = some (oI (nmJ b s e m j), F) := by
  have h160 := h.2.1
  intro m
  induction m with
  | zero =>
    intro j n' hj hn
    obtain ⟨n', rfl⟩ : ∃ k, n' = k + 1 := ⟨n' - 1, by omega⟩
    rw [fX7_nameHere_L2.eq_2, if_pos (by show nI 6 ≤ nI j; simp (disch := omega) only [nI_leI]; omega)]
    rfl
  | succ m ih =>
    intro j n' hj hn
    obtain ⟨n', rfl⟩ : ∃ k, n' = k + 1 := ⟨n' - 1, by omega⟩
    have h5' := nm_5 j (by omega)
    have e0 : F 86 j = nI (yEnds.getD j 0) := hC.1 j (by omega)
    have e1 : F 86 (j + 1) = nI (yEnds.getD (j + 1) 0) := hC.1 (j + 1) (by omega)
    rw [fX7_nameHere_L2.eq_2, if_neg (by show ¬ nI 6 ≤ nI j; simp (disch := omega) only [nI_leI]; omega), h13, if_neg (fun h => h rfl), show nI j + 1 = nI (j + 1) from nI_1 j, ld_ok a86 (by omega), ld_ok a86 (by omega), e0, e1, nI_sub (show yEnds.getD j 0 ≤ yEnds.getD (j + 1) 0 by omega), h11, h12, nI_sub hs, nmJ]
    by_cases c : e - s = nmn j
    · rw [if_neg (by rw [c]; exact fun h => h rfl), show fX7_nameHere_L51 N (fun x1 F => fX7_nameHere_L2 N n' x1 F) (nI j) N 1 0 F = _ from y_name51 (by omega) h hC h12 h11 hs he c (nmn j) 0 N (by omega) (by omega), show isN b s e j = eqN b s j (nmn j) 0 by unfold isN; rw [decide_eq_true c, Bool.true_and]]
      cases hq : eqN b s j (nmn j) 0 with
      | true => rw [if_pos rfl, if_pos rfl]; rfl
      | false => rw [if_neg (by decide), if_neg (by decide)]; exact ih (j + 1) n' (by omega) (by omega)
    · rw [if_pos (by rw [show yEnds.getD (j + 1) 0 - yEnds.getD j 0 = nmn j from rfl]; simp (disch := omega) only [nI_eq]; exact c), show isN b s e j = false by unfold isN; rw [decide_eq_false c]; rfl, if_neg (by decide)]
      obtain ⟨K, hK⟩ : ∃ K, N = K + 1 := ⟨N - 1, by omega⟩
      rw [show ∀ k2, fX7_nameHere_L51 N k2 (nI j) N 0 0 F = k2 (nI (j + 1)) F from fun k2 => by rw [hK, fX7_nameHere_L51.eq_2, if_pos rfl, fX7_nameHere_b106, if_pos rfl, show nI j + 1 = nI (j + 1) from nI_1 j]]
      exact ih (j + 1) n' (by omega) (by omega)
theorem y_nameHere {N n s e : Nat} {b : Nat → Nat} {F : FF} (hN : 1000 ≤ N) (h : YB F b n) (hC : RC F) (h12 : F 82 12 = nI s) (h11 : F 82 11 = nI e) (hs : s ≤ e) (he : e ≤ n) (h13 : F 82 13 = 1) : fX7_nameHere N F = some (oI (nmJ b s e 6 0), F) :=
  y_names hN h hC h12 h11 hs he h13 6 0 N rfl (by omega)
theorem y_noName {N : Nat} {F : FF} (hN : 1000 ≤ N) (h13 : ¬ F 82 13 = 1) : fX7_nameHere N F = some (-4, F) := by
  unfold fX7_nameHere
  obtain ⟨K, hK⟩ : ∃ K, N = K + 1 := ⟨N - 1, by omega⟩
  rw [hK, fX7_nameHere_L2.eq_2, if_neg (by decide), if_pos h13]
/-- the class by its order, the reference by its own: the same name -/
theorem isN_one {b : Nat → Nat} {s e : Nat} : ∀ i j, i < 6 → j < 6 → isN b s e i = true → isN b s e j = true → i = j := by
  intro i j hi hj h1 h2
  unfold isN at h1 h2
  simp only [Bool.and_eq_true, decide_eq_true_eq] at h1 h2
  have key : ∀ (m k : Nat), eqN b s i (m + 1) k = true → eqN b s j (m + 1) k = true → nml i k = nml j k ∧ eqN b s i m (k + 1) = true ∧ eqN b s j m (k + 1) = true := by
    intro m k a1 a2
    unfold eqN at a1 a2
    split at a1
    · split at a2
      · rename_i e1 e2
        exact ⟨e1.symm.trans e2, a1, a2⟩
      · cases a2
    · cases a1
  have hd : ∀ i, i < 6 → ∀ j, j < 6 → (nmn i = nmn j ∧ nml i 0 = nml j 0 ∧ nml i 1 = nml j 1 ∧ nml i 2 = nml j 2) → i = j := by decide +kernel
  have h3 : ∀ i, i < 6 → ∃ m, nmn i = m + 3 := by
    intro i hi
    have : ∀ i, i < 6 → 3 ≤ nmn i := by decide +kernel
    exact ⟨nmn i - 3, by have := this i hi; omega⟩
  obtain ⟨m, hm⟩ := h3 i hi
  have hmm : nmn j = m + 3 := by omega
  rw [hm] at h1
  rw [hmm] at h2
  obtain ⟨k0, a1, a2⟩ := key (m + 2) 0 h1.2 h2.2
  obtain ⟨k1, b1, b2⟩ := key (m + 1) 1 a1 a2
  obtain ⟨k2, -, -⟩ := key m 2 b1 b2
  exact hd i hi j hj ⟨by omega, k0, k1, k2⟩
