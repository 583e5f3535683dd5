/-! CHANGES: wants read off a sheet -/
theorem wh_addW {H : Hs} {b : Nat} (hW : WH H) (hw : H.1.2.2.1 < 16) (hb : b < H.1.1) : WH (addW H b) := by
  obtain ⟨w1, w2, w3, w4, w5, w6⟩ := hW
  exact ⟨w1, w2, (show H.1.2.2.1 + 1 ≤ 16 by omega), w4, fun i hi b' e => by
    have hi : i < H.1.2.2.1 + 1 := hi
    have e : (if i = H.1.2.2.1 then some b else H.2.2 i) = some b' := e
    by_cases c : i = H.1.2.2.1
    · rw [if_pos c] at e; cases e; exact hb
    · rw [if_neg c] at e; exact w5 i (by omega) b' e, w6⟩
theorem okA_addW {H : Hs} {b : Nat} (h : okA H) : okA (addW H b) := fun i hi => by
  have hi : i < H.1.2.2.1 + 1 := hi
  show ∃ c, (if i = H.1.2.2.1 then some b else H.2.2 i) = some c
  by_cases c : i = H.1.2.2.1
  · exact ⟨b, if_pos c⟩
  · rw [if_neg c]; exact h i (by omega)
theorem x_add_ok {N b : Nat} {F : FF} {H : Hs} (hR : HR 1 F H) (hW : WH H) (hb : b < H.1.1) (hw : H.1.2.2.1 < 16) : ∃ F1, fX6_add N (nI b) F = some (nI (H.1.2.2.1 + 1), F1) ∧ HR 1 F1 (addW H b) ∧ FrH 1 F F1 := by
  have hnb := hW.1
  obtain ⟨F1, e1, hX, fa⟩ := x_addWant (N := N) (b := b) iH1 hR hw
  refine ⟨F1, ?_, hX, fa⟩
  unfold fX6_add
  rw [x_hasBook hR.1.1 (by omega), bI_nI hb (by omega), if_pos n10, e1, bnd_some, if_neg n10, hX.1.2.2.1]
  rfl
theorem x_add_no {N : Nat} {v : Int32} {F : FF} {H : Hs} (hR : HR 1 F H) (hW : WH H) (h : ¬ ((0 ≤ v.toInt ∧ v.toInt < (H.1.1 : Int)) ∧ H.1.2.2.1 < 16)) : ∃ r, fX6_add N v F = some (r, F) ∧ ¬ 0 ≤ r := by
  have hnb := hW.1
  have hnw := hW.2.2.1
  unfold fX6_add
  rw [x_hasBook hR.1.1 (by omega)]
  by_cases c : 0 ≤ v.toInt ∧ v.toInt < (H.1.1 : Int)
  · rw [bI_t c, if_pos n10, x_addWant_full iH1 hR (by omega), bnd_some, if_pos rfl]
    exact ⟨-3, rfl, by decide⟩
  · rw [bI_f c, if_neg (fun h => h rfl)]
    exact ⟨-1, rfl, by decide⟩
theorem y_add_ok {N b : Nat} {F : FF} {H : Hs} (hR : PR 0 F H) (hW : WH H) (h20 : F 82 20 = -4) (hb : b < H.1.1) (hw : H.1.2.2.1 < 16) : ∃ F1, fX7_adds N (nI b) F = some (nI (H.1.2.2.1 + 1), F1) ∧ PR 0 F1 (addW H b) ∧ FrA 0 F F1 := by
  have hnb := hW.1
  have hns := hW.2.1
  have k25 : F 83 25 = nI H.1.2.2.1 := hR.1.2.2.1
  obtain ⟨F2, hF2⟩ : ∃ F2, fput (fput F 83 (9 + H.1.2.2.1) (nI b)) 83 25 (nI (H.1.2.2.1 + 1)) = F2 := ⟨_, rfl⟩
  have y0 : F2 83 25 = nI (H.1.2.2.1 + 1) := by rw [← hF2, fpu, if_pos ⟨rfl, rfl⟩]
  have y1 : F2 83 (9 + H.1.2.2.1) = nI b := by rw [← hF2, fpu, if_neg (by omega), fpu, if_pos ⟨rfl, rfl⟩]
  have y2 : ∀ k, k ≠ 25 → k ≠ 9 + H.1.2.2.1 → F2 83 k = F 83 k := fun k h1 h2 => by rw [← hF2, fpu, if_neg (by omega), fpu, if_neg (by omega)]
  have y4 : ∀ c, c ≠ 83 → F2 c = F c := fun c h3 => by rw [← hF2, fput_a h3, fput_a h3]
  refine ⟨F2, ?_, ?_, fun c h3 _ _ => y4 c h3, fun k _ _ => by rw [y4 82 (by omega)], fun k hk => y2 k (by omega) (by omega)⟩
  · unfold fX7_adds
    rw [y_isBook hR.1.1 hnb.2, bnd_some, bI_nI hb (by omega), if_pos n10, k25, if_pos (by show ¬ nI H.1.2.2.1 = nI 16; simp (disch := omega) only [nI_eq]; omega), show 9 + nI H.1.2.2.1 = nI (9 + H.1.2.2.1) from nI_add 9 _, st_ok a83 (by omega), fpu, if_neg (by omega), k25, show nI H.1.2.2.1 + 1 = nI (H.1.2.2.1 + 1) from nI_1 _, hF2, nmE, y0]
  · obtain ⟨⟨a1, a2, a3, a4⟩, a5, a6⟩ := hR
    have e82 : F2 82 = F 82 := y4 82 (by omega)
    refine ⟨⟨by rw [e82]; exact a1, by rw [y2 _ (by omega) (by omega)]; exact a2, y0, by rw [y2 _ (by omega) (by omega)]; exact a4⟩, fun i hi => ?_, fun s hs => ?_⟩
    · have hi : i < H.1.2.2.1 + 1 := hi
      show wQ 0 F2 i (if i = H.1.2.2.1 then some b else H.2.2 i)
      by_cases c : i = H.1.2.2.1
      · rw [if_pos c, c]
        refine ⟨by rw [show 0 + 9 + H.1.2.2.1 = 9 + H.1.2.2.1 by omega]; exact y1, ?_⟩
        rw [e82, h20]
        exact fun h => ne_m4 (a := H.1.2.2.1) (by omega) h.symm
      · rw [if_neg c]
        exact (a5 i (by omega)).same (y2 _ (by omega) (by omega)) (by rw [e82])
    · have hs : s < H.1.2.1 := hs
      exact (a6 s hs).same (y2 _ (by omega) (by omega)) (y2 _ (by omega) (by omega)) (fun p hp => y2 _ (by omega) (by omega)) (fun p hp => y2 _ (by omega) (by omega))
theorem y_add_no {N : Nat} {v : Int32} {F : FF} {H : Hs} (hR : PR 0 F H) (hW : WH H) (h : ¬ ((0 ≤ v.toInt ∧ v.toInt < (H.1.1 : Int)) ∧ H.1.2.2.1 < 16)) : ∃ r, fX7_adds N v F = some (r, F) ∧ ¬ 0 ≤ r := by
  have hnb := hW.1
  have hnw := hW.2.2.1
  have k25 : F 83 25 = nI H.1.2.2.1 := hR.1.2.2.1
  unfold fX7_adds
  rw [y_isBook hR.1.1 hnb.2, bnd_some]
  by_cases c : 0 ≤ v.toInt ∧ v.toInt < (H.1.1 : Int)
  · rw [bI_t c, if_pos n10, k25, show H.1.2.2.1 = 16 by omega, if_neg (by decide)]
    exact ⟨-3, rfl, by decide⟩
  · rw [bI_f c, if_neg (fun h => h rfl)]
    exact ⟨-1, rfl, by decide⟩
/-- wants read: where it fails, or how many, the fault, the house -/
def rdH (g : Nat → Int32) (a n : Nat) : Nat → Nat → Hs → Nat ⊕ (Nat × Nat × Hs)
  | 0, i, H => .inr (i, 0, H)
  | m + 1, i, H => if n ≤ a + i then .inr (i, 2, H) else if (0 ≤ (g (a + i)).toInt ∧ (g (a + i)).toInt < (H.1.1 : Int)) ∧ H.1.2.2.1 < 16 then rdH g a n m (i + 1) (addW H (g (a + i)).toInt.toNat) else .inl i
def EX (H0 H : Hs) : Prop := H.1.1 = H0.1.1 ∧ H.1.2.1 = H0.1.2.1 ∧ H.1.2.2.2 = H0.1.2.2.2 ∧ H.2.1 = H0.2.1 ∧ H0.1.2.2.1 ≤ H.1.2.2.1 ∧ ∀ i, i < H0.1.2.2.1 → H.2.2 i = H0.2.2 i
theorem EX.rf {H : Hs} : EX H H := ⟨rfl, rfl, rfl, rfl, Nat.le_refl _, fun _ _ => rfl⟩
theorem EX.add {H0 H : Hs} {b : Nat} (h : EX H0 H) : EX H0 (addW H b) := by
  obtain ⟨a1, a2, a3, a4, a5, a6⟩ := h
  exact ⟨a1, a2, a3, a4, (show H0.1.2.2.1 ≤ H.1.2.2.1 + 1 by omega), fun i hi => by
    show (if i = H.1.2.2.1 then some b else H.2.2 i) = _
    rw [if_neg (by omega)]
    exact a6 i hi⟩
theorem val_b {v : Int32} {nb : Nat} (hnb : nb ≤ 6) (h : 0 ≤ v.toInt ∧ v.toInt < (nb : Int)) : v.toInt.toNat < nb ∧ v = nI v.toInt.toNat := by
  obtain ⟨b, hb, rfl⟩ := of_range (x := v) (n := nb) h.1 h.2
  rw [nI_toInt (by omega)]
  exact ⟨hb, rfl⟩
theorem rd_ok {g : Nat → Int32} {a n : Nat} : ∀ (m i : Nat) (H : Hs) (c f : Nat) (H' : Hs), rdH g a n m i H = .inr (c, f, H') → WH H → okA H → WH H' ∧ okA H' ∧ H'.1.1 = H.1.1 ∧ H'.1.2.2.2 = H.1.2.2.2 := by
  intro m
  induction m with
  | zero =>
    intro i H c f H' e hW hA
    rw [rdH] at e
    cases e
    exact ⟨hW, hA, rfl, rfl⟩
  | succ m ih =>
    intro i H c f H' e hW hA
    rw [rdH] at e
    split at e
    · cases e
      exact ⟨hW, hA, rfl, rfl⟩
    · split at e
      · rename_i hc
        obtain ⟨b1, b2⟩ := val_b hW.1.2 hc.1
        exact ih (i + 1) (addW H (g (a + i)).toInt.toNat) c f H' e (wh_addW hW hc.2 b1) (okA_addW hA)
      · cases e
theorem x_read_L {N k l a n L : Nat} {H0 : Hs} {g : Nat → Int32} (hk : k < 4) (hl : l ≤ 2) (hn : n ≤ 40) (ha : a ≤ 40) (hL : L ≤ 40) (hw0 : H0.1.2.2.1 ≤ 16) : ∀ (m i n' : Nat) (F : FF) (H : Hs), i + m = L → m + 1 < n' → HR 1 F H → WH H → EX H0 H → F (74 + 2 * k) 0 = nI l → F (74 + 2 * k) 1 = nI n → (∀ j, j < 40 → F (75 + 2 * k) j = g j) → (∀ c f H', rdH g a n m i H = .inr (c, f, H') → ∃ F1, fX6_read_L54 N (nI l) (nI a) (nI L) (74 + 2 * k) (nI H0.1.2.2.1) n' 0 (nI i) F = some (nI c, fput F1 0 11 (nI f)) ∧ HR 1 F1 H' ∧ FrH 1 F F1) ∧ (∀ c, rdH g a n m i H = .inl c → ∃ F1, fX6_read_L54 N (nI l) (nI a) (nI L) (74 + 2 * k) (nI H0.1.2.2.1) n' 0 (nI i) F = some ((-20) - nI c, F1) ∧ HR 1 F1 H0 ∧ FrH 1 F F1) := by
  intro m
  induction m with
  | zero =>
    intro i n' F H hi hlt hR hW hE k0 k1 kg
    obtain ⟨n', rfl⟩ : ∃ k, n' = k + 1 := ⟨n' - 1, by omega⟩
    rw [fX6_read_L54.eq_2, if_pos (by simp (disch := omega) only [nI_leI]; omega), rdH]
    exact ⟨fun c f H' e => by cases e; exact ⟨F, rfl, hR, FrH.rf⟩, fun c e => by cases e⟩
  | succ m ih =>
    intro i n' F H hi hlt hR hW hE k0 k1 kg
    obtain ⟨n', rfl⟩ : ∃ k, n' = k + 1 := ⟨n' - 1, by omega⟩
    have hlm : ¬ nI l = (-1) := nI_neg_ne (k := 1) (by omega) (by omega) (by omega)
    have hnb := hW.1
    have hnw := hW.2.2.1
    have ef : pX3_faultOf (74 + 2 * k) (nI l) (nI (a + i)) F = if n ≤ a + i then 2 else 0 := by
      unfold pX3_faultOf
      rw [k0, if_pos hlm, if_pos rfl, if_neg (nI_lt0 (by omega)), k1]
      simp (disch := omega) only [nI_leI]
    rw [fX6_read_L54.eq_2, if_neg (by simp (disch := omega) only [nI_leI]; omega), if_neg (fun h => h rfl), okc_ok (lyK k hk).1.1, nI_add]
    by_cases c1 : n ≤ a + i
    · rw [ef.trans (if_pos c1), if_pos (show ¬ (2 : Int32) = 0 by decide), rdH, if_pos c1]
      refine ⟨fun c f H' e => ?_, fun c e => by cases e⟩
      cases e
      obtain ⟨n', rfl⟩ : ∃ k, n' = k + 1 := ⟨n' - 1, by omega⟩
      rw [fX6_read_L54.eq_2, if_neg (by simp (disch := omega) only [nI_leI]; omega), if_pos (by decide)]
      exact ⟨F, rfl, hR, FrH.rf⟩
    · rw [ef.trans (if_neg c1), if_neg (show ¬ ¬ (0 : Int32) = 0 from fun h => h rfl), rdH, if_neg c1, gR_K2 hk, ld_ok (lyK k hk).2.2.1 (by omega), kg _ (by omega)]
      by_cases c2 : (0 ≤ (g (a + i)).toInt ∧ (g (a + i)).toInt < (H.1.1 : Int)) ∧ H.1.2.2.1 < 16
      · rw [if_pos c2]
        obtain ⟨b1, b2⟩ := val_b hnb.2 c2.1
        obtain ⟨F1, e1, e2, e3⟩ := x_add_ok (N := N) hR hW b1 c2.2
        rw [← b2] at e1
        rw [e1, bnd_some, if_pos (by show nI 0 ≤ _; simp (disch := omega) only [nI_leI]; omega), show nI i + 1 = nI (i + 1) from nI_1 i]
        obtain ⟨z1, z2⟩ := ih (i + 1) n' F1 _ (by omega) (by omega) e2 (wh_addW hW c2.2 b1) hE.add (by rw [e3 _ (by omega)]; exact k0) (by rw [e3 _ (by omega)]; exact k1) (fun j hj => by rw [e3 _ (by omega)]; exact kg j hj)
        refine ⟨fun c f H' e => ?_, fun c e => ?_⟩
        · obtain ⟨F2, y1, y2, y3⟩ := z1 c f H' e
          exact ⟨F2, y1, y2, e3.tr y3⟩
        · obtain ⟨F2, y1, y2, y3⟩ := z2 c e
          exact ⟨F2, y1, y2, e3.tr y3⟩
      · rw [if_neg c2]
        obtain ⟨r, e1, e2⟩ := x_add_no (N := N) hR hW c2
        rw [e1, bnd_some, if_neg e2, nmE]
        refine ⟨fun c f H' e => (by cases e), fun c e => ?_⟩
        cases e
        obtain ⟨⟨a1, a2, a3, a4⟩, a5, a6⟩ := hR
        obtain ⟨x1, x2, x3, x4, x5, x6⟩ := hE
        have hns := hW.2.1
        refine ⟨_, rfl, ⟨⟨by rw [fpu, if_neg (by omega), ← x1]; exact a1, by rw [fpu, if_neg (by omega), ← x2]; exact a2, by rw [fpu, if_pos ⟨rfl, rfl⟩], by rw [fpu, if_neg (by omega), ← x3]; exact a4⟩, fun j hj => ?_, fun s hs => ?_⟩, fun c hc => fput_a (by omega)⟩
        · rw [fput_a (by omega), ← x6 j hj]
          exact a5 j (by omega)
        · rw [← x4]
          exact (a6 s (by omega)).same (fput_a (by omega)) (fput_a (by omega)) (fput_a (by omega))
theorem y_read_L {N k l a n L : Nat} {H0 : Hs} {g : Nat → Int32} (hN : 1000 ≤ N) (hk : k < 4) (hl : l ≤ 2) (hn : n ≤ 40) (ha : a < n) (hL : L ≤ 40) (hW0 : WH H0) : ∀ (m i n' : Nat) (F : FF) (H : Hs), i + m = L → m + 1 < n' → PR 0 F H → WH H → PR 225 F H0 → F 82 20 = -4 → F 92 k = nI l → F 93 k = nI n → (∀ j, j < 40 → F 94 (40 * k + j) = g j) → (∀ c f H', rdH g a n m i H = .inr (c, f, H') → ∃ F1, fX7_read_L56 N (nI k) (nI l) (nI a) (nI L) n' 0 (nI i) (nI i) F = some (nI c, fput F1 82 28 (nI f)) ∧ PR 0 F1 H' ∧ FrA 0 F F1) ∧ (∀ c, rdH g a n m i H = .inl c → ∃ F1, fX7_read_L56 N (nI k) (nI l) (nI a) (nI L) n' 0 (nI i) (nI i) F = some ((-20) - nI c, F1) ∧ PR 0 F1 H0 ∧ FrA 0 F F1) := by
  intro m
  induction m with
  | zero =>
    intro i n' F H hi hlt hR hW hP h20 k0 k1 kg
    obtain ⟨n', rfl⟩ : ∃ k, n' = k + 1 := ⟨n' - 1, by omega⟩
    rw [fX7_read_L56.eq_2, if_pos (by simp (disch := omega) only [nI_leI]; omega), rdH]
    exact ⟨fun c f H' e => by cases e; exact ⟨F, rfl, hR, FrA.rf⟩, fun c e => by cases e⟩
  | succ m ih =>
    intro i n' F H hi hlt hR hW hP h20 k0 k1 kg
    obtain ⟨n', rfl⟩ : ∃ k, n' = k + 1 := ⟨n' - 1, by omega⟩
    have hnb := hW.1
    have hnw := hW.2.2.1
    have eg : pX7_in ((nI a).toInt64 + (nI i).toInt64) 0 ((nI n - 1).toInt64) F = bI (decide (a + i < n)) := by
      rw [nIl (n := a) (by omega), nIl (n := i) (by omega), lN_add, show nI n - 1 = nI (n - 1) from nI_sub (a := n) (b := 1) (by omega), nIl (n := n - 1) (by omega), y_in, lN_toInt (by omega), lN_toInt (by omega)]
      congr 1
      show decide ((0 : Int) ≤ _ ∧ _) = _
      congr 1
      simp only [eq_iff_iff]
      omega
    have ea : 40 * nI k + nI a + nI i = nI (40 * k + (a + i)) := by rw [show 40 * nI k = nI (40 * k) from nI_mul 40 k, nI_add, nI_add, Nat.add_assoc]
    rw [fX7_read_L56.eq_2, if_neg (by simp (disch := omega) only [nI_leI]; omega), if_neg (fun h => h rfl), ld_ok a92 (by omega), k0, if_pos (ne_m4 (by omega)), ld_ok a92 (by omega), k0, if_pos rfl, ld_ok a93 (by omega), k1, eg]
    by_cases c1 : n ≤ a + i
    · rw [decide_eq_false (show ¬ a + i < n by omega), if_pos (by decide), rdH, if_pos c1, fX7_read_b173]
      refine ⟨fun c f H' e => ?_, fun c e => by cases e⟩
      cases e
      obtain ⟨n', rfl⟩ : ∃ k, n' = k + 1 := ⟨n' - 1, by omega⟩
      refine ⟨F, ?_, hR, FrA.rf⟩
      rw [fX7_read_L56.eq_2]
      split
      · rfl
      · rw [if_pos (by decide)]; rfl
    · rw [decide_eq_true (show a + i < n by omega), if_neg (by decide), rdH, if_neg c1, ea, ld_ok a94 (by omega), kg _ (by omega)]
      by_cases c2 : (0 ≤ (g (a + i)).toInt ∧ (g (a + i)).toInt < (H.1.1 : Int)) ∧ H.1.2.2.1 < 16
      · rw [if_pos c2]
        obtain ⟨b1, b2⟩ := val_b hnb.2 c2.1
        obtain ⟨F1, e1, e2, e3⟩ := y_add_ok (N := N) hR hW h20 b1 c2.2
        rw [← b2] at e1
        rw [e1, bnd_some, if_pos (by show nI 0 ≤ _; simp (disch := omega) only [nI_leI]; omega), fX7_read_b173, show nI i + 1 = nI (i + 1) from nI_1 i]
        have k82 : ∀ q, q ≠ 18 → q ≠ 19 → F1 82 q = F 82 q := e3.2.1
        have kc : ∀ c, c ≠ 83 → c ≠ 82 → c ≠ 88 → F1 c = F c := e3.1
        obtain ⟨z1, z2⟩ := ih (i + 1) n' F1 _ (by omega) (by omega) e2 (wh_addW hW c2.2 b1) (hP.keep hW0 (k82 1 (by omega) (by omega)) (k82 20 (by omega) (by omega)) (fun q _ _ => e3.2.2 q (by omega))) (by rw [k82 20 (by omega) (by omega)]; exact h20) (by rw [kc 92 (by omega) (by omega) (by omega)]; exact k0) (by rw [kc 93 (by omega) (by omega) (by omega)]; exact k1) (fun j hj => by rw [kc 94 (by omega) (by omega) (by omega)]; exact kg j hj)
        refine ⟨fun c f H' e => ?_, fun c e => ?_⟩
        · obtain ⟨F2, y1, y2, y3⟩ := z1 c f H' e
          exact ⟨F2, y1, y2, e3.tr y3⟩
        · obtain ⟨F2, y1, y2, y3⟩ := z2 c e
          exact ⟨F2, y1, y2, e3.tr y3⟩
      · rw [if_neg c2]
        obtain ⟨r, e1, e2⟩ := y_add_no (N := N) hR hW c2
        rw [e1, bnd_some, if_neg e2]
        refine ⟨fun c f H' e => (by cases e), fun c e => ?_⟩
        cases e
        obtain ⟨F1, c1', c2', c3'⟩ := y_copies (N := N) (F := F) (f := 225) (t := 0) hN (by omega) (by omega) (by omega)
        refine ⟨F1, ?_, hP.copy hW0 c2' c3', fun c h3 _ _ => c2' c h3, fun k _ _ => by rw [c2' 82 (by omega)], fun q hq => by rw [c3', if_neg (by omega)]⟩
        rw [show fX7_copies N 225 0 F = some ((), F1) from c1', bnd_some]
/-- wants are other, and the fault -/
theorem inv_R {F F2 G : FF} {H H' : Hs} (h : IP F H) (hR : RH F2 H') (hn : H'.1.1 = H.1.1) (k : KH F F2) (hG : (∀ c, c ≠ 0 → c ≠ 82 → G c = F2 c) ∧ (∀ q, q ≠ 28 → G 82 q = F2 82 q) ∧ G 0 11 = G 82 28) : Inv G := by
  obtain ⟨H2, b1, b2, b3, b4, b5, b6, b7, b8⟩ := inv_H h hR hn k
  obtain ⟨g1, g2, g3⟩ := hG
  exact ⟨H2, b1.mv (fun c _ _ => g1 c (by omega) (by omega)) (g2 1 (by omega)) (g2 20 (by omega)) (fun q _ => by rw [g1 83 (by omega) (by omega)]), b2.mv (g1 _ (by omega) (by omega)) (g1 _ (by omega) (by omega)) (fun c _ _ => g1 c (by omega) (by omega)) (g2 1 (by omega)) (g2 20 (by omega)) (fun q _ _ => by rw [g1 83 (by omega) (by omega)]), b3.mv (by rw [g1 33 (by omega) (by omega)]) (g1 _ (by omega) (by omega)) (g2 7 (by omega)) (g1 _ (by omega) (by omega)), b4.mv (g1 _ (by omega) (by omega)) (g1 _ (by omega) (by omega)) (g1 _ (by omega) (by omega)) (g1 _ (by omega) (by omega)) (g2 22 (by omega)) (g1 _ (by omega) (by omega)), b5.mv (fun c _ _ => g1 c (by omega) (by omega)) (g1 _ (by omega) (by omega)) (g1 _ (by omega) (by omega)) (g1 _ (by omega) (by omega)), b6.mv (g1 _ (by omega) (by omega)) (g1 _ (by omega) (by omega)), by rw [g1 33 (by omega) (by omega), g2 8 (by omega)]; exact b7, g3⟩
theorem m_read {N : Nat} {l1 l2 l3 l4 : Int32} {F : FF} (hN : 1000 ≤ N) (hI : Inv F) : MOK (fX6_read N l1 l2 l3 l4) (fX7_read N l1 l2 l3 l4) F := by
  obtain ⟨H, hIP⟩ := id hI
  obtain ⟨a1, a2, a3, a4, a5, a6, a7, a8⟩ := id hIP
  have h := a1
  have hW := h.2.2.1
  unfold MOK fX6_read fX7_read
  rw [xR3, xR2, xR40]
  rcases guard (x := l1) 4 with ⟨k, hk, rfl⟩ | hg
  · rw [bI_nI hk (by omega), if_neg n10]
    rcases guard (x := l2) 3 with ⟨l, hl, rfl⟩ | hg2
    · rw [bI_nI hl (by omega), if_neg n10]
      rcases guard (x := l4) 41 with ⟨L, hL, rfl⟩ | hg3
      · rw [bI_nI hL (by omega), if_pos n10, ldR_K hk, show F 1 2 = nI H.1.2.2.1 from h.1.1.2.2.1]
        /- what the reference does after the class has gone from F to F1 -/
        have yfin : ∀ F1 : FF, (if (pX7_in (nI k).toInt64 0 3 F1) = 0 then some ((-1), F1) else if (pX7_in (nI l).toInt64 0 2 F1) = 0 then some ((-1), F1) else if ¬ (pX7_in (nI L).toInt64 0 40 F1) = 0 then bnd (fX7_copies N 0 225 F1) fun _ F1 => fX7_read_L56 N (nI k) (nI l) l3 (nI L) N 0 0 0 F1 else some ((-1), F1)) = bnd (fX7_copies N 0 225 F1) fun _ F1 => fX7_read_L56 N (nI k) (nI l) l3 (nI L) N 0 0 0 F1 := by
          intro F1
          rw [yR3, bI_nI hk (by omega), if_neg n10, yR2, bI_nI hl (by omega), if_neg n10, yR40, bI_nI hL (by omega), if_pos n10]
        obtain ⟨K, hK⟩ : ∃ K, N = K + 1 + 1 := ⟨N - 2, by omega⟩
        /- nothing is read, the fault is f -/
        have early : ∀ f : Int32, fX6_read_L54 N (nI l) l3 (nI L) (74 + 2 * k) (nI H.1.2.2.1) N 0 0 F = some (0, fput F 0 11 f) → (∀ F1 : FF, F1 92 = F 92 → F1 93 = F 93 → fX7_read_L56 N (nI k) (nI l) l3 (nI L) N 0 0 0 F1 = some (0, fput F1 82 28 f)) → ∃ r F1 F2, fX6_read_L54 N (nI l) l3 (nI L) (74 + 2 * k) (nI H.1.2.2.1) N 0 0 F = some (r, F1) ∧ (if (pX7_in (nI k).toInt64 0 3 F1) = 0 then some ((-1), F1) else if (pX7_in (nI l).toInt64 0 2 F1) = 0 then some ((-1), F1) else if ¬ (pX7_in (nI L).toInt64 0 40 F1) = 0 then bnd (fX7_copies N 0 225 F1) fun _ F1 => fX7_read_L56 N (nI k) (nI l) l3 (nI L) N 0 0 0 F1 else some ((-1), F1)) = some (r, F2) ∧ Inv F2 := by
          intro f e1 e2
          have kx : ∀ c, c ≠ 0 → fput F 0 11 f c = F c := fun c hc => fput_a hc
          obtain ⟨F2, c1, c2, c3⟩ := y_copies (N := N) (F := fput F 0 11 f) (f := 0) (t := 225) hN (by omega) (by omega) (by omega)
          have c82 : F2 82 = F 82 := by rw [c2 82 (by omega), kx 82 (by omega)]
          refine ⟨0, fput F 0 11 f, fput F2 82 28 f, e1, ?_, ?_⟩
          · rw [yfin, show fX7_copies N 0 225 (fput F 0 11 f) = some ((), F2) from c1, bnd_some, e2 F2 (by rw [c2 92 (by omega), kx 92 (by omega)]) (by rw [c2 93 (by omega), kx 93 (by omega)])]
          · have k83 : ∀ q, q < 225 → F2 83 q = F 83 q := fun q hq => by rw [c3, if_neg (by omega), kx 83 (by omega)]
            have kk : ∀ c, c ≠ 0 → c ≠ 83 → F2 c = F c := fun c h1 h2 => by rw [c2 c h2, kx c h1]
            refine inv_R (F2 := fput F2 0 11 (F 0 11)) hIP (h.mv (fun c _ _ => by rw [fput_a (by omega), kk c (by omega) (by omega)]) (by rw [fput_a (by omega), c82]) (by rw [fput_a (by omega), c82]) (fun q hq => by rw [fput_a (by omega), k83 q (by omega)])) rfl ⟨fun c h1 h2 h3 h4 h5 h6 => ?_, fun q _ _ => by rw [fput_a (by omega), c82], fun q h1 h2 => by rw [fput_a (by omega), k83 q h2]⟩ ⟨fun c h1 h2 => by rw [fput_a h2, fput_a h1], fun q hq => by rw [fpu, if_neg (fun h => hq h.2), fput_a (by omega)], ?_⟩
            · by_cases c0 : c = 0
              · subst c0
                funext q
                rw [fpu]
                by_cases q11 : q = 11
                · rw [if_pos ⟨rfl, q11⟩, q11]
                · rw [if_neg (fun h => q11 h.2), c2 0 (by omega), fpu, if_neg (fun h => q11 h.2)]
              · rw [fput_a c0, kk c c0 h2]
            · rw [fput_a (by omega), c2 0 (by omega), fpu, if_pos ⟨rfl, rfl⟩, fpu, if_pos ⟨rfl, rfl⟩]
        obtain ⟨r1, r2⟩ := a5 k hk
        by_cases cL : L = 0
        · subst cL
          refine early 0 ?_ (fun F1 _ _ => ?_)
          · rw [hK, fX6_read_L54.eq_2, if_pos (by decide)]; rfl
          · rw [hK, fX7_read_L56.eq_2, if_pos (by decide)]; rfl
        · have nL : ¬ nI L ≤ 0 := by show ¬ nI L ≤ nI 0; simp (disch := omega) only [nI_leI]; omega
          have nL1 : ∀ (f : Int32) (F1 : FF), ¬ f = 0 → fX7_read_L56 (K + 1 + 1) (nI k) (nI l) l3 (nI L) (K + 1) f 0 (0 + 1) F1 = some (0, fput F1 82 28 f) := by
            intro f F1 hf
            rw [fX7_read_L56.eq_2]
            split
            · rfl
            · first | rfl | (rw [if_pos hf]; rfl)
          rcases r1 with ⟨r3, r4⟩ | ⟨l', n, hl', hn, r3, r4, r5, r6⟩
          · refine early 1 ?_ (fun F1 h92 _ => ?_)
            · have ef : pX3_faultOf (74 + 2 * k) (nI l) (l3 + 0) F = 1 := by
                unfold pX3_faultOf
                rw [r3, if_neg (fun h => h rfl)]
              rw [hK, fX6_read_L54.eq_2, if_neg nL, if_neg (fun h => h rfl), okc_ok (lyK k hk).1.1, ef, if_pos n10, fX6_read_L54.eq_2, if_neg nL, if_pos n10]
              rfl
            · rw [hK, fX7_read_L56.eq_2, if_neg nL, if_neg (fun h => h rfl), ld_ok a92 (by omega), h92, r4, if_neg (fun h => h rfl), fX7_read_b124, if_pos n10, fX7_read_b173]
              exact nL1 1 F1 n10
          · have hlm : ¬ nI l' = (-1) := nI_neg_ne (k := 1) (by omega) (by omega) (by omega)
            by_cases cl : l' = l
            · subst cl
              have ef0 : pX3_faultOf (74 + 2 * k) (nI l') (l3 + 0) F = if 0 ≤ l3.toInt ∧ l3.toInt < (n : Int) then 0 else 2 := by
                unfold pX3_faultOf
                rw [Int32.add_zero, r3, if_pos hlm, if_pos rfl, r5]
                by_cases c : l3 < 0
                · rw [if_pos c, if_neg (by rw [Int32.lt_iff_toInt_lt, show (0 : Int32).toInt = 0 from rfl] at c; omega)]
                · rw [if_neg c]
                  rw [Int32.lt_iff_toInt_lt, show (0 : Int32).toInt = 0 from rfl] at c
                  by_cases c2 : nI n ≤ l3
                  · rw [if_pos c2, if_neg (by rw [Int32.le_iff_toInt_le, nI_toInt (by omega)] at c2; omega)]
                  · rw [if_neg c2, if_pos (by rw [Int32.le_iff_toInt_le, nI_toInt (by omega)] at c2; omega)]
              rcases guard (x := l3) n with ⟨a, ha, rfl⟩ | hga
              · obtain ⟨g, hg⟩ : ∃ g : Nat → Int32, ∀ j, j < 40 → F (75 + 2 * k) j = g j := ⟨fun j => F (75 + 2 * k) j, fun _ _ => rfl⟩
                have hg94 : ∀ j, j < 40 → F 94 (40 * k + j) = g j := fun j hj => by rw [← r2 j hj]; exact hg j hj
                obtain ⟨X1, X2⟩ := x_read_L (N := N) (k := k) (l := l') (a := a) (n := n) (L := L) (H0 := H) (g := g) hk hl' hn (by omega) (by omega) h.nw L 0 N F H (by omega) (by omega) h.1 hW EX.rf r3 r5 hg
                /- both -/
                have hY : ∀ F1 : FF, PR 0 F1 H → F1 82 20 = -4 → F1 92 = F 92 → F1 93 = F 93 → F1 94 = F 94 → ∃ F2, fX7_copies N 0 225 F1 = some ((), F2) ∧ (∀ c, c ≠ 83 → F2 c = F1 c) ∧ (∀ q, q < 225 → F2 83 q = F1 83 q) ∧ ((∀ c f H', rdH g a n L 0 H = .inr (c, f, H') → ∃ F3, fX7_read_L56 N (nI k) (nI l') (nI a) (nI L) N 0 (nI 0) (nI 0) F2 = some (nI c, fput F3 82 28 (nI f)) ∧ PR 0 F3 H' ∧ FrA 0 F2 F3) ∧ (∀ c, rdH g a n L 0 H = .inl c → ∃ F3, fX7_read_L56 N (nI k) (nI l') (nI a) (nI L) N 0 (nI 0) (nI 0) F2 = some ((-20) - nI c, F3) ∧ PR 0 F3 H ∧ FrA 0 F2 F3)) := by
                  intro F1 hP h20 e92 e93 e94
                  obtain ⟨F2, c1, c2, c3⟩ := y_copies (N := N) (F := F1) (f := 0) (t := 225) hN (by omega) (by omega) (by omega)
                  refine ⟨F2, c1, c2, fun q hq => by rw [c3, if_neg (by omega)], ?_⟩
                  exact y_read_L (N := N) (k := k) (l := l') (a := a) (n := n) (L := L) (H0 := H) (g := g) hN hk hl' hn ha (by omega) hW L 0 N F2 H (by omega) (by omega) (hP.keep hW (by rw [c2 82 (by omega)]) (by rw [c2 82 (by omega)]) (fun q _ _ => by rw [c3, if_neg (by omega)])) hW (hP.copy hW c2 c3) (by rw [c2 82 (by omega)]; exact h20) (by rw [c2 92 (by omega), e92]; exact r4) (by rw [c2 93 (by omega), e93]; exact r6) (fun j hj => by rw [c2 94 (by omega), e94]; exact hg94 j hj)
                cases hrd : rdH g a n L 0 H with
                | inl c =>
                  obtain ⟨F1, x1, x2, x3⟩ := X2 c hrd
                  have hP1 := h.X1 x3
                  obtain ⟨F2, c1, c2, c3, -, Y2⟩ := hY F1 hP1 (by rw [x3 82 (by omega)]; exact h.2.2.2.2.2) (x3 92 (by omega)) (x3 93 (by omega)) (x3 94 (by omega))
                  obtain ⟨F3, y1, y2, y3⟩ := Y2 c hrd
                  refine ⟨(-20) - nI c, F1, F3, x1, ?_, ?_⟩
                  · rw [yfin, c1, bnd_some]; exact y1
                  · have kc : ∀ c, c ≠ 82 → c ≠ 83 → c ≠ 88 → F3 c = F1 c := fun c h1 h2 h3 => (y3.1 c h2 h1 h3).trans (c2 c h2)
                    have k82 : ∀ q, q ≠ 18 → q ≠ 19 → F3 82 q = F1 82 q := fun q h1 h2 => by rw [y3.2.1 q h1 h2, c2 82 (by omega)]
                    refine inv_H hIP (show RH F3 H from ⟨x2.keep h.ns (fun c _ _ => kc c (by omega) (by omega) (by omega)), y2, hW, h.2.2.2.1, h.2.2.2.2.1, by rw [k82 20 (by omega) (by omega), x3 82 (by omega)]; exact h.2.2.2.2.2⟩) rfl ⟨fun c h1 h2 h3 h4 h5 h6 => by rw [kc c h1 h2 h3, x3 c (by omega)], fun q h1 h2 => by rw [k82 q h1 h2, x3 82 (by omega)], fun q h1 h2 => by rw [y3.2.2 q (by omega), c3 q h2, x3 83 (by omega)]⟩
                | inr t =>
                  obtain ⟨c, f, H'⟩ := t
                  obtain ⟨o1, o2, o3, o4⟩ := rd_ok L 0 H c f H' hrd hW h.2.2.2.1
                  obtain ⟨F1, x1, x2, x3⟩ := X1 c f H' hrd
                  have kx : ∀ c, c ≠ 0 → fput F1 0 11 (nI f) c = F1 c := fun c hc => fput_a hc
                  have hP1 : PR 0 (fput F1 0 11 (nI f)) H := (h.X1 x3).keep hW (by rw [kx 82 (by omega)]) (by rw [kx 82 (by omega)]) (fun q _ _ => by rw [kx 83 (by omega)])
                  obtain ⟨F2, c1, c2, c3, Y1, -⟩ := hY (fput F1 0 11 (nI f)) hP1 (by rw [kx 82 (by omega), x3 82 (by omega)]; exact h.2.2.2.2.2) (by rw [kx 92 (by omega), x3 92 (by omega)]) (by rw [kx 93 (by omega), x3 93 (by omega)]) (by rw [kx 94 (by omega), x3 94 (by omega)])
                  obtain ⟨F3, y1, y2, y3⟩ := Y1 c f H' hrd
                  refine ⟨nI c, fput F1 0 11 (nI f), fput F3 82 28 (nI f), x1, ?_, ?_⟩
                  · rw [yfin, c1, bnd_some]; exact y1
                  · have kc : ∀ c, c ≠ 82 → c ≠ 83 → c ≠ 88 → F3 c = fput F1 0 11 (nI f) c := fun c h1 h2 h3 => (y3.1 c h2 h1 h3).trans (c2 c h2)
                    have k82 : ∀ q, q ≠ 18 → q ≠ 19 → F3 82 q = F 82 q := fun q h1 h2 => by rw [y3.2.1 q h1 h2, c2 82 (by omega), kx 82 (by omega), x3 82 (by omega)]
                    refine inv_R (F2 := fput F3 0 11 (F 0 11)) hIP (show RH _ H' from ⟨x2.keep o1.2.1 (fun c _ _ => by rw [fput_a (by omega), kc c (by omega) (by omega) (by omega), kx c (by omega)]), y2.keep o1 (by rw [fput_a (by omega)]) (by rw [fput_a (by omega)]) (fun q _ _ => by rw [fput_a (by omega)]), o1, o2, by rw [o4]; exact h.2.2.2.2.1, by rw [fput_a (by omega), k82 20 (by omega) (by omega)]; exact h.2.2.2.2.2⟩) o3 ⟨fun c h1 h2 h3 h4 h5 h6 => ?_, fun q h1 h2 => by rw [fput_a (by omega), k82 q h1 h2], fun q h1 h2 => by rw [fput_a (by omega), y3.2.2 q (by omega), c3 q h2, kx 83 (by omega), x3 83 (by omega)]⟩ ⟨fun c h1 h2 => by rw [fput_a h2, fput_a h1], fun q hq => by rw [fpu, if_neg (fun h => hq h.2), fput_a (by omega)], ?_⟩
                    · by_cases c0 : c = 0
                      · subst c0
                        funext q
                        rw [fpu]
                        by_cases q11 : q = 11
                        · rw [if_pos ⟨rfl, q11⟩, q11]
                        · rw [if_neg (fun h => q11 h.2), kc 0 (by omega) (by omega) (by omega), fpu, if_neg (fun h => q11 h.2), x3 0 (by omega)]
                      · rw [fput_a c0, kc c h1 h2 h3, kx c c0, x3 c (by omega)]
                    · rw [fput_a (by omega), kc 0 (by omega) (by omega) (by omega), fpu, if_pos ⟨rfl, rfl⟩, fpu, if_pos ⟨rfl, rfl⟩]
              · refine early 2 ?_ (fun F1 h92 h93 => ?_)
                · rw [hK, fX6_read_L54.eq_2, if_neg nL, if_neg (fun h => h rfl), okc_ok (lyK k hk).1.1, ef0, if_neg hga, if_pos (by decide), fX6_read_L54.eq_2, if_neg nL, if_pos (by decide)]
                  rfl
                · have eg : pX7_in (l3.toInt64 + (0 : Int32).toInt64) 0 ((nI n - 1).toInt64) F1 = 0 := by
                    rw [show (0 : Int32).toInt64 = 0 from rfl, Int64.add_zero, y_at hn]
                    exact bI_f hga
                  rw [hK, fX7_read_L56.eq_2, if_neg nL, if_neg (fun h => h rfl), ld_ok a92 (by omega), h92, r4, if_pos (ne_m4 (by omega)), ld_ok a92 (by omega), h92, r4, if_pos rfl, ld_ok a93 (by omega), h93, r6, eg, if_pos (by decide), fX7_read_b173]
                  exact nL1 2 F1 (by decide)
            · have cl' : ¬ nI l' = nI l := by simp (disch := omega) only [nI_eq]; exact cl
              refine early 3 ?_ (fun F1 h92 _ => ?_)
              · have ef : pX3_faultOf (74 + 2 * k) (nI l) (l3 + 0) F = 3 := by
                  unfold pX3_faultOf
                  rw [r3, if_pos hlm, if_neg cl']
                rw [hK, fX6_read_L54.eq_2, if_neg nL, if_neg (fun h => h rfl), okc_ok (lyK k hk).1.1, ef, if_pos (by decide), fX6_read_L54.eq_2, if_neg nL, if_pos (by decide)]
                rfl
              · rw [hK, fX7_read_L56.eq_2, if_neg nL, if_neg (fun h => h rfl), ld_ok a92 (by omega), h92, r4, if_pos (ne_m4 (by omega)), ld_ok a92 (by omega), h92, r4, if_neg cl', fX7_read_b124, if_pos (by decide), fX7_read_b173]
                exact nL1 3 F1 (by decide)
      · refine ⟨-1, F, F, ?_, ?_, hI⟩
        · rw [bI_f hg3, if_neg (by decide)]
        · rw [yR3, bI_nI hk (by omega), if_neg n10, yR2, bI_nI hl (by omega), if_neg n10, yR40, bI_f hg3, if_neg (by decide)]
    · refine ⟨-1, F, F, ?_, ?_, hI⟩
      · rw [bI_f hg2, if_pos rfl]
      · rw [yR3, bI_nI hk (by omega), if_neg n10, yR2, bI_f hg2, if_pos rfl]
  · refine ⟨-1, F, F, ?_, ?_, hI⟩
    · rw [bI_f hg, if_pos rfl]
    · rw [yR3, bI_f hg, if_pos rfl]
