/-! CHANGES: sheets -/
theorem sx8 (x : Int32) : (x <<< ((24 : Int32) &&& 31)) >>> ((24 : Int32) &&& 31) = x.toInt8.toInt32 := by
  apply Int32.toBitVec_inj.mp
  have e : ((24 : Int32) &&& 31).toBitVec = 24#32 := by decide
  rw [Int32.toBitVec_shiftRight, Int32.toBitVec_shiftLeft, Int8.toBitVec_toInt32, Int32.toBitVec_toInt8, e]
  apply BitVec.eq_of_getLsbD_eq
  intro i hi
  simp [BitVec.getLsbD_sshiftRight, BitVec.getLsbD_shiftLeft, BitVec.getLsbD_signExtend, BitVec.msb_eq_getLsbD_last]
  by_cases h : i < 8
  · have h1 : 24 + i < 32 := by omega
    have h2 : ¬ 32 ≤ i := by omega
    simp [h, h1, h2, hi]
  · have h1 : ¬ 24 + i < 32 := by omega
    have h2 : ¬ 32 ≤ i := by omega
    simp [h, h1, h2, hi, BitVec.getElem_signExtend]
theorem sx16 (x : Int32) : (x <<< ((16 : Int32) &&& 31)) >>> ((16 : Int32) &&& 31) = x.toInt16.toInt32 := by
  apply Int32.toBitVec_inj.mp
  have e : ((16 : Int32) &&& 31).toBitVec = 16#32 := by decide
  rw [Int32.toBitVec_shiftRight, Int32.toBitVec_shiftLeft, Int16.toBitVec_toInt32, Int32.toBitVec_toInt16, e]
  apply BitVec.eq_of_getLsbD_eq
  intro i hi
  simp [BitVec.getLsbD_sshiftRight, BitVec.getLsbD_shiftLeft, BitVec.getLsbD_signExtend, BitVec.msb_eq_getLsbD_last]
  by_cases h : i < 16
  · have h1 : 16 + i < 32 := by omega
    have h2 : ¬ 32 ≤ i := by omega
    simp [h, h1, h2, hi]
  · have h1 : ¬ 16 + i < 32 := by omega
    have h2 : ¬ 32 ≤ i := by omega
    simp [h, h1, h2, hi, BitVec.getElem_signExtend]
/-! the sheets' places -/
theorem lyK : ∀ k, k < 4 → (okC 3 (74 + 2 * k) = true ∧ okF 3 0 (74 + 2 * k) = true ∧ okF 3 1 (74 + 2 * k) = true) ∧ frf 3 2 (74 + 2 * k) = some (75 + 2 * k) ∧ alen 0 (75 + 2 * k) = some 40 ∧ rarr 4 39 k = some (74 + 2 * k) := by decide +kernel
section LK
variable {β : Type} {k : Nat} {F : FF} {x : Int32} {c : Int32 → Option β} {cF : FF → Option β} {cN : Nat → Option β}
theorem gI_K0 (h : k < 4) : gI 3 0 (74 + 2 * k) F c = c (F (74 + 2 * k) 0) := if_pos (lyK k h).1.2.1
theorem pI_K0 (h : k < 4) : pI 3 0 (74 + 2 * k) x F cF = cF (fput F (74 + 2 * k) 0 x) := if_pos (lyK k h).1.2.1
theorem pI_K1 (h : k < 4) : pI 3 1 (74 + 2 * k) x F cF = cF (fput F (74 + 2 * k) 1 x) := if_pos (lyK k h).1.2.2
theorem gR_K2 (h : k < 4) : gR 3 2 (74 + 2 * k) cN = cN (75 + 2 * k) := by unfold gR; rw [(lyK k h).2.1]
theorem ldR_K (h : k < 4) : ldR 4 39 (nI k) cN = cN (74 + 2 * k) := ldR_ok (lyK k h).2.2.2 (by omega)
end LK
theorem x_begK_L {N k : Nat} {F0 : FF} (hk : k < 4) : ∀ (m i n : Nat) (F : FF), i + m = 40 → m < n → (∀ c, c ≠ 75 + 2 * k → F c = F0 c) → (∀ j, j < i → F (75 + 2 * k) j = 0) → ∃ F1, fX3_begin_L12 N (74 + 2 * k) n (nI i) F = some ((), F1) ∧ (∀ c, c ≠ 75 + 2 * k → F1 c = F0 c) ∧ ∀ j, j < 40 → F1 (75 + 2 * k) j = 0 := by
  intro m
  induction m with
  | zero =>
    intro i n F hi hn h1 h2
    obtain ⟨n, rfl⟩ : ∃ k, n = k + 1 := ⟨n - 1, by omega⟩
    rw [fX3_begin_L12.eq_2, if_pos (by show nI 40 ≤ nI i; simp (disch := omega) only [nI_leI]; omega)]
    exact ⟨F, rfl, h1, fun j hj => h2 j (by omega)⟩
  | succ m ih =>
    intro i n F hi hn h1 h2
    obtain ⟨n, rfl⟩ : ∃ k, n = k + 1 := ⟨n - 1, by omega⟩
    rw [fX3_begin_L12.eq_2, if_neg (by show ¬ nI 40 ≤ nI i; simp (disch := omega) only [nI_leI]; omega), gR_K2 hk, st_ok (lyK k hk).2.2.1 (by omega), show nI i + 1 = nI (i + 1) from nI_1 i]
    refine ih (i + 1) n _ (by omega) (by omega) (fun c hc => by rw [fput_a hc]; exact h1 c hc) (fun j hj => ?_)
    rw [fpu]
    by_cases e : j = i
    · rw [if_pos ⟨rfl, e⟩]
    · rw [if_neg (fun h => e h.2)]; exact h2 j (by omega)
theorem y_sheet_L {N k : Nat} {F0 : FF} (hk : k < 4) : ∀ (m i n : Nat) (F : FF), i + m = 40 → m < n → (∀ c, c ≠ 94 → F c = F0 c) → (∀ j, F 94 j = if 40 * k ≤ j ∧ j < 40 * k + i then 0 else F0 94 j) → ∃ F1, fX7_sheet_L56 N (nI k) n (nI i) F = some (1, F1) ∧ (∀ c, c ≠ 94 → F1 c = F0 c) ∧ ∀ j, F1 94 j = if 40 * k ≤ j ∧ j < 40 * k + 40 then 0 else F0 94 j := by
  intro m
  induction m with
  | zero =>
    intro i n F hi hn h1 h2
    obtain ⟨n, rfl⟩ : ∃ k, n = k + 1 := ⟨n - 1, by omega⟩
    rw [fX7_sheet_L56.eq_2, if_pos (by show nI 40 ≤ nI i; simp (disch := omega) only [nI_leI]; omega)]
    exact ⟨F, rfl, h1, fun j => by rw [h2, show i = 40 by omega]⟩
  | succ m ih =>
    intro i n F hi hn h1 h2
    obtain ⟨n, rfl⟩ : ∃ k, n = k + 1 := ⟨n - 1, by omega⟩
    rw [fX7_sheet_L56.eq_2, if_neg (by show ¬ nI 40 ≤ nI i; simp (disch := omega) only [nI_leI]; omega), show 40 * nI k = nI (40 * k) from nI_mul 40 k, nI_add, st_ok a94 (by omega), show nI i + 1 = nI (i + 1) from nI_1 i]
    refine ih (i + 1) n _ (by omega) (by omega) (fun c hc => by rw [fput_a hc]; exact h1 c hc) (fun j => ?_)
    rw [fpu, h2]
    by_cases e : j = 40 * k + i
    · rw [if_pos ⟨rfl, e⟩, if_pos (by omega)]
    · rw [if_neg (fun h => e h.2)]
      by_cases e2 : 40 * k ≤ j ∧ j < 40 * k + i
      · rw [if_pos e2, if_pos (by omega)]
      · rw [if_neg e2, if_neg (by omega)]
/-- sheets are other, and nothing else -/
theorem inv_K {F F2 : FF} {H : Hs} (h : IP F H) (hK : RK F2) (k : ∀ c, (c < 74 ∨ 82 ≤ c) → c ≠ 92 → c ≠ 93 → c ≠ 94 → F2 c = F c) : Inv F2 := by
  obtain ⟨a1, a2, a3, a4, a5, a6, a7, a8⟩ := h
  have k1 : ∀ c, (c < 74 ∨ (82 ≤ c ∧ c < 92)) → F2 c = F c := fun c hc => k c (by omega) (by omega) (by omega) (by omega)
  exact ⟨H, a1.mv (fun c _ _ => k1 c (by omega)) (by rw [k1 82 (by omega)]) (by rw [k1 82 (by omega)]) (fun q _ => by rw [k1 83 (by omega)]), a2.mv (k1 _ (by omega)) (k1 _ (by omega)) (fun c _ _ => k1 c (by omega)) (by rw [k1 82 (by omega)]) (by rw [k1 82 (by omega)]) (fun q _ _ => by rw [k1 83 (by omega)]), a3.mv (by rw [k1 33 (by omega)]) (k1 _ (by omega)) (by rw [k1 82 (by omega)]) (k1 _ (by omega)), a4.mv (k1 _ (by omega)) (k1 _ (by omega)) (k1 _ (by omega)) (k1 _ (by omega)) (by rw [k1 82 (by omega)]) (k1 _ (by omega)), hK, a6.mv (k1 _ (by omega)) (k1 _ (by omega)), by rw [k1 33 (by omega), k1 82 (by omega)]; exact a7, by rw [k1 0 (by omega), k1 82 (by omega)]; exact a8⟩
theorem m_sheet {N : Nat} {l1 l2 l3 : Int32} {F : FF} (hN : 1000 ≤ N) (hI : Inv F) : MOK (fX6_sheet N l1 l2 l3) (fX7_sheet N l1 l2 l3) F := by
  obtain ⟨H, hIP⟩ := id hI
  obtain ⟨a1, a2, a3, a4, a5, a6, a7, a8⟩ := id hIP
  unfold MOK fX6_sheet fX7_sheet
  rw [xR3, xR2]
  rcases guard (x := l1) 4 with ⟨k, hk, rfl⟩ | hg
  · rw [bI_nI hk (by omega), if_neg n10]
    rcases guard (x := l2) 3 with ⟨l, hl, rfl⟩ | hg2
    · rw [bI_nI hl (by omega), if_neg n10]
      by_cases c40 : l3 ≤ 40
      · rw [if_pos c40]
        by_cases c0 : 0 ≤ l3
        · rw [if_pos c0]
          obtain ⟨n, hn, rfl⟩ : ∃ n, n < 41 ∧ l3 = nI n := of_range (by rw [Int32.le_iff_toInt_le] at c0; exact c0) (by rw [Int32.le_iff_toInt_le, show (40 : Int32).toInt = 40 from rfl] at c40; omega)
          obtain ⟨F0, hF0⟩ : ∃ F0, fput (fput F (74 + 2 * k) 0 (nI l)) (74 + 2 * k) 1 (nI n) = F0 := ⟨_, rfl⟩
          obtain ⟨F1, e1, e2, e3⟩ := x_begK_L (N := N) (F0 := F0) hk 40 0 N F0 rfl (by omega) (fun _ _ => rfl) (fun j hj => by omega)
          have x0 : F1 (74 + 2 * k) 0 = nI l := by rw [e2 _ (by omega), ← hF0, fpu, if_neg (by omega), fpu, if_pos ⟨rfl, rfl⟩]
          have x1 : F1 (74 + 2 * k) 1 = nI n := by rw [e2 _ (by omega), ← hF0, fpu, if_pos ⟨rfl, rfl⟩]
          have x2 : ∀ c, c ≠ 74 + 2 * k → c ≠ 75 + 2 * k → F1 c = F c := fun c h1 h2 => by rw [e2 c h2, ← hF0, fput_a h1, fput_a h1]
          obtain ⟨G0, hG0⟩ : ∃ G0, fput (fput F1 92 k (nI l)) 93 k (nI n) = G0 := ⟨_, rfl⟩
          obtain ⟨F2, g1, g2, g3⟩ := y_sheet_L (N := N) (F0 := G0) hk 40 0 N G0 rfl (by omega) (fun _ _ => rfl) (fun j => by rw [if_neg (by omega)])
          have y92 : ∀ j, F2 92 j = if j = k then nI l else F 92 j := fun j => by
            rw [g2 92 (by omega), ← hG0, fput_a (by omega), fpu, x2 92 (by omega) (by omega)]
            by_cases c : j = k
            · rw [if_pos ⟨rfl, c⟩, if_pos c]
            · rw [if_neg (fun h => c h.2), if_neg c]
          have y93 : ∀ j, F2 93 j = if j = k then nI n else F 93 j := fun j => by
            rw [g2 93 (by omega), ← hG0, fpu, fput_a (by omega), x2 93 (by omega) (by omega)]
            by_cases c : j = k
            · rw [if_pos ⟨rfl, c⟩, if_pos c]
            · rw [if_neg (fun h => c h.2), if_neg c]
          have y94 : ∀ j, F2 94 j = if 40 * k ≤ j ∧ j < 40 * k + 40 then 0 else F 94 j := fun j => by
            rw [g3, ← hG0, fput_a (by omega), fput_a (by omega), x2 94 (by omega) (by omega)]
          have y2 : ∀ c, c ≠ 92 → c ≠ 93 → c ≠ 94 → F2 c = F1 c := fun c h1 h2 h3 => by rw [g2 c h3, ← hG0, fput_a h2, fput_a h1]
          refine ⟨1, F1, F2, ?_, ?_, inv_K hIP ?_ (fun c h1 h2 h3 h4 => (y2 c h2 h3 h4).trans (x2 c (by omega) (by omega)))⟩
          · rw [ldR_K hk, fX3_begin, pI_K0 hk, pI_K1 hk, hF0, show fX3_begin_L12 N (74 + 2 * k) N 0 F0 = some ((), F1) from e1, cal_some (lyK k hk).1.1]
          · rw [yR3, bI_nI hk (by omega), if_neg n10, yR2, bI_nI hl (by omega), if_neg n10, if_pos c40, if_pos c0, st_ok a92 (by omega), st_ok a93 (by omega), hG0]
            exact g1
          · intro j hj
            obtain ⟨r1, r2⟩ := a5 j hj
            rw [y2 _ (by omega) (by omega) (by omega), y2 (75 + 2 * j) (by omega) (by omega) (by omega), y92, y93]
            by_cases c : j = k
            · subst c
              rw [if_pos rfl, if_pos rfl]
              refine ⟨Or.inr ⟨l, n, by omega, by omega, x0, rfl, x1, rfl⟩, fun i hi => ?_⟩
              rw [e3 i hi, y94, if_pos (by omega)]
            · rw [if_neg c, if_neg c, x2 _ (by omega) (by omega), x2 (75 + 2 * j) (by omega) (by omega)]
              refine ⟨r1, fun i hi => ?_⟩
              rw [y94, if_neg (by omega)]
              exact r2 i hi
        · refine ⟨-14, F, F, ?_, ?_, hI⟩
          · rw [if_neg c0]
          · rw [yR3, bI_nI hk (by omega), if_neg n10, yR2, bI_nI hl (by omega), if_neg n10, if_pos c40, if_neg c0]
      · refine ⟨-1, F, F, ?_, ?_, hI⟩
        · rw [if_neg c40]
        · rw [yR3, bI_nI hk (by omega), if_neg n10, yR2, bI_nI hl (by omega), if_neg n10, if_neg c40]
    · refine ⟨-1, F, F, ?_, ?_, hI⟩
      · rw [bI_f hg2, if_pos rfl]
      · rw [yR3, bI_nI hk (by omega), if_neg n10, yR2, bI_f hg2, if_pos rfl]
  · refine ⟨-1, F, F, ?_, ?_, hI⟩
    · rw [bI_f hg, if_pos rfl]
    · rw [yR3, bI_f hg, if_pos rfl]
theorem n1_ok : ∀ n, n < 41 → (nI n - 1).toInt = (n : Int) - 1 := by decide +kernel
/-- a place of a sheet -/
theorem y_at {n : Nat} {x : Int32} {F : FF} (hn : n ≤ 40) : pX7_in x.toInt64 0 ((nI n - 1).toInt64) F = bI (decide (0 ≤ x.toInt ∧ x.toInt < (n : Int))) := by
  rw [y_in, i64, i64, n1_ok n (by omega)]
  congr 1
  show decide ((0 : Int) ≤ _ ∧ _) = _
  congr 1
  simp only [eq_iff_iff]
  omega
theorem m_lay {N : Nat} {l1 l2 l3 : Int32} {F : FF} (hI : Inv F) : MOK (fX6_lay N l1 l2 l3) (fX7_lay N l1 l2 l3) F := by
  obtain ⟨H, hIP⟩ := id hI
  obtain ⟨a1, a2, a3, a4, a5, a6, a7, a8⟩ := id hIP
  unfold MOK fX6_lay fX7_lay
  rw [xR3]
  rcases guard (x := l1) 4 with ⟨k, hk, rfl⟩ | hg
  · rw [bI_nI hk (by omega), if_pos n10, ldR_K hk, ldR_K hk, gI_K0 hk, okc_ok (lyK k hk).1.1]
    obtain ⟨r1, r2⟩ := a5 k hk
    rcases r1 with ⟨r3, r4⟩ | ⟨l, n, hl, hn, r3, r4, r5, r6⟩
    · have ef : pX3_faultOf (74 + 2 * k) (F (74 + 2 * k) 0) l2 F = 1 := by
        unfold pX3_faultOf
        rw [r3, if_neg (fun h => h rfl)]
      refine ⟨-11, F, F, ?_, ?_, hI⟩
      · rw [ef, if_neg n10]; rfl
      · rw [yR3, bI_nI hk (by omega), if_pos n10, ld_ok a92 (by omega), r4, if_neg (fun h => h rfl)]
    · have hlm : ¬ nI l = (-1) := nI_neg_ne (k := 1) (by omega) (by omega) (by omega)
      have ef : pX3_faultOf (74 + 2 * k) (F (74 + 2 * k) 0) l2 F = if 0 ≤ l2.toInt ∧ l2.toInt < (n : Int) then 0 else 2 := by
        unfold pX3_faultOf
        rw [r3, if_pos hlm, if_pos rfl, r5]
        by_cases c : l2 < 0
        · rw [if_pos c, if_neg (by rw [Int32.lt_iff_toInt_lt, show (0 : Int32).toInt = 0 from rfl] at c; omega)]
        · rw [if_neg c]
          rw [Int32.lt_iff_toInt_lt, show (0 : Int32).toInt = 0 from rfl] at c
          by_cases c2 : nI n ≤ l2
          · rw [if_pos c2, if_neg (by rw [Int32.le_iff_toInt_le, nI_toInt (by omega)] at c2; omega)]
          · rw [if_neg c2, if_pos (by rw [Int32.le_iff_toInt_le, nI_toInt (by omega)] at c2; omega)]
      rw [ef]
      rcases guard (x := l2) n with ⟨i, hi, rfl⟩ | hg2
      · rw [if_pos (show 0 ≤ (nI i).toInt ∧ (nI i).toInt < (n : Int) by rw [nI_toInt (by omega)]; omega), if_pos rfl, ldR_K hk]
        have hv : ∃ v : Int32, (fX3_write N (74 + 2 * k) (nI i) l3 F = some ((), fput F (75 + 2 * k) i v)) ∧ ∀ F1 : FF, F1 92 k = nI l → (if ¬ nI l = 0 then ldT 0 92 (nI k) F1 fun v4 => stT 0 94 ((40 * nI k) + nI i) ((if ¬ v4 = 1 then l3 else ((l3 <<< (16 &&& 31)) >>> (16 &&& 31)) : Int32)) F1 fun F1 => some ((1 : Int32), F1) else fX7_lay_b99 N ((40 * nI k) + nI i) ((l3 <<< (24 &&& 31)) >>> (24 &&& 31)) F1) = some (1, fput F1 94 (40 * k + i) v) := by
          have ea : 40 * nI k + nI i = nI (40 * k + i) := by rw [show 40 * nI k = nI (40 * k) from nI_mul 40 k, nI_add]
          unfold fX3_write fX7_lay_b99
          rw [gI_K0 hk, r3, ea]
          by_cases h0 : l = 0
          · subst h0
            refine ⟨l3.toInt8.toInt32, ?_, fun F1 h92 => ?_⟩
            · rw [if_pos (show nI 0 = 0 from rfl), gR_K2 hk, st_ok (lyK k hk).2.2.1 (by omega)]
            · rw [if_neg (fun h => h rfl), st_ok a94 (by omega), sx8]
          · have h0' : ¬ nI l = 0 := by show ¬ nI l = nI 0; simp (disch := omega) only [nI_eq]; exact h0
            by_cases h1 : l = 1
            · subst h1
              refine ⟨l3.toInt16.toInt32, ?_, fun F1 h92 => ?_⟩
              · rw [if_neg h0', if_pos (show nI 1 = 1 from rfl), gR_K2 hk, st_ok (lyK k hk).2.2.1 (by omega)]
              · rw [if_pos h0', ld_ok a92 (by omega), h92, st_ok a94 (by omega), if_neg (fun h => h rfl), sx16]
            · have h1' : ¬ nI l = 1 := by show ¬ nI l = nI 1; simp (disch := omega) only [nI_eq]; exact h1
              refine ⟨l3, ?_, fun F1 h92 => ?_⟩
              · rw [if_neg h0', if_neg h1', gR_K2 hk, st_ok (lyK k hk).2.2.1 (by omega)]
              · rw [if_pos h0', ld_ok a92 (by omega), h92, st_ok a94 (by omega), if_pos h1']
        obtain ⟨v, v1, v2⟩ := hv
        have k1 : ∀ c, c ≠ 75 + 2 * k → fput F (75 + 2 * k) i v c = F c := fun c hc => fput_a hc
        have w1 := v2 (fput F (75 + 2 * k) i v) (by rw [k1 92 (by omega)]; exact r4)
        refine ⟨1, fput F (75 + 2 * k) i v, fput (fput F (75 + 2 * k) i v) 94 (40 * k + i) v, ?_, ?_, inv_K hIP ?_ (fun c h1 h2 h3 h4 => by rw [fput_a h4, k1 c (by omega)])⟩
        · rw [v1, cal_some (lyK k hk).1.1]
        · rw [yR3, bI_nI hk (by omega), if_pos n10, ld_ok a92 (by omega), k1 92 (by omega), r4, if_pos (ne_m4 (by omega)), ld_ok a93 (by omega), k1 93 (by omega), r6, y_at hn, bI_nI hi (by omega), if_pos n10, ld_ok a92 (by omega), k1 92 (by omega), r4]
          exact w1
        · intro j hj
          obtain ⟨q1, q2⟩ := a5 j hj
          rw [fput_a (show 74 + 2 * j ≠ 94 by omega), k1 _ (by omega), fput_a (show 92 ≠ 94 by omega), k1 92 (by omega), fput_a (show 93 ≠ 94 by omega), k1 93 (by omega)]
          refine ⟨q1, fun q hq => ?_⟩
          rw [fput_a (show 75 + 2 * j ≠ 94 by omega), fpu, fpu]
          by_cases c : j = k ∧ q = i
          · obtain ⟨rfl, rfl⟩ := c
            rw [if_pos ⟨rfl, rfl⟩, if_pos ⟨rfl, rfl⟩]
          · rw [if_neg (by omega), if_neg (by omega), k1 94 (by omega)]
            exact q2 q hq
      · refine ⟨-12, F, F, ?_, ?_, hI⟩
        · rw [if_neg hg2, if_neg (by decide)]; rfl
        · rw [yR3, bI_nI hk (by omega), if_pos n10, ld_ok a92 (by omega), r4, if_pos (ne_m4 (by omega)), ld_ok a93 (by omega), r6, y_at hn, bI_f hg2, if_neg (by decide)]
  · refine ⟨-1, F, F, ?_, ?_, hI⟩
    · rw [bI_f hg, if_neg (by decide)]
    · rw [yR3, bI_f hg, if_neg (by decide)]
