/-! THE LAW'S LOOP: from what class and reference have in common it answers 1 -/
theorem nI_s6 {n : Nat} (h : n < 2 ^ 31) : (nI n - 6).toInt = (n : Int) - 6 := by
  by_cases e : 6 ≤ n
  · rw [show nI n - 6 = nI (n - 6) from nI_sub (b := 6) e, nI_toInt (by omega)]
    omega
  · rcases (show n = 0 ∨ n = 1 ∨ n = 2 ∨ n = 3 ∨ n = 4 ∨ n = 5 by omega) with rfl | rfl | rfl | rfl | rfl | rfl <;> decide
theorem sld_ok {β : Type} {L i : Nat} {xs : Nat → Int32} {k : Int32 → Option β} (j : Nat) (hL : L < 2 ^ 31) (hj : i + j < L) : sld L xs (nI i + nI j) k = k (xs (i + j)) := by
  unfold sld
  rw [nI_add, nI_toInt (by omega), ix_nI (by omega), if_pos (by omega)]
theorem ex_pos {α : Type} {c : Prop} {hc : Decidable c} {a b : Option α} {P : α → Prop} (h : c) (k : ∃ F', a = some F' ∧ P F') : ∃ F', (if c then a else b) = some F' ∧ P F' := by
  rw [if_pos h]; exact k
theorem ex_neg {α : Type} {c : Prop} {hc : Decidable c} {a b : Option α} {P : α → Prop} (h : ¬ c) (k : ∃ F', b = some F' ∧ P F') : ∃ F', (if c then a else b) = some F' ∧ P F' := by
  rw [if_neg h]; exact k
theorem lg_same (r : Int64) : lg_cmp r r = 0 := by
  unfold lg_cmp
  simp
section LW
variable {α : Type} {L i : Nat} {xs : Nat → Int32} {F : FF} {kk : α → α → FF → Option (Int32 × FF)}
theorem lw_0 {fx fy : FF → Option (α × FF)} (hL : L < 2 ^ 31) (hi : i + 5 < L) (hM : MOK (fx ) (fy ) F) (hk : ∀ r F2, Inv F2 → ∃ F', kk r r F2 = some F' ∧ F'.1 = 1) : ∃ F', (bnd (fx  F) fun a F1 => bnd (fy  F1) fun b F2 => kk a b F2) = some F' ∧ F'.1 = 1 := by
  obtain ⟨r, F1, F2, e1, e2, h⟩ := hM
  rw [e1, bnd_some, e2, bnd_some]
  exact hk r F2 h
theorem lw_1 {fx fy : Int32 → FF → Option (α × FF)} (hL : L < 2 ^ 31) (hi : i + 5 < L) (hM : MOK (fx (xs (i + 1))) (fy (xs (i + 1))) F) (hk : ∀ r F2, Inv F2 → ∃ F', kk r r F2 = some F' ∧ F'.1 = 1) : ∃ F', (sld L xs (nI i + nI 1) fun v1 => bnd (fx v1 F) fun a F1 => sld L xs (nI i + nI 1) fun w1 => bnd (fy w1 F1) fun b F2 => kk a b F2) = some F' ∧ F'.1 = 1 := by
  obtain ⟨r, F1, F2, e1, e2, h⟩ := hM
  rw [sld_ok 1 hL (by omega), e1, bnd_some, sld_ok 1 hL (by omega), e2, bnd_some]
  exact hk r F2 h
theorem lw_2 {fx fy : Int32 → Int32 → FF → Option (α × FF)} (hL : L < 2 ^ 31) (hi : i + 5 < L) (hM : MOK (fx (xs (i + 1)) (xs (i + 2))) (fy (xs (i + 1)) (xs (i + 2))) F) (hk : ∀ r F2, Inv F2 → ∃ F', kk r r F2 = some F' ∧ F'.1 = 1) : ∃ F', (sld L xs (nI i + nI 1) fun v1 => sld L xs (nI i + nI 2) fun v2 => bnd (fx v1 v2 F) fun a F1 => sld L xs (nI i + nI 1) fun w1 => sld L xs (nI i + nI 2) fun w2 => bnd (fy w1 w2 F1) fun b F2 => kk a b F2) = some F' ∧ F'.1 = 1 := by
  obtain ⟨r, F1, F2, e1, e2, h⟩ := hM
  rw [sld_ok 1 hL (by omega), sld_ok 2 hL (by omega), e1, bnd_some, sld_ok 1 hL (by omega), sld_ok 2 hL (by omega), e2, bnd_some]
  exact hk r F2 h
theorem lw_3 {fx fy : Int32 → Int32 → Int32 → FF → Option (α × FF)} (hL : L < 2 ^ 31) (hi : i + 5 < L) (hM : MOK (fx (xs (i + 1)) (xs (i + 2)) (xs (i + 3))) (fy (xs (i + 1)) (xs (i + 2)) (xs (i + 3))) F) (hk : ∀ r F2, Inv F2 → ∃ F', kk r r F2 = some F' ∧ F'.1 = 1) : ∃ F', (sld L xs (nI i + nI 1) fun v1 => sld L xs (nI i + nI 2) fun v2 => sld L xs (nI i + nI 3) fun v3 => bnd (fx v1 v2 v3 F) fun a F1 => sld L xs (nI i + nI 1) fun w1 => sld L xs (nI i + nI 2) fun w2 => sld L xs (nI i + nI 3) fun w3 => bnd (fy w1 w2 w3 F1) fun b F2 => kk a b F2) = some F' ∧ F'.1 = 1 := by
  obtain ⟨r, F1, F2, e1, e2, h⟩ := hM
  rw [sld_ok 1 hL (by omega), sld_ok 2 hL (by omega), sld_ok 3 hL (by omega), e1, bnd_some, sld_ok 1 hL (by omega), sld_ok 2 hL (by omega), sld_ok 3 hL (by omega), e2, bnd_some]
  exact hk r F2 h
theorem lw_4 {fx fy : Int32 → Int32 → Int32 → Int32 → FF → Option (α × FF)} (hL : L < 2 ^ 31) (hi : i + 5 < L) (hM : MOK (fx (xs (i + 1)) (xs (i + 2)) (xs (i + 3)) (xs (i + 4))) (fy (xs (i + 1)) (xs (i + 2)) (xs (i + 3)) (xs (i + 4))) F) (hk : ∀ r F2, Inv F2 → ∃ F', kk r r F2 = some F' ∧ F'.1 = 1) : ∃ F', (sld L xs (nI i + nI 1) fun v1 => sld L xs (nI i + nI 2) fun v2 => sld L xs (nI i + nI 3) fun v3 => sld L xs (nI i + nI 4) fun v4 => bnd (fx v1 v2 v3 v4 F) fun a F1 => sld L xs (nI i + nI 1) fun w1 => sld L xs (nI i + nI 2) fun w2 => sld L xs (nI i + nI 3) fun w3 => sld L xs (nI i + nI 4) fun w4 => bnd (fy w1 w2 w3 w4 F1) fun b F2 => kk a b F2) = some F' ∧ F'.1 = 1 := by
  obtain ⟨r, F1, F2, e1, e2, h⟩ := hM
  rw [sld_ok 1 hL (by omega), sld_ok 2 hL (by omega), sld_ok 3 hL (by omega), sld_ok 4 hL (by omega), e1, bnd_some, sld_ok 1 hL (by omega), sld_ok 2 hL (by omega), sld_ok 3 hL (by omega), sld_ok 4 hL (by omega), e2, bnd_some]
  exact hk r F2 h
theorem lw_5 {fx fy : Int32 → Int32 → Int32 → Int32 → Int32 → FF → Option (α × FF)} (hL : L < 2 ^ 31) (hi : i + 5 < L) (hM : MOK (fx (xs (i + 1)) (xs (i + 2)) (xs (i + 3)) (xs (i + 4)) (xs (i + 5))) (fy (xs (i + 1)) (xs (i + 2)) (xs (i + 3)) (xs (i + 4)) (xs (i + 5))) F) (hk : ∀ r F2, Inv F2 → ∃ F', kk r r F2 = some F' ∧ F'.1 = 1) : ∃ F', (sld L xs (nI i + nI 1) fun v1 => sld L xs (nI i + nI 2) fun v2 => sld L xs (nI i + nI 3) fun v3 => sld L xs (nI i + nI 4) fun v4 => sld L xs (nI i + nI 5) fun v5 => bnd (fx v1 v2 v3 v4 v5 F) fun a F1 => sld L xs (nI i + nI 1) fun w1 => sld L xs (nI i + nI 2) fun w2 => sld L xs (nI i + nI 3) fun w3 => sld L xs (nI i + nI 4) fun w4 => sld L xs (nI i + nI 5) fun w5 => bnd (fy w1 w2 w3 w4 w5 F1) fun b F2 => kk a b F2) = some F' ∧ F'.1 = 1 := by
  obtain ⟨r, F1, F2, e1, e2, h⟩ := hM
  rw [sld_ok 1 hL (by omega), sld_ok 2 hL (by omega), sld_ok 3 hL (by omega), sld_ok 4 hL (by omega), sld_ok 5 hL (by omega), e1, bnd_some, sld_ok 1 hL (by omega), sld_ok 2 hL (by omega), sld_ok 3 hL (by omega), sld_ok 4 hL (by omega), sld_ok 5 hL (by omega), e2, bnd_some]
  exact hk r F2 h
end LW
theorem law_L {N L : Nat} {xs : Nat → Int32} (hN : 50000 ≤ N) (hL : L < 2 ^ 30) : ∀ (n i : Nat) (F : FF), i ≤ L → L < i + 6 * n → Inv F → ∃ F', fL_law_L18 N L xs n (nI i) F = some F' ∧ F'.1 = 1 := by
  have hN1 : 1000 ≤ N := by omega
  have hL1 : L < 2 ^ 31 := by omega
  intro n
  induction n with
  | zero => intro i F h1 h2; omega
  | succ n ih =>
    intro i F h1 h2 hI
    rw [fL_law_L18.eq_2]
    by_cases c : nI L - 6 < nI i
    · exact ex_pos c ⟨_, rfl, rfl⟩
    · refine ex_neg c ?_
      rw [Int32.lt_iff_toInt_lt, nI_s6 hL1, nI_toInt (by omega)] at c
      have hi : i + 5 < L := by omega
      have on : ∀ F2, Inv F2 → ∃ F', fL_law_b1504 N L xs (fun x3 F => fL_law_L18 N L xs n x3 F) (nI i) F2 = some F' ∧ F'.1 = 1 := by
        intro F2 h
        unfold fL_law_b1504
        rw [show nI i + 6 = nI (i + 6) from nI_add i 6]
        exact ih (i + 6) F2 (by omega) (by omega) h
      obtain ⟨H, hIP⟩ := id hI
      have hR : RH F H := hIP.1
      have h0 : sld L xs (nI i) = fun k : Int32 → Option (Int32 × FF) => k (xs i) := by
        funext k
        unfold sld
        rw [nI_toInt (by omega), ix_nI (by omega), if_pos (by omega)]
      rw [h0]
      dsimp only
      by_cases c0 : xs i &&& 63 = 0
      · exact ex_pos c0 (lw_1 (fx := fX6_feed N) (fy := fX7_feed N) hL1 hi (m_feed hI) (fun r F2 h => ex_pos rfl (on F2 h)))
      refine ex_neg c0 ?_
      by_cases c1 : xs i &&& 63 = 1
      · exact ex_pos c1 (lw_1 (fx := fX6_end N) (fy := fX7_end N) hL1 hi (m_end hI) (fun r F2 h => ex_pos rfl (on F2 h)))
      refine ex_neg c1 ?_
      by_cases c2 : xs i &&& 63 = 2
      · exact ex_pos c2 (lw_0 (fx := fX6_text N) (fy := fX7_text N) hL1 hi (m_text hN1 hI) (fun r F2 h => ex_pos rfl (on F2 h)))
      refine ex_neg c2 ?_
      by_cases c3 : xs i &&& 63 = 3
      · exact ex_pos c3 (ex_pos hIP.2.2.2.2.2.2.1 (on F hI))
      refine ex_neg c3 ?_
      by_cases c4 : xs i &&& 63 = 4
      · exact ex_pos c4 (lw_1 (fx := fX6_rule N) (fy := fX7_rule N) hL1 hi ((q_rule hN1 hR).M hI) (fun r F2 h => ex_pos rfl (on F2 h)))
      refine ex_neg c4 ?_
      by_cases c5 : xs i &&& 63 = 5
      · exact ex_pos c5 (lw_2 (fx := fX6_shelf N) (fy := fX7_shelf N) hL1 hi ((q_shelf hR).M hI) (fun r F2 h => ex_pos rfl (on F2 h)))
      refine ex_neg c5 ?_
      by_cases c6 : xs i &&& 63 = 6
      · exact ex_pos c6 (lw_2 (fx := fX6_place N) (fy := fX7_place N) hL1 hi ((q_place hN1 hR).M hI) (fun r F2 h => ex_pos rfl (on F2 h)))
      refine ex_neg c6 ?_
      by_cases c7 : xs i &&& 63 = 7
      · exact ex_pos c7 (lw_1 (fx := fX6_want N) (fy := fX7_want N) hL1 hi ((q_want hR).M hI) (fun r F2 h => ex_pos rfl (on F2 h)))
      refine ex_neg c7 ?_
      by_cases c8 : xs i &&& 63 = 8
      · exact ex_pos c8 (lw_2 (fx := fX6_alter N) (fy := fX7_alter N) hL1 hi (m_alter hI) (fun r F2 h => ex_pos rfl (on F2 h)))
      refine ex_neg c8 ?_
      by_cases c9 : xs i &&& 63 = 9
      · exact ex_pos c9 (lw_1 (fx := fX6_put N) (fy := fX7_put N) hL1 hi (m_put hN1 hI) (fun r F2 h => ex_pos rfl (on F2 h)))
      refine ex_neg c9 ?_
      by_cases c10 : xs i &&& 63 = 10
      · exact ex_pos c10 (lw_1 (fx := fX6_cut N) (fy := fX7_cut N) hL1 hi (m_cut hI) (fun r F2 h => ex_pos rfl (on F2 h)))
      refine ex_neg c10 ?_
      by_cases c11 : xs i &&& 63 = 11
      · exact ex_pos c11 (lw_3 (fx := fX6_stand N) (fy := fX7_stand N) hL1 hi (m_stand hN1 hI) (fun r F2 h => ex_pos rfl (on F2 h)))
      refine ex_neg c11 ?_
      by_cases c12 : xs i &&& 63 = 12
      · exact ex_pos c12 (lw_2 (fx := fX6_set N) (fy := fX7_set N) hL1 hi (m_set hI) (fun r F2 h => ex_pos rfl (on F2 h)))
      refine ex_neg c12 ?_
      by_cases c13 : xs i &&& 63 = 13
      · exact ex_pos c13 (lw_1 (fx := fX6_add N) (fy := fX7_add N) hL1 hi (m_add hI) (fun r F2 h => ex_pos rfl (on F2 h)))
      refine ex_neg c13 ?_
      by_cases c14 : xs i &&& 63 = 14
      · exact ex_pos c14 (lw_1 (fx := fX6_drop N) (fy := fX7_drop N) hL1 hi (m_drop hI) (fun r F2 h => ex_pos rfl (on F2 h)))
      refine ex_neg c14 ?_
      by_cases c15 : xs i &&& 63 = 15
      · exact ex_pos c15 (lw_1 (fx := fX6_take N) (fy := fX7_take N) hL1 hi (m_take hN1 hI) (fun r F2 h => ex_pos rfl (on F2 h)))
      refine ex_neg c15 ?_
      by_cases c16 : xs i &&& 63 = 16
      · exact ex_pos c16 (lw_1 (fx := fX6_steps N) (fy := fX7_steps N) hL1 hi (m_steps hN1 hI) (fun r F2 h => ex_pos rfl (on F2 h)))
      refine ex_neg c16 ?_
      by_cases c17 : xs i &&& 63 = 17
      · exact ex_pos c17 (lw_2 (fx := fX6_runs N) (fy := fX7_runs N) hL1 hi ((q_runs hN1 hR).M hI) (fun r F2 h => ex_pos rfl (on F2 h)))
      refine ex_neg c17 ?_
      by_cases c18 : xs i &&& 63 = 18
      · exact ex_pos c18 (lw_2 (fx := fX6_paid N) (fy := fX7_paid N) hL1 hi ((q_paid hN1 hR).M hI) (fun r F2 h => ex_pos rfl (on F2 h)))
      refine ex_neg c18 ?_
      by_cases c19 : xs i &&& 63 = 19
      · exact ex_pos c19 (lw_3 (fx := fX6_ahead N) (fy := fX7_ahead N) hL1 hi ((q_ahead hN1 hR).M hI) (fun r F2 h => ex_pos rfl (on F2 h)))
      refine ex_neg c19 ?_
      by_cases c20 : xs i &&& 63 = 20
      · exact ex_pos c20 (lw_2 (fx := fX6_when N) (fy := fX7_when N) hL1 hi ((q_when hN1 hR).M hI) (fun r F2 h => ex_pos rfl (on F2 h)))
      refine ex_neg c20 ?_
      by_cases c21 : xs i &&& 63 = 21
      · exact ex_pos c21 (lw_0 (fx := fX6_again N) (fy := fX7_again N) hL1 hi ((q_again hN1 hR).M hI) (fun r F2 h => ex_pos rfl (on F2 h)))
      refine ex_neg c21 ?_
      by_cases c22 : xs i &&& 63 = 22
      · exact ex_pos c22 (lw_2 (fx := fX6_order N) (fy := fX7_order N) hL1 hi ((q_order hN hR).M hI) (fun r F2 h => ex_pos rfl (on F2 h)))
      refine ex_neg c22 ?_
      by_cases c23 : xs i &&& 63 = 23
      · exact ex_pos c23 (lw_3 (fx := fX6_kind N) (fy := fX7_kind N) hL1 hi ((q_kind hN1 hR).M hI) (fun r F2 h => ex_pos rfl (on F2 h)))
      refine ex_neg c23 ?_
      by_cases c24 : xs i &&& 63 = 24
      · exact ex_pos c24 (lw_3 (fx := fX6_first N) (fy := fX7_first N) hL1 hi ((q_first hN1 hR).M hI) (fun r F2 h => ex_pos rfl (on F2 h)))
      refine ex_neg c24 ?_
      by_cases c25 : xs i &&& 63 = 25
      · exact ex_pos c25 (lw_2 (fx := fX6_swap N) (fy := fX7_swap N) hL1 hi ((q_swap hN1 hR).M hI) (fun r F2 h => ex_pos rfl (on F2 h)))
      refine ex_neg c25 ?_
      by_cases c26 : xs i &&& 63 = 26
      · exact ex_pos c26 (lw_2 (fx := fX6_lose N) (fy := fX7_lose N) hL1 hi ((q_lose hN1 hR).M hI) (fun r F2 h => ex_pos rfl (on F2 h)))
      refine ex_neg c26 ?_
      by_cases c27 : xs i &&& 63 = 27
      · exact ex_pos c27 (lw_5 (fx := fX6_luck N) (fy := fX7_luck N) hL1 hi ((q_luck hN1 hR).M hI) (fun r F2 h => ex_pos (lg_same r) (on F2 h)))
      refine ex_neg c27 ?_
      by_cases c28 : xs i &&& 63 = 28
      · exact ex_pos c28 (lw_3 (fx := fX6_mean N) (fy := fX7_mean N) hL1 hi ((q_mean hN1 hR).M hI) (fun r F2 h => ex_pos (lg_same r) (on F2 h)))
      refine ex_neg c28 ?_
      by_cases c29 : xs i &&& 63 = 29
      · exact ex_pos c29 (lw_3 (fx := fX6_see N) (fy := fX7_see N) hL1 hi (m_see hI) (fun r F2 h => ex_pos rfl (on F2 h)))
      refine ex_neg c29 ?_
      by_cases c30 : xs i &&& 63 = 30
      · exact ex_pos c30 (lw_1 (fx := fX6_forget N) (fy := fX7_forget N) hL1 hi (m_forget hI) (fun r F2 h => ex_pos rfl (on F2 h)))
      refine ex_neg c30 ?_
      by_cases c31 : xs i &&& 63 = 31
      · exact ex_pos c31 (lw_1 (fx := fX6_kinds N) (fy := fX7_kinds N) hL1 hi ((q_kinds hN1 hI).M hI) (fun r F2 h => ex_pos rfl (on F2 h)))
      refine ex_neg c31 ?_
      by_cases c32 : xs i &&& 63 = 32
      · exact ex_pos c32 (lw_1 (fx := fX6_books N) (fy := fX7_books N) hL1 hi ((q_books hN1 hI).M hI) (fun r F2 h => ex_pos rfl (on F2 h)))
      refine ex_neg c32 ?_
      by_cases c33 : xs i &&& 63 = 33
      · exact ex_pos c33 (lw_2 (fx := fX6_ask N) (fy := fX7_ask N) hL1 hi ((q_ask hN1 hI).M hI) (fun r F2 h => ex_pos rfl (on F2 h)))
      refine ex_neg c33 ?_
      by_cases c34 : xs i &&& 63 = 34
      · exact ex_pos c34 (lw_3 (fx := fX6_drift N) (fy := fX7_drift N) hL1 hi ((q_drift hN1 hR).M hI) (fun r F2 h => ex_pos rfl (on F2 h)))
      refine ex_neg c34 ?_
      by_cases c35 : xs i &&& 63 = 35
      · exact ex_pos c35 (lw_1 (fx := fX6_keep N) (fy := fX7_keep N) hL1 hi (m_keep hN1 hI) (fun r F2 h => ex_pos rfl (on F2 h)))
      refine ex_neg c35 ?_
      by_cases c36 : xs i &&& 63 = 36
      · exact ex_pos c36 (lw_1 (fx := fX6_back N) (fy := fX7_back N) hL1 hi (m_back hN1 hI) (fun r F2 h => ex_pos rfl (on F2 h)))
      refine ex_neg c36 ?_
      by_cases c37 : xs i &&& 63 = 37
      · exact ex_pos c37 (lw_3 (fx := fX6_sheet N) (fy := fX7_sheet N) hL1 hi (m_sheet hN1 hI) (fun r F2 h => ex_pos rfl (on F2 h)))
      refine ex_neg c37 ?_
      by_cases c38 : xs i &&& 63 = 38
      · exact ex_pos c38 (lw_3 (fx := fX6_lay N) (fy := fX7_lay N) hL1 hi (m_lay hI) (fun r F2 h => ex_pos rfl (on F2 h)))
      refine ex_neg c38 ?_
      by_cases c39 : xs i &&& 63 = 39
      · exact ex_pos c39 (lw_4 (fx := fX6_read N) (fy := fX7_read N) hL1 hi (m_read hN1 hI) (fun r F2 h => ex_pos rfl (on F2 h)))
      refine ex_neg c39 ?_
      by_cases c40 : xs i &&& 63 = 40
      · exact ex_pos c40 (ex_pos hIP.2.2.2.2.2.2.2 (on F hI))
      refine ex_neg c40 ?_
      by_cases c41 : xs i &&& 63 = 41
      · exact ex_pos c41 (lw_1 (fx := fX6_count N) (fy := fX7_count N) hL1 hi ((q_count hN1 hI).M hI) (fun r F2 h => ex_pos rfl (on F2 h)))
      refine ex_neg c41 ?_
      exact on F hI
theorem law_ok {L : Nat} {xs : Nat → Int32} {F : FF} (hL : L ≤ 3072) (hI : Inv F) : ∃ F', fL_law 50000 L xs F = some (1, F') := by
  obtain ⟨⟨r, F'⟩, e, hr⟩ := law_L (N := 50000) (L := L) (xs := xs) (Nat.le_refl _) (by omega) 50000 0 F (by omega) (by omega) hI
  replace hr : r = 1 := hr
  subst hr
  exact ⟨F', e⟩
