/-! QUESTIONS: what there is, more -/
theorem off_range {x : Int32} (c n : Nat) (hc : c + n < 2 ^ 31) : (∃ j, j < n ∧ x = nI (c + j)) ∨ (¬ ((c : Int) ≤ x.toInt ∧ x.toInt < (c : Int) + n) ∧ ¬ (0 ≤ (x - nI c).toInt ∧ (x - nI c).toInt < (n : Int))) := by
  by_cases h : (c : Int) ≤ x.toInt ∧ x.toInt < (c : Int) + n
  · obtain ⟨j, hj, e⟩ := of_range (x := x) (n := c + n) (by omega) (by omega)
    refine Or.inl ⟨j - c, ?_, ?_⟩
    · rw [e, nI_toInt (by omega)] at h; omega
    · rw [e, nI_toInt (by omega)] at h
      rw [e]; congr 1; omega
  · refine Or.inr ⟨h, fun h2 => h ?_⟩
    obtain ⟨j, hj, e⟩ := of_range (x := x - nI c) (n := n) h2.1 h2.2
    have : x = nI (c + j) := by
      have h3 : x - nI c + nI c = x := Int32.sub_add_cancel x (nI c)
      rw [← h3, e, nI_add]
      congr 1
      omega
    rw [this, nI_toInt (by omega)]
    omega
theorem x_win {x : Int32} {F : FF} (c nb : Nat) (hnb : 1 ≤ nb) (hc : c + nb < 2 ^ 31) : pX6_within x (nI c) (nI (c + nb - 1)) F = bI (decide ((c : Int) ≤ x.toInt ∧ x.toInt < (c : Int) + nb)) := by
  rw [x_in, nI_toInt (by omega), nI_toInt (by omega)]
  congr 1
  congr 1
  simp only [eq_iff_iff]
  omega
theorem q_fault {N : Nat} {F : FF} (h : F 33 2 = F 82 8) : QOK (fX6_fault N) (fX7_fault N) F := QOK.eq (r := F 33 2) rfl (by rw [h]; rfl)
theorem q_torn {N : Nat} {F : FF} (h : F 0 11 = F 82 28) : QOK (fX6_torn N) (fX7_torn N) F := QOK.eq (r := F 0 11) rfl (by rw [h]; rfl)
theorem RH.q {F : FF} {H : Hs} (h : RH F H) {s : Nat} (hs : s < H.1.2.1) : F 83 s = nI (H.2.1 s).1.1 ∧ F 83 (4 + s) = nI (H.2.1 s).1.2 ∧ (∀ p, p < 6 → F 83 (27 + 6 * s + p) = nI ((H.2.1 s).2.1 p)) ∧ ∀ p, p < 6 → F 83 (51 + 6 * s + p) = nI ((H.2.1 s).2.2 p) := by
  have := h.2.1.2.2 s hs
  unfold QR at this
  simp only [Nat.zero_add] at this
  exact this
theorem RH.w {F : FF} {H : Hs} (h : RH F H) {i : Nat} (hi : i < H.1.2.2.1) : ∃ b, H.2.2 i = some b ∧ b < H.1.1 ∧ F 3 i = nI b ∧ F 83 (9 + i) = nI b := by
  obtain ⟨b, hb⟩ := h.2.2.2.1 i hi
  refine ⟨b, hb, h.2.2.1.2.2.2.2.1 i hi b hb, ?_, ?_⟩
  · have := h.1.2.1 i hi
    rw [hb] at this
    exact this
  · have := h.2.1.2.1 i hi
    rw [hb] at this
    have := this.1
    rw [Nat.zero_add] at this
    exact this
theorem q_want {N : Nat} {l1 : Int32} {F : FF} {H : Hs} (h : RH F H) : QOK (fX6_want N l1) (fX7_want N l1) F := by
  unfold QOK fX6_want fX7_want
  rw [h.xW]
  rcases guard (x := l1) H.1.2.2.1 with ⟨j, hj, rfl⟩ | hg
  · have hnw := h.nw
    obtain ⟨b, -, -, e1, e2⟩ := h.w hj
    refine ⟨nI b, F, F, ?_, ?_, KX.rf, KY.rf⟩
    · rw [bI_nI hj (by omega), if_neg n10, ld_ok a3 (by omega), e1]
    · rw [h.yW, bnd_some, bI_nI hj (by omega), if_neg n10, show 9 + nI j = nI (9 + j) from nI_add 9 j, ld_ok a83 (by omega), e2]
  · refine ⟨-1, F, F, ?_, ?_, KX.rf, KY.rf⟩
    · rw [bI_f hg, if_pos rfl]
    · rw [h.yW, bnd_some, bI_f hg, if_pos rfl]
theorem q_place {N : Nat} {l1 l2 : Int32} {F : FF} {H : Hs} (hN : 1000 ≤ N) (h : RH F H) : QOK (fX6_place N l1 l2) (fX7_place N l1 l2) F := by
  unfold QOK fX6_place fX7_place
  have hns := h.ns
  have hnb := h.nb
  rw [h.xS, h.xB]
  rcases guard (x := l1) H.1.2.1 with ⟨s, hs, rfl⟩ | hg
  · rcases guard (x := l2) H.1.1 with ⟨b, hb, rfl⟩ | hg2
    · have hS := isS_of iH1 (show s < 4 by omega)
      have hWS := h.2.2.1.2.2.2.2.2 s hs
      refine ⟨nI (plc (H.2.1 s).2.1 b), F, F, ?_, ?_, KX.rf, KY.rf⟩
      · rw [bI_nI hs (by omega), if_neg n10, bI_nI hb (by omega), if_neg n10, ldR_H iH1 (show s < 4 by omega), x_find hN hS (h.1.2.2 s hs) hWS.2.1 (by omega), cal_some (okC_S hS)]
      · rw [h.yS, bnd_some, bI_nI hs (by omega), if_neg n10, h.yB, bnd_some, bI_nI hb (by omega), if_neg n10, show (0 : Int32) = nI 0 from rfl, y_place hN (by omega) (by omega) h.2.1.1.1 (h.2.1.2.2 s hs).2.2.1 hWS hnb.2 hb, bnd_some]
    · refine ⟨-1, F, F, ?_, ?_, KX.rf, KY.rf⟩
      · rw [bI_nI hs (by omega), if_neg n10, bI_f hg2, if_pos rfl]
      · rw [h.yS, bnd_some, bI_nI hs (by omega), if_neg n10, h.yB, bnd_some, bI_f hg2, if_pos rfl]
  · refine ⟨-1, F, F, ?_, ?_, KX.rf, KY.rf⟩
    · rw [bI_f hg, if_pos rfl]
    · rw [h.yS, bnd_some, bI_f hg, if_pos rfl]
theorem q_shelf {N : Nat} {l1 l2 : Int32} {F : FF} {H : Hs} (h : RH F H) : QOK (fX6_shelf N l1 l2) (fX7_shelf N l1 l2) F := by
  unfold QOK fX6_shelf fX7_shelf
  have hns := h.ns
  have hnb := h.nb
  rw [h.xS]
  rcases guard (x := l1) H.1.2.1 with ⟨s, hs, rfl⟩ | hg
  · have hS := isS_of iH1 (show s < 4 by omega)
    obtain ⟨q1, q2, q3, q4⟩ := h.q hs
    obtain ⟨r1, r2, r3, r4⟩ := h.1.2.2 s hs
    rw [bI_nI hs (by omega), if_pos n10, ldR_H iH1 (show s < 4 by omega)]
    by_cases c0 : l2 = 0
    · subst c0
      refine ⟨nI (H.2.1 s).1.1, F, F, ?_, ?_, KX.rf, KY.rf⟩
      · rw [if_neg (by decide), gI_S0 hS, r1]
      · rw [h.yS, bnd_some, bI_nI hs (by omega), if_pos n10, if_pos rfl, fX7_shelf_b19, show (4 : Int32) * 0 + nI s = nI s by rw [show (4 : Int32) * 0 = nI 0 from rfl, nI_add, Nat.zero_add], ld_ok a83 (by omega), q1]
    · by_cases c1 : l2 = 1
      · subst c1
        refine ⟨nI (H.2.1 s).1.2, F, F, ?_, ?_, KX.rf, KY.rf⟩
        · rw [if_pos c0, if_neg (by decide), gI_S1 hS, r2]
        · rw [h.yS, bnd_some, bI_nI hs (by omega), if_pos n10, if_neg c0, if_neg (by decide), fX7_shelf_b19, show (4 : Int32) * 1 + nI s = nI (4 + s) from nI_add 4 s, ld_ok a83 (by omega), q2]
      · have e10 : (10 : Int32) + F 1 0 - 1 = nI (10 + H.1.1 - 1) := by rw [h.1.1.1, show (10 : Int32) + nI H.1.1 = nI (10 + H.1.1) from nI_add 10 _]; exact nI_sub (b := 1) (by omega)
        have e20 : (20 : Int32) + F 1 0 - 1 = nI (20 + H.1.1 - 1) := by rw [h.1.1.1, show (20 : Int32) + nI H.1.1 = nI (20 + H.1.1) from nI_add 20 _]; exact nI_sub (b := 1) (by omega)
        rw [e10, e20, show (10 : Int32) = nI 10 from rfl, show (20 : Int32) = nI 20 from rfl, x_win 10 H.1.1 hnb.1 (by omega), x_win 20 H.1.1 hnb.1 (by omega), if_pos c0, if_pos c1]
        rcases off_range (x := l2) 10 H.1.1 (by omega) with ⟨p, hp, rfl⟩ | ⟨g1, g2⟩
        · refine ⟨nI ((H.2.1 s).2.1 p), F, F, ?_, ?_, KX.rf, KY.rf⟩
          · rw [bI_t (by rw [nI_toInt (by omega)]; omega), if_neg n10, gR_S2 hS, nI_sub (by omega), show 10 + p - 10 = p by omega, ld_ok (aS1 hS) (by omega), r3 p (by omega)]
          · rw [h.yS, bnd_some, bI_nI hs (by omega), if_pos n10, if_neg c0, if_pos c1, nI_sub (by omega), show 10 + p - 10 = p by omega, h.yB, bnd_some, bI_nI hp (by omega), if_neg n10, show (27 : Int32) + 6 * nI s + nI (10 + p) - nI 10 = nI (27 + 6 * s + p) by
              rw [show 6 * nI s = nI (6 * s) from nI_mul 6 s, show 27 + nI (6 * s) = nI (27 + 6 * s) from nI_add 27 _, nI_add, nI_sub (by omega)]
              congr 1
              omega, ld_ok a83 (by omega), q3 p (by omega)]
        · rw [bI_f g1, if_pos rfl]
          rcases off_range (x := l2) 20 H.1.1 (by omega) with ⟨p, hp, rfl⟩ | ⟨g3, g4⟩
          · refine ⟨nI ((H.2.1 s).2.2 p), F, F, ?_, ?_, KX.rf, KY.rf⟩
            · rw [bI_t (by rw [nI_toInt (by omega)]; omega), if_neg n10, gR_S3 hS, nI_sub (by omega), show 20 + p - 20 = p by omega, ld_ok (aS2 hS) (by omega), r4 p (by omega)]
            · rw [h.yS, bnd_some, bI_nI hs (by omega), if_pos n10, if_neg c0, if_pos c1, h.yB, bnd_some, bI_f g2, if_pos rfl, nI_sub (show 20 ≤ 20 + p by omega), show 20 + p - 20 = p by omega, h.yB, bnd_some, bI_nI hp (by omega), if_neg n10, show (51 : Int32) + 6 * nI s + nI (20 + p) - nI 20 = nI (51 + 6 * s + p) by
                rw [show 6 * nI s = nI (6 * s) from nI_mul 6 s, show 51 + nI (6 * s) = nI (51 + 6 * s) from nI_add 51 _, nI_add, nI_sub (by omega)]
                congr 1
                omega, ld_ok a83 (by omega), q4 p (by omega)]
          · refine ⟨-1, F, F, ?_, ?_, KX.rf, KY.rf⟩
            · rw [bI_f g3, if_pos rfl]
            · rw [h.yS, bnd_some, bI_nI hs (by omega), if_pos n10, if_neg c0, if_pos c1, h.yB, bnd_some, bI_f g2, if_pos rfl, h.yB, bnd_some, bI_f g4, if_pos rfl]
  · refine ⟨-1, F, F, ?_, ?_, KX.rf, KY.rf⟩
    · rw [bI_f hg, if_neg (by decide)]
    · rw [h.yS, bnd_some, bI_f hg, if_neg (by decide)]
/-! count -/
theorem y_count_L40 {N : Nat} {l1 l2 : Int32} {F : FF} {H : Hs} (h : RH F H) : ∀ (m i n : Nat), i + m = H.1.2.2.1 → m < n → fX7_count_L40 N l1 l2 n (nI (sumTo (fun i => oN (H.2.2 i)) i)) (nI i) F = some (if l1 = 0 then F 82 22 else if l1 = 1 then (if F 91 0 = 0 then (0 : Int32) else 1) + (if F 91 1 = 0 then (0 : Int32) else 1) else if l1 = 2 then F 82 7 else if l1 = 3 then (if ¬ F 92 0 = -4 then F 93 0 else -4) else if l1 = 4 then l2 else if l1 = 5 then nI (sumTo (fun i => oN (H.2.2 i)) H.1.2.2.1) else -1, F) := by
  have hnw := h.nw
  have a3' : F 83 25 = nI H.1.2.2.1 := h.2.1.1.2.2.1
  intro m
  induction m with
  | zero =>
    intro i n hi hn
    obtain ⟨n, rfl⟩ : ∃ k, n = k + 1 := ⟨n - 1, by omega⟩
    have : i = H.1.2.2.1 := by omega
    subst this
    rw [fX7_count_L40.eq_2, a3', if_pos (by simp (disch := omega) only [nI_leI]; omega)]
    by_cases c0 : l1 = 0
    · rw [if_pos c0, if_pos c0]
    rw [if_neg c0, if_neg c0]
    by_cases c1 : l1 = 1
    · rw [if_pos c1, if_pos c1]
    rw [if_neg c1, if_neg c1]
    by_cases c2 : l1 = 2
    · rw [if_pos c2, if_pos c2]
    rw [if_neg c2, if_neg c2]
    by_cases c3 : l1 = 3
    · rw [if_pos c3, if_pos c3]
    rw [if_neg c3, if_neg c3]
    by_cases c4 : l1 = 4
    · rw [if_pos c4, if_pos c4]
    rw [if_neg c4, if_neg c4]
    by_cases c5 : l1 = 5
    · rw [if_pos c5, if_pos c5]
    rw [if_neg c5, if_neg c5]
  | succ m ih =>
    intro i n hi hn
    obtain ⟨n, rfl⟩ : ∃ k, n = k + 1 := ⟨n - 1, by omega⟩
    obtain ⟨b, hb, -, -, e2⟩ := h.w (show i < H.1.2.2.1 by omega)
    rw [fX7_count_L40.eq_2, a3', if_neg (by simp (disch := omega) only [nI_leI]; omega), show 9 + nI i = nI (9 + i) from nI_add 9 i, ld_ok a83 (by omega), e2, show nI b = nI (oN (H.2.2 i)) by rw [hb]; rfl, nI_add, show nI i + 1 = nI (i + 1) from nI_1 i]
    exact ih (i + 1) n (by omega) (by omega)
theorem y_count_L7 {N : Nat} {l1 : Int32} {F : FF} {H : Hs} (hN : 1000 ≤ N) (h : RH F H) : ∀ (m i n : Nat), i + m = H.1.2.1 → m < n → fX7_count_L7 N l1 0 n (nI (sumTo (fun s => (H.2.1 s).1.2) i)) (nI i) F = some (if l1 = 0 then F 82 22 else if l1 = 1 then (if F 91 0 = 0 then (0 : Int32) else 1) + (if F 91 1 = 0 then (0 : Int32) else 1) else if l1 = 2 then F 82 7 else if l1 = 3 then (if ¬ F 92 0 = -4 then F 93 0 else -4) else if l1 = 4 then nI (sumTo (fun s => (H.2.1 s).1.2) H.1.2.1) else if l1 = 5 then nI (sumTo (fun i => oN (H.2.2 i)) H.1.2.2.1) else -1, F) := by
  have hns := h.ns
  have hnw := h.nw
  have a2' : F 83 8 = nI H.1.2.1 := h.2.1.1.2.1
  intro m
  induction m with
  | zero =>
    intro i n hi hn
    obtain ⟨n, rfl⟩ : ∃ k, n = k + 1 := ⟨n - 1, by omega⟩
    have : i = H.1.2.1 := by omega
    subst this
    rw [fX7_count_L7.eq_2, a2', if_pos (by simp (disch := omega) only [nI_leI]; omega)]
    exact y_count_L40 h H.1.2.2.1 0 N (by omega) (by omega)
  | succ m ih =>
    intro i n hi hn
    obtain ⟨n, rfl⟩ : ∃ k, n = k + 1 := ⟨n - 1, by omega⟩
    rw [fX7_count_L7.eq_2, a2', if_neg (by simp (disch := omega) only [nI_leI]; omega), show 4 + nI i = nI (4 + i) from nI_add 4 i, ld_ok a83 (by omega), (h.q (show i < H.1.2.1 by omega)).2.1, nI_add, show nI i + 1 = nI (i + 1) from nI_1 i]
    exact ih (i + 1) n (by omega) (by omega)
theorem x_kept {N : Nat} {F : FF} (hN : 1000 ≤ N) : fX6_imagesKept N F = some ((if F 32 0 = 0 then (0 : Int32) else 1) + (if F 32 1 = 0 then (0 : Int32) else 1), F) := by
  obtain ⟨n, rfl⟩ : ∃ k, N = k + 1 + 1 + 1 := ⟨N - 3, by omega⟩
  unfold fX6_imagesKept
  rw [fX6_imagesKept_L4.eq_2, if_neg (by decide), show (0 : Int32) = nI 0 from rfl, ld_ok a32 (by omega), fX6_imagesKept_L4.eq_2, if_neg (by decide), show nI 0 + 1 = nI 1 from rfl, ld_ok a32 (by omega), fX6_imagesKept_L4.eq_2, if_pos (by decide)]
  congr 2
  rw [show nI 0 = (0 : Int32) from rfl, Int32.zero_add]
theorem q_count {N : Nat} {l1 : Int32} {F : FF} (hN : 1000 ≤ N) (hI : Inv F) : QOK (fX6_count N l1) (fX7_count N l1) F := by
  obtain ⟨H, h, hIm, hT, hS, hK, -⟩ := hI
  have hy : fX7_count N l1 F = _ := y_count_L7 (l1 := l1) hN h H.1.2.1 0 N (by omega) (by have := h.ns; omega)
  have hx : fX6_count N l1 F = some (if l1 = 0 then F 82 22 else if l1 = 1 then (if F 91 0 = 0 then (0 : Int32) else 1) + (if F 91 1 = 0 then (0 : Int32) else 1) else if l1 = 2 then F 82 7 else if l1 = 3 then (if ¬ F 92 0 = -4 then F 93 0 else -4) else if l1 = 4 then nI (sumTo (fun s => (H.2.1 s).1.2) H.1.2.1) else if l1 = 5 then nI (sumTo (fun i => oN (H.2.2 i)) H.1.2.2.1) else -1, F) := by
    unfold fX6_count
    by_cases c0 : l1 = 0
    · rw [if_pos c0, if_pos c0]
      obtain ⟨n, e, -, e1, e2, -⟩ := hS
      rw [e1, e2]
    rw [if_neg c0, if_neg c0]
    by_cases c1 : l1 = 1
    · rw [if_pos c1, if_pos c1, x_kept hN, bnd_some]
      have ek : ∀ k, k < 2 → F 32 k = F 91 k := fun k hk => by
        rcases hIm k hk with e | e
        · rw [e.1, e.2]
        · rw [e.1, e.2.1]
      rw [ek 0 (by omega), ek 1 (by omega)]
    rw [if_neg c1, if_neg c1]
    by_cases c2 : l1 = 2
    · rw [if_pos c2, if_pos c2]
      obtain ⟨n, e, -, e1, e2, -⟩ := hT
      rw [e1, e2]
    rw [if_neg c2, if_neg c2]
    by_cases c3 : l1 = 3
    · rw [if_pos c3, if_pos c3]
      rcases (hK 0 (by omega)).1 with ⟨e1, e2⟩ | ⟨l, n, hl, hn, e1, e2, e3, e4⟩
      · have e1 : F 74 0 = -1 := e1
        rw [e1, e2]
        rfl
      · have e1 : F 74 0 = nI l := e1
        have e3 : F 74 1 = nI n := e3
        rw [e1, e2, e3, e4, if_pos (ne_m4 (by omega))]
        have : ¬ nI l = -1 := nI_neg_ne (k := 1) (by omega) (by omega) (by omega)
        first
          | rw [if_neg this]
          | rw [if_pos this]
    rw [if_neg c3, if_neg c3]
    by_cases c4 : l1 = 4
    · rw [if_pos c4, if_pos c4, x_costs hN iH1 h.2.2.1 h.1, bnd_some]
    rw [if_neg c4, if_neg c4]
    by_cases c5 : l1 = 5
    · rw [if_pos c5, if_pos c5, x_wsum hN iH1 h.2.2.1 h.2.2.2.1 h.1, bnd_some]
    rw [if_neg c5, if_neg c5]
  exact QOK.eq hx hy
