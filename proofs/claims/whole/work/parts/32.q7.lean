/-! QUESTIONS: two wants that change places; by a seed -/
def swH (H : Hs) (i j : Nat) : Hs := setW (setW H i (H.2.2 j)) j (H.2.2 i)
theorem swH_same {H : Hs} {i j : Nat} (h : H.2.2 i = H.2.2 j) : swH H i j = H := by
  unfold swH setW
  show (H.1, H.2.1, _) = H
  have : (fun k => if k = j then H.2.2 i else if k = i then H.2.2 j else H.2.2 k) = H.2.2 := by
    funext k
    by_cases c1 : k = j
    · rw [if_pos c1, h, c1]
    · rw [if_neg c1]
      by_cases c2 : k = i
      · rw [if_pos c2, ← h, c2]
      · rw [if_neg c2]
  show (H.1, H.2.1, fun k => if k = j then H.2.2 i else if k = i then H.2.2 j else H.2.2 k) = H
  rw [this]
def swI (H : Hs) (nn i : Nat) : Nat → Nat → Option Nat × Nat → Option Nat × Nat
  | 0, _, p => p
  | m + 1, j, p => swI H nn i m (j + 1) (off p (100 * i + j) (totP (swH H i j) nn))
def swO (H : Hs) (nn : Nat) : Nat → Nat → Option Nat × Nat → Option Nat × Nat
  | 0, _, p => p
  | m + 1, i, p => swO H nn m (i + 1) (swI H nn i (H.1.2.2.1 - (i + 1)) (i + 1) p)
def okP (H : Hs) (nn : Nat) (p : Option Nat × Nat) : Prop := p.2 ≤ totP H nn ∧ ∀ k, p.1 = some k → k < 3000
theorem okP_off {H : Hs} {nn k v : Nat} {p : Option Nat × Nat} (h : okP H nn p) (hk : k < 3000) : okP H nn (off p k v) := by
  unfold off
  by_cases e : v < p.2
  · rw [if_pos e]
    exact ⟨by have := h.1; show v ≤ _; omega, fun j hj => by cases hj; exact hk⟩
  · rw [if_neg e]; exact h
theorem okP_swI {H : Hs} {nn i : Nat} (hi : i < 16) : ∀ (m j : Nat) (p : Option Nat × Nat), j + m ≤ 16 → okP H nn p → okP H nn (swI H nn i m j p)
  | 0, _, _, _, h => h
  | m + 1, j, p, hj, h => okP_swI hi m (j + 1) _ (by omega) (okP_off h (by omega))
theorem wh_sw {H : Hs} {i j : Nat} (hW : WH H) (hi : i < H.1.2.2.1) (hj : j < H.1.2.2.1) : WH (swH H i j) := (hW.setW (fun b e => hW.2.2.2.2.1 j hj b e)).setW (fun b e => hW.2.2.2.2.1 i hi b e)
theorem x_swap_in {N nn i : Nat} {l2 : Int32} {H : Hs} {k29 : Int32 → FF → Option (Int32 × FF)} (hN : 1000 ≤ N) (hn : nn ≤ 200) (hi : i < H.1.2.2.1) : ∀ (m j n : Nat) (F : FF) (p : Option Nat × Nat), j + m = H.1.2.2.1 → i < j → m < n → RH F H → okP H nn p → LE F p → ∃ F1, fX6_swap_L45 N k29 (nI nn) l2 (nI i) n (nI j) F = k29 (nI (i + 1)) F1 ∧ LE F1 (swI H nn i m j p) ∧ KX F F1 := by
  intro m
  induction m with
  | zero =>
    intro j n F p hj hij hlt h hp hL
    obtain ⟨n, rfl⟩ : ∃ k, n = k + 1 := ⟨n - 1, by omega⟩
    have hnw := h.nw
    rw [fX6_swap_L45.eq_2, h.1.1.2.2.1, if_pos (by simp (disch := omega) only [nI_leI]; omega), show nI i + 1 = nI (i + 1) from nI_1 i]
    exact ⟨F, rfl, hL, KX.rf⟩
  | succ m ih =>
    intro j n F p hj hij hlt h hp hL
    obtain ⟨n, rfl⟩ : ∃ k, n = k + 1 := ⟨n - 1, by omega⟩
    have hnw := h.nw
    have hnb := h.nb
    obtain ⟨bi, bi1, bi2, bi3, -⟩ := h.w hi
    obtain ⟨bj, bj1, bj2, bj3, -⟩ := h.w (show j < H.1.2.2.1 by omega)
    have ht := totP_le (n := nn) h.2.2.1
    have hp1 := hp.1
    rw [fX6_swap_L45.eq_2, h.1.1.2.2.1, if_neg (by simp (disch := omega) only [nI_leI]; omega), ld_ok a3 (by omega), ld_ok a3 (by omega), bi3, bj3]
    by_cases c : bi = bj
    · have hsame : swH H i j = H := swH_same (by rw [bi1, bj1, c])
      have hoff : off p (100 * i + j) (totP (swH H i j) nn) = p := by
        rw [hsame]
        exact if_neg (by omega)
      rw [if_pos (by rw [c]), fX6_swap_b132, show nI j + 1 = nI (j + 1) from nI_1 j]
      obtain ⟨F1, z1, z2, z3⟩ := ih (j + 1) n F p (by omega) (by omega) (by omega) h hp hL
      refine ⟨F1, z1, ?_, z3⟩
      rw [swI, hoff]
      exact z2
    · obtain ⟨F1, e1, e2, e3, e4⟩ := x_trial hN h
      have f1 : F1 18 i = nI bi := by have := e2.2.1 i hi; rw [bi1] at this; exact this
      have f2 : F1 18 j = nI bj := by have := e2.2.1 j (by omega); rw [bj1] at this; exact this
      have hk1 := HR.setW (i := i) (o := some bj) e2
      have hk2 := HR.setW (i := j) (o := some bi) hk1.1
      have hs2 : setW (setW H i (some bj)) j (some bi) = swH H i j := by unfold swH; rw [bi1, bj1]
      rw [hs2] at hk2
      have hex : fX6_exchange N 18 (nI i) (nI j) F1 = some ((), fput (fput F1 (16 + 2) i (wI (some bj))) (16 + 2) j (wI (some bi))) := by
        unfold fX6_exchange
        rw [ld_ok a18 (by omega), ld_ok a18 (by omega), st_ok a18 (by omega), st_ok a18 (by omega), f1, f2]
        rfl
      have hFr := hk1.2.tr hk2.2
      generalize fput (fput F1 (16 + 2) i (wI (some bj))) (16 + 2) j (wI (some bi)) = F2 at hk2 hex hFr
      have h40 : F2 40 = F 40 := by rw [hFr 40 (by omega), e4 40 (by omega)]
      obtain ⟨F3, v, g1, g2, g3, g4, g5⟩ := x_paidByAll (N := N) (nn := nn) (L := p.2) hN iH16 hk2.1 (wh_sw h.2.2.1 hi (by omega)) hn (by omega)
      obtain ⟨F4, k1, k2, k3⟩ := x_off (N := N) (i := 100 * i + j) (F := F3) (t := totP (swH H i j) nn) (by unfold LE; rw [g5 40 (by omega), h40]; exact hL) (by omega) (by omega) g3 g4
      have hK : KX F F4 := ((e3.tr hFr.X).tr g5.X).tr (K40 k3)
      obtain ⟨F5, z1, z2, z3⟩ := ih (j + 1) n F4 _ (by omega) (by omega) (by omega) (h.X hK) (okP_off hp (k := 100 * i + j) (v := totP (swH H i j) nn) (by omega)) k2
      refine ⟨F5, ?_, z2, hK.tr z3⟩
      rw [if_neg (by simp (disch := omega) only [nI_eq]; exact c), e1, bnd_some, hex, bnd_some, show F2 40 1 = nI p.2 by rw [h40]; exact hL.2, g1, bnd_some, show (100 : Int32) * nI i + nI j = nI (100 * i + j) by rw [show (100 : Int32) * nI i = nI (100 * i) from nI_mul 100 i, nI_add], k1, bnd_some, fX6_swap_b132, show nI j + 1 = nI (j + 1) from nI_1 j]
      exact z1
theorem x_swap_L {N nn : Nat} {l2 : Int32} {H : Hs} (hN : 1000 ≤ N) (hn : nn ≤ 200) : ∀ (m i n : Nat) (F : FF) (p : Option Nat × Nat), i + m = H.1.2.2.1 → m < n → RH F H → okP H nn p → LE F p → ∃ F1, fX6_swap_L29 N (nI nn) l2 n (nI i) F = some (ansV (swO H nn m i p) l2, F1) ∧ KX F F1 := by
  intro m
  induction m with
  | zero =>
    intro i n F p hi hlt h hp hL
    obtain ⟨n, rfl⟩ : ∃ k, n = k + 1 := ⟨n - 1, by omega⟩
    have hnw := h.nw
    rw [fX6_swap_L29.eq_2, h.1.1.2.2.1, if_pos (by simp (disch := omega) only [nI_leI]; omega), x_answer hL (fun k hk => by have := hp.2 k hk; omega)]
    exact ⟨F, rfl, KX.rf⟩
  | succ m ih =>
    intro i n F p hi hlt h hp hL
    obtain ⟨n, rfl⟩ : ∃ k, n = k + 1 := ⟨n - 1, by omega⟩
    have hnw := h.nw
    obtain ⟨F1, e1, e2, e3⟩ := x_swap_in (N := N) (nn := nn) (i := i) (l2 := l2) (k29 := fun x3 F => fX6_swap_L29 N (nI nn) l2 n x3 F) hN hn (by omega) (H.1.2.2.1 - (i + 1)) (i + 1) N F p (by omega) (by omega) (by omega) h hp hL
    obtain ⟨F2, z1, z2⟩ := ih (i + 1) n F1 _ (by omega) (by omega) (h.X e3) (okP_swI (by omega) _ _ _ (by omega) hp) e2
    refine ⟨F2, ?_, e3.tr z2⟩
    rw [fX6_swap_L29.eq_2, h.1.1.2.2.1, if_neg (by simp (disch := omega) only [nI_leI]; omega), show nI i + 1 = nI (i + 1) from nI_1 i, e1]
    exact z1
theorem PR.setW {pg i b : Nat} {F : FF} {H : Hs} (hR : PR pg F H) (hW : WH H) (hl : F 82 20 = -4) (hi : i < 16) : PR pg (fput F 83 (pg + 9 + i) (nI b)) (setW H i (some b)) := by
  obtain ⟨⟨a1, a2, a3, a4⟩, a5, a6⟩ := hR
  obtain ⟨w1, w2, w3, w4, w5, w6⟩ := hW
  have e83 : ∀ k, k ≠ pg + 9 + i → fput F 83 (pg + 9 + i) (nI b) 83 k = F 83 k := fun k hk => by rw [fpu, if_neg (by omega)]
  have e82 : fput F 83 (pg + 9 + i) (nI b) 82 = F 82 := fput_a (by omega)
  refine ⟨⟨by rw [e82]; exact a1, by rw [e83 _ (by omega)]; exact a2, by rw [e83 _ (by omega)]; exact a3, by rw [e83 _ (by omega)]; exact a4⟩, fun j hj => ?_, fun s hs => ?_⟩
  · have hj : j < H.1.2.2.1 := hj
    show wQ pg _ j (if j = i then some b else H.2.2 j)
    by_cases c : j = i
    · rw [if_pos c, c]
      refine ⟨by rw [fpu, if_pos ⟨rfl, rfl⟩], ?_⟩
      rw [e82, hl]
      exact fun h => ne_m4 (a := i) (by omega) h.symm
    · rw [if_neg c]
      exact (a5 j hj).same (e83 _ (by omega)) (by rw [e82])
  · have hs : s < H.1.2.1 := hs
    exact (a6 s hs).same (e83 _ (by omega)) (e83 _ (by omega)) (fun p hp => e83 _ (by omega)) (fun p hp => e83 _ (by omega))
theorem y_swap_in {N nn i : Nat} {l2 : Int32} {H : Hs} {k38 : Int32 → Int32 → Int32 → FF → Option (Int32 × FF)} (hN : 1000 ≤ N) (hn : nn ≤ 200) (hi : i < H.1.2.2.1) : ∀ (m j n : Nat) (F : FF) (p : Option Nat × Nat), j + m = H.1.2.2.1 → i < j → m < n → RH F H → okP H nn p → ∃ F1, fX7_swap_L56 N k38 (nI nn) l2 (nI i) n (nI p.2) (oI p.1) (nI j) F = k38 (nI (swI H nn i m j p).2) (oI (swI H nn i m j p).1) (nI (i + 1)) F1 ∧ KY F F1 := by
  intro m
  induction m with
  | zero =>
    intro j n F p hj hij hlt h hp
    obtain ⟨n, rfl⟩ : ∃ k, n = k + 1 := ⟨n - 1, by omega⟩
    have hnw := h.nw
    rw [fX7_swap_L56.eq_2, show F 83 25 = nI H.1.2.2.1 from h.2.1.1.2.2.1, if_pos (by simp (disch := omega) only [nI_leI]; omega), show nI i + 1 = nI (i + 1) from nI_1 i]
    exact ⟨F, rfl, KY.rf⟩
  | succ m ih =>
    intro j n F p hj hij hlt h hp
    obtain ⟨n, rfl⟩ : ∃ k, n = k + 1 := ⟨n - 1, by omega⟩
    have hnw := h.nw
    have ht := totP_le (n := nn) h.2.2.1
    have hp1 := hp.1
    have hWs := wh_sw h.2.2.1 hi (show j < H.1.2.2.1 by omega)
    have ht2 := totP_le (n := nn) hWs
    obtain ⟨bi, bi1, bi2, -, bi4⟩ := h.w hi
    obtain ⟨bj, bj1, bj2, -, bj4⟩ := h.w (show j < H.1.2.2.1 by omega)
    obtain ⟨F1, c1, c2, c3⟩ := y_page (t := 375) hN h (by omega)
    have hl1 : F1 82 20 = -4 := (c3.2.1 20 (by omega) (by omega)).trans h.2.2.2.2.2
    have hk1 := c2.setW (i := i) (b := bj) h.2.2.1 hl1 (by omega)
    generalize hF2 : fput F1 83 (375 + 9 + i) (nI bj) = F2 at hk1
    have e2c : ∀ c, c ≠ 83 → F2 c = F1 c := fun c hc => by rw [← hF2, fput_a hc]
    have e2k : ∀ k, k ≠ 375 + 9 + i → F2 83 k = F1 83 k := fun k hk => by rw [← hF2, fpu, if_neg (by omega)]
    have hk2 := hk1.setW (i := j) (b := bi) (h.2.2.1.setW (fun b e => by cases e; exact bj2)) (by rw [e2c 82 (by omega)]; exact hl1) (by omega)
    have hs2 : setW (setW H i (some bj)) j (some bi) = swH H i j := by unfold swH; rw [bi1, bj1]
    rw [hs2] at hk2
    generalize hF3 : fput F2 83 (375 + 9 + j) (nI bi) = F3 at hk2
    have e3c : ∀ c, c ≠ 83 → F3 c = F2 c := fun c hc => by rw [← hF3, fput_a hc]
    have e3k : ∀ k, k ≠ 375 + 9 + j → F3 83 k = F2 83 k := fun k hk => by rw [← hF3, fpu, if_neg (by omega)]
    obtain ⟨F4, y1, y2, y3, y4⟩ := y_go (N := N) (pg := 375) (nn := nn) hN (by omega) hk2 hWs (by have := h.2.2.2.2.1; show H.1.2.2.2 ≤ 10000; omega) hn
    have hK : KY F F4 := (c3.tr (show KY F1 F3 from ⟨fun c _ h83 _ _ => by rw [e3c c h83, e2c c h83], fun k _ _ => by rw [e3c 82 (by omega), e2c 82 (by omega)], fun k hk => by rw [e3k k (by omega), e2k k (by omega)]⟩)).tr (y4.Y (by omega))
    obtain ⟨F5, z1, z2⟩ := ih (j + 1) n F4 (off p (100 * i + j) (totP (swH H i j) nn)) (by omega) (by omega) (by omega) (h.Y hK) (okP_off hp (by omega))
    have ho := wh_oI (p := p) (i := 100 * i + j) (v := totP (swH H i j) nn) (by omega) (by omega)
    refine ⟨F5, ?_, hK.tr z2⟩
    rw [fX7_swap_L56.eq_2, show F 83 25 = nI H.1.2.2.1 from h.2.1.1.2.2.1, if_neg (by simp (disch := omega) only [nI_leI]; omega), show (375 : Int32) = nI 375 from rfl, c1, bnd_some, show 9 + nI j = nI (9 + j) from nI_add 9 j, ld_ok a83 (by omega), c3.2.2 _ (by omega), bj4, show 384 + nI i = nI (375 + 9 + i) from nI_add 384 i, st_ok a83 (by omega), hF2, show 9 + nI i = nI (9 + i) from nI_add 9 i, ld_ok a83 (by omega), e2k _ (by omega), c3.2.2 _ (by omega), bi4, show 384 + nI j = nI (375 + 9 + j) from nI_add 384 j, st_ok a83 (by omega), hF3, y1, bnd_some, show (100 : Int32) * nI i + nI j = nI (100 * i + j) by rw [show (100 : Int32) * nI i = nI (100 * i) from nI_mul 100 i, nI_add], ho.1, ho.2, show nI j + 1 = nI (j + 1) from nI_1 j]
    exact z1
theorem y_swap_L {N nn : Nat} {l2 : Int32} {H : Hs} (hN : 1000 ≤ N) (hn : nn ≤ 200) : ∀ (m i n : Nat) (F : FF) (p : Option Nat × Nat), i + m = H.1.2.2.1 → m < n → RH F H → okP H nn p → ∃ F1, fX7_swap_L38 N (nI nn) l2 n (nI p.2) (oI p.1) (nI i) F = some (ansV (swO H nn m i p) l2, F1) ∧ KY F F1 := by
  intro m
  induction m with
  | zero =>
    intro i n F p hi hlt h hp
    obtain ⟨n, rfl⟩ : ∃ k, n = k + 1 := ⟨n - 1, by omega⟩
    have hnw := h.nw
    rw [fX7_swap_L38.eq_2, show F 83 25 = nI H.1.2.2.1 from h.2.1.1.2.2.1, if_pos (by simp (disch := omega) only [nI_leI]; omega), ans_oI (fun k hk => by have := hp.2 k hk; omega)]
    exact ⟨F, rfl, KY.rf⟩
  | succ m ih =>
    intro i n F p hi hlt h hp
    obtain ⟨n, rfl⟩ : ∃ k, n = k + 1 := ⟨n - 1, by omega⟩
    have hnw := h.nw
    obtain ⟨F1, e1, e3⟩ := y_swap_in (N := N) (nn := nn) (i := i) (l2 := l2) (k38 := fun x3 x4 x5 F => fX7_swap_L38 N (nI nn) l2 n x3 x4 x5 F) hN hn (by omega) (H.1.2.2.1 - (i + 1)) (i + 1) N F p (by omega) (by omega) (by omega) h hp
    obtain ⟨F2, z1, z2⟩ := ih (i + 1) n F1 (swI H nn i (H.1.2.2.1 - (i + 1)) (i + 1) p) (by omega) (by omega) (h.Y e3) (okP_swI (show i < 16 by omega) _ _ _ (by omega) hp)
    refine ⟨F2, ?_, e3.tr z2⟩
    rw [fX7_swap_L38.eq_2, show F 83 25 = nI H.1.2.2.1 from h.2.1.1.2.2.1, if_neg (by simp (disch := omega) only [nI_leI]; omega), show nI i + 1 = nI (i + 1) from nI_1 i, e1]
    exact z1
theorem q_swap {N : Nat} {l1 l2 : Int32} {F : FF} {H : Hs} (hN : 1000 ≤ N) (h : RH F H) : QOK (fX6_swap N l1 l2) (fX7_swap N l1 l2) F := by
  unfold QOK fX6_swap fX7_swap
  have hnw := h.nw
  rw [xR200, xR1]
  rcases guard (x := l1) 201 with ⟨n, hn, rfl⟩ | hg2
  · rcases guard (x := l2) 2 with ⟨w, hw, rfl⟩ | hg3
    · have hp : okP H n (none, totP H n) := ⟨Nat.le_refl _, fun k hk => by cases hk⟩
      obtain ⟨F1, e1, e2, e3⟩ := x_toPaid (N := N) (nn := n) hN h (by omega)
      obtain ⟨F2, g1, g2⟩ := x_swap_L (N := N) (nn := n) (l2 := nI w) hN (by omega) H.1.2.2.1 0 N F1 _ (by omega) (by omega) (h.X e3) hp e2
      have hK := e3.tr g2
      have hR2 := h.X hK
      obtain ⟨F3, y1, y2, y3, y4⟩ := y_go (N := N) (pg := 0) (nn := n) hN (by omega) hR2.2.1 h.2.2.1 (by have := h.2.2.2.2.1; omega) (by omega)
      obtain ⟨F4, z1, z2⟩ := y_swap_L (N := N) (nn := n) (l2 := nI w) hN (by omega) H.1.2.2.1 0 N F3 _ (by omega) (by omega) (hR2.Y (y4.Y (by omega))) hp
      refine ⟨ansV (swO H n H.1.2.2.1 0 (none, totP H n)) (nI w), F2, F4, ?_, ?_, hK, (y4.Y (by omega)).tr z2⟩
      · rw [bI_nI hn (by omega), if_neg n10, bI_nI hw (by omega), if_pos n10, e1, bnd_some]
        exact g1
      · rw [yR200, bI_nI hn (by omega), if_neg n10, yR1, bI_nI hw (by omega), if_pos n10, show (0 : Int32) = nI 0 from rfl, y1, bnd_some]
        exact z1
    · refine ⟨-1, F, F, ?_, ?_, KX.rf, KY.rf⟩
      · rw [bI_nI hn (by omega), if_neg n10, bI_f hg3, if_neg (by decide)]
      · rw [yR200, bI_nI hn (by omega), if_neg n10, yR1, bI_f hg3, if_neg (by decide)]
  · refine ⟨-1, F, F, ?_, ?_, KX.rf, KY.rf⟩
    · rw [bI_f hg2, if_pos rfl]
    · rw [yR200, bI_f hg2, if_pos rfl]
