/-! QUESTIONS: when to look where -/
theorem bitF_cg {f g : Nat → Bool} : ∀ n, (∀ i, i < n → f i = g i) → bitF f n = bitF g n
  | 0, _ => rfl
  | n + 1, h => by
    show bitF f n ||| _ = bitF g n ||| _
    rw [bitF_cg n (fun i hi => h i (by omega)), h n (by omega)]
theorem bitF_ext {f : Nat → Bool} {n : Nat} (h : ∀ i, n ≤ i → f i = false) : ∀ m, bitF f (n + m) = bitF f n
  | 0 => rfl
  | m + 1 => by
    show bitF f (n + m) ||| (if f (n + m) = true then 1 <<< (nI (n + m) &&& 31) else 0) = _
    rw [bitF_ext h m, h (n + m) (by omega), if_neg (by decide), Int32.or_zero]
def bcnt (x : Int32) : Int32 := pJ6_bitCount_0f7a4 x (fun _ _ => 0)
def b2n (b : Bool) : Nat := if b = true then 1 else 0
def tb (c : Bool) (n : Nat) : Int32 := if c = true then 1 <<< (nI n &&& 31) else 0
def b6 (c0 c1 c2 c3 c4 c5 : Bool) : Int32 := ((((((0 : Int32) ||| tb c0 0) ||| tb c1 1) ||| tb c2 2) ||| tb c3 3) ||| tb c4 4) ||| tb c5 5
theorem bits6 : ∀ c0 c1 c2 c3 c4 c5 : Bool, (((b6 c0 c1 c2 c3 c4 c5 >>> (nI 0 &&& 31)) &&& 1) = bI c0 ∧ ((b6 c0 c1 c2 c3 c4 c5 >>> (nI 1 &&& 31)) &&& 1) = bI c1 ∧ ((b6 c0 c1 c2 c3 c4 c5 >>> (nI 2 &&& 31)) &&& 1) = bI c2 ∧ ((b6 c0 c1 c2 c3 c4 c5 >>> (nI 3 &&& 31)) &&& 1) = bI c3 ∧ ((b6 c0 c1 c2 c3 c4 c5 >>> (nI 4 &&& 31)) &&& 1) = bI c4 ∧ ((b6 c0 c1 c2 c3 c4 c5 >>> (nI 5 &&& 31)) &&& 1) = bI c5) ∧ bcnt (b6 c0 c1 c2 c3 c4 c5) = nI (0 + b2n c0 + b2n c1 + b2n c2 + b2n c3 + b2n c4 + b2n c5) := by decide +kernel
theorem bitF_6 {C : Nat → Bool} {nb : Nat} (h : nb ≤ 6) : bitF C nb = bitF (fun b => decide (b < nb) && C b) 6 := by
  have h1 : bitF C nb = bitF (fun b => decide (b < nb) && C b) nb := bitF_cg nb (fun i hi => by rw [decide_eq_true hi, Bool.true_and])
  have h2 := bitF_ext (f := fun b => decide (b < nb) && C b) (n := nb) (fun i hi => by show (decide (i < nb) && C i) = false; rw [decide_eq_false (by omega), Bool.false_and]) (6 - nb)
  rw [h1, ← h2, show nb + (6 - nb) = 6 by omega]
theorem bit_at {C : Nat → Bool} {nb b : Nat} (h : nb ≤ 6) (hb : b < nb) : ((bitF C nb >>> (nI b &&& 31)) &&& 1) = bI (C b) := by
  rw [bitF_6 h]
  have hc : C b = (decide (b < nb) && C b) := by rw [decide_eq_true hb, Bool.true_and]
  rw [hc]
  have key := bits6 (decide (0 < nb) && C 0) (decide (1 < nb) && C 1) (decide (2 < nb) && C 2) (decide (3 < nb) && C 3) (decide (4 < nb) && C 4) (decide (5 < nb) && C 5)
  obtain ⟨⟨k0, k1, k2, k3, k4, k5⟩, -⟩ := key
  rcases (show b = 0 ∨ b = 1 ∨ b = 2 ∨ b = 3 ∨ b = 4 ∨ b = 5 by omega) with rfl | rfl | rfl | rfl | rfl | rfl
  · exact k0
  · exact k1
  · exact k2
  · exact k3
  · exact k4
  · exact k5
theorem sum_b2n {C : Nat → Bool} {nb : Nat} (h : nb ≤ 6) : sumTo (fun b => b2n (C b)) nb = sumTo (fun b => b2n (decide (b < nb) && C b)) 6 := by
  have e : (fun b => b2n (decide (b < nb) && C b)) = (fun b => if b < nb then b2n (C b) else 0) := by
    funext b
    by_cases c : b < nb
    · rw [if_pos c, decide_eq_true c, Bool.true_and]
    · rw [if_neg c, decide_eq_false c, Bool.false_and]; rfl
  rw [e]
  have := sum_cut (f := fun b => b2n (C b)) (n := nb) (6 - nb)
  rw [show nb + (6 - nb) = 6 by omega] at this
  exact this.symm
theorem bit_cnt {C : Nat → Bool} {nb : Nat} {F : FF} (h : nb ≤ 6) : pJ6_bitCount_0f7a4 (bitF C nb) F = nI (sumTo (fun b => b2n (C b)) nb) := by
  show bcnt (bitF C nb) = _
  rw [bitF_6 h, sum_b2n h]
  exact (bits6 (decide (0 < nb) && C 0) (decide (1 < nb) && C 1) (decide (2 < nb) && C 2) (decide (3 < nb) && C 3) (decide (4 < nb) && C 4) (decide (5 < nb) && C 5)).2
/-! counts, packed -/
def cnt (C : Nat → Bool) (f : Nat → Nat) (nb a : Nat) : Nat := sumTo (fun v => if C v = true ∧ f v = a then 1 else 0) nb
def pk6 (d : Nat → Nat) : Nat := d 0 + 16 * d 1 + 256 * d 2 + 4096 * d 3 + 65536 * d 4 + 1048576 * d 5
theorem cnt_le {C : Nat → Bool} {f : Nat → Nat} {nb a : Nat} : cnt C f nb a ≤ nb := by
  have := sumTo_le (f := fun v => if C v = true ∧ f v = a then 1 else 0) (c := 1) nb (fun i _ => by show (if _ then _ else _) ≤ 1; split <;> omega)
  unfold cnt
  omega
theorem pk6_add {C : Nat → Bool} {f : Nat → Nat} {nb : Nat} (hC : C nb = true) (hf : f nb < 6) : pk6 (cnt C f nb) + 16 ^ (f nb) = pk6 (cnt C f (nb + 1)) := by
  have e : ∀ a, cnt C f (nb + 1) a = cnt C f nb a + if f nb = a then 1 else 0 := by
    intro a
    show cnt C f nb a + (if C nb = true ∧ f nb = a then 1 else 0) = _
    by_cases c : f nb = a
    · rw [if_pos ⟨hC, c⟩, if_pos c]
    · rw [if_neg (fun h => c h.2), if_neg c]
  unfold pk6
  rw [e 0, e 1, e 2, e 3, e 4, e 5]
  rcases (show f nb = 0 ∨ f nb = 1 ∨ f nb = 2 ∨ f nb = 3 ∨ f nb = 4 ∨ f nb = 5 by omega) with h | h | h | h | h | h <;> rw [h] <;> simp <;> omega
theorem pk6_no {C : Nat → Bool} {f : Nat → Nat} {nb : Nat} (hC : C nb = false) : pk6 (cnt C f nb) = pk6 (cnt C f (nb + 1)) := by
  have e : ∀ a, cnt C f (nb + 1) a = cnt C f nb a := by
    intro a
    show cnt C f nb a + (if C nb = true ∧ f nb = a then 1 else 0) = _
    rw [if_neg (fun h => by rw [hC] at h; cases h.1)]
    rfl
  unfold pk6
  rw [e 0, e 1, e 2, e 3, e 4, e 5]
theorem pk6_dig {d : Nat → Nat} (h : ∀ a, d a ≤ 6) (a : Nat) (ha : a < 6) : pk6 d / 16 ^ a % 16 = d a := by
  have h0 := h 0
  have h1 := h 1
  have h2 := h 2
  have h3 := h 3
  have h4 := h 4
  have h5 := h 5
  unfold pk6
  rcases (show a = 0 ∨ a = 1 ∨ a = 2 ∨ a = 3 ∨ a = 4 ∨ a = 5 by omega) with rfl | rfl | rfl | rfl | rfl | rfl <;> simp <;> omega
theorem pk6_lt {d : Nat → Nat} (h : ∀ a, d a ≤ 6) : pk6 d < 16777216 := by
  have h0 := h 0
  have h1 := h 1
  have h2 := h 2
  have h3 := h 3
  have h4 := h 4
  have h5 := h 5
  unfold pk6
  omega
theorem sh16 : ∀ f, f < 6 → (1 : Int32) <<< ((4 * nI f) &&& 31) = nI (16 ^ f) := by decide +kernel
theorem sm4 : ∀ a, a < 6 → (((4 * nI a) &&& 31 : Int32).toBitVec.smod 32).toNat = 4 * a := by decide +kernel
theorem dig4 {P a : Nat} (hP : P < 2 ^ 31) (ha : a < 6) : ((nI P >>> ((4 * nI a) &&& 31)) &&& 15) = nI (P / 16 ^ a % 16) := by
  have h1 : P / 2 ^ (4 * a) ≤ P := Nat.div_le_self _ _
  rw [pk_shrN hP _ (4 * a) (sm4 a ha), pk_andN (by omega) 4 (by decide), Nat.pow_mul]
theorem x_most_L {N P : Nat} {F : FF} (hP : P < 2 ^ 31) : ∀ (m i n : Nat), i + m = 6 → m < n → fX6_mostShowingOne_L4 N (nI P) n (nI (mxTo (fun a => P / 16 ^ a % 16) i)) (nI i) F = some (nI (mxTo (fun a => P / 16 ^ a % 16) 6), F) := by
  have hb : ∀ j, mxTo (fun a => P / 16 ^ a % 16) j < 16 := by
    intro j
    induction j with
    | zero => show 0 < 16; omega
    | succ j ih =>
      have : P / 16 ^ j % 16 < 16 := Nat.mod_lt _ (by omega)
      show max _ (P / 16 ^ j % 16) < 16
      omega
  intro m
  induction m with
  | zero =>
    intro i n hi hn
    obtain ⟨n, rfl⟩ : ∃ k, n = k + 1 := ⟨n - 1, by omega⟩
    have e : i = 6 := by omega
    subst e
    rw [fX6_mostShowingOne_L4.eq_2, if_pos (by decide)]
  | succ m ih =>
    intro i n hi hn
    obtain ⟨n, rfl⟩ : ∃ k, n = k + 1 := ⟨n - 1, by omega⟩
    have h1 := hb i
    have h2 : P / 16 ^ i % 16 < 16 := Nat.mod_lt _ (by omega)
    rw [fX6_mostShowingOne_L4.eq_2, if_neg (by simp (disch := omega) only [il, nI_leI]; omega), dig4 hP (by omega), mmax_nI (by omega) (by omega), show nI i + 1 = nI (i + 1) from nI_1 i]
    exact ih (i + 1) n (by omega) (by omega)
theorem mxTo_cg {f g : Nat → Nat} : ∀ n, (∀ i, i < n → f i = g i) → mxTo f n = mxTo g n
  | 0, _ => rfl
  | n + 1, h => by
    show max (mxTo f n) (f n) = max (mxTo g n) (g n)
    rw [mxTo_cg n (fun i hi => h i (by omega)), h n (by omega)]
/-- what stands first: by the number of the book, of the steps, of the shelf -/
def fA (H : Hs) (i0 v k s : Nat) : Nat := (stS (wAt (setW H i0 (some v))) (H.2.1 s) k).2.1 0
def LK (F : FF) (H : Hs) (G : Nat → Nat → Nat) : Prop := ∀ k, k ≤ 40 → ∀ s, s < H.1.2.1 → F 43 (k * 4 + s) = nI (G k s)
theorem x_looks10 {N k : Nat} {J : Hs} {G : Nat → Nat → Nat} {k2 : Int32 → FF → Option (Unit × FF)} (hN : 1000 ≤ N) (hW : WH J) (hst : J.1.2.2.2 ≤ 10000) (hk : k ≤ 40) : ∀ (m i n : Nat) (F : FF), i + m = J.1.2.1 → m < n → HR 16 F (runH J k) → LK F J (fun k' s => G k' s + if k' < k ∨ (k' = k ∧ s < i) then 16 ^ ((stS (wAt J) (J.2.1 s) k').2.1 0) else 0) → ∃ F1, fX6_countLooksOfTrial_L10 N k2 (nI k) n (nI i) F = k2 (nI (k + 1)) F1 ∧ HR 16 F1 (runH J (k + 1)) ∧ LK F1 J (fun k' s => G k' s + if k' < k + 1 then 16 ^ ((stS (wAt J) (J.2.1 s) k').2.1 0) else 0) ∧ KX F F1 ∧ F1 40 = F 40 := by
  have w2 := hW.2.1
  intro m
  induction m with
  | zero =>
    intro i n F hi hn hR hL
    obtain ⟨n, rfl⟩ : ∃ k, n = k + 1 := ⟨n - 1, by omega⟩
    obtain ⟨F1, e1, e2, e3⟩ := x_stepOn (N := N) hN iH16 hR (hW.run (n := k) (by omega)) (show J.1.2.2.2 + k < 20000 by omega)
    rw [runH_s] at e2
    refine ⟨F1, ?_, e2, fun k' hk' s hs => ?_, e3.X, e3 40 (by omega)⟩
    · rw [fX6_countLooksOfTrial_L10.eq_2, show F 16 1 = nI J.1.2.1 from hR.1.2.1, if_pos (by simp (disch := omega) only [nI_leI]; omega), e1, bnd_some, show nI k + 1 = nI (k + 1) from nI_1 k]
    · rw [e3 43 (by omega), hL k' hk' s hs]
      congr 1
      show G k' s + (if _ then _ else 0) = G k' s + (if _ then _ else 0)
      by_cases c : k' < k + 1
      · rw [if_pos c, if_pos (by omega)]
      · rw [if_neg c, if_neg (by omega)]
  | succ m ih =>
    intro i n F hi hn hR hL
    obtain ⟨n, rfl⟩ : ∃ k, n = k + 1 := ⟨n - 1, by omega⟩
    have hs : i < J.1.2.1 := by omega
    have hS := isS_of iH16 (show i < 4 by omega)
    have hSR : F (16 + 3 + 3 * i + 1) 0 = nI ((stS (wAt J) (J.2.1 i) k).2.1 0) := (hR.2.2 i hs).2.2.1 0 (by omega)
    have h6 := (ws_stS (hW.2.2.2.2.2 _ hs) hW.1.2 hW.okW k).2.1 0 (by omega)
    have hG : F 43 (k * 4 + i) = nI (G k i) := by
      rw [hL k hk i hs]
      congr 1
      show G k i + (if _ then _ else 0) = _
      rw [if_neg (by omega)]
      rfl
    obtain ⟨F1, z1, z2, z3, z4, z5⟩ := ih (i + 1) n (fput F 43 (k * 4 + i) (nI (G k i + 16 ^ ((stS (wAt J) (J.2.1 i) k).2.1 0)))) (by omega) (by omega) (hR.keep w2 (fun c _ _ => fput_a (by omega))) (fun k' hk' s hs' => by
      rw [fpu]
      by_cases c : k' = k ∧ s = i
      · obtain ⟨rfl, rfl⟩ := c
        rw [if_pos ⟨rfl, rfl⟩]
        show nI _ = nI (G k' s + if _ then _ else 0)
        rw [if_pos (by omega)]
      · rw [if_neg (by omega), hL k' hk' s hs']
        congr 1
        show G k' s + (if _ then _ else 0) = G k' s + (if _ then _ else 0)
        by_cases c2 : k' < k ∨ (k' = k ∧ s < i)
        · rw [if_pos c2, if_pos (by omega)]
        · rw [if_neg c2, if_neg (by omega)])
    refine ⟨F1, ?_, z2, z3, (show KX F _ from fun c hc => fput_a (by omega)).tr z4, by rw [z5, fput_a (by omega)]⟩
    rw [fX6_countLooksOfTrial_L10.eq_2, show F 16 1 = nI J.1.2.1 from hR.1.2.1, if_neg (by simp (disch := omega) only [nI_leI]; omega), show nI k * 4 + nI i = nI (k * 4 + i) by rw [show nI k * 4 = nI (k * 4) from nI_mul k 4, nI_add], ld_ok a43 (by omega), hG, ldR_H iH16 (show i < 4 by omega), gR_S2 hS, show (0 : Int32) = nI 0 from rfl, ld_ok (aS1 hS) (by omega), hSR, sh16 _ h6, nI_add, st_ok a43 (by omega), show nI i + 1 = nI (i + 1) from nI_1 i]
    exact z1
theorem x_looks2 {N : Nat} {J : Hs} {G : Nat → Nat → Nat} (hN : 1000 ≤ N) (hW : WH J) (hst : J.1.2.2.2 ≤ 10000) : ∀ (m k n : Nat) (F : FF), k + m = 41 → m < n → HR 16 F (runH J k) → LK F J (fun k' s => G k' s + if k' < k then 16 ^ ((stS (wAt J) (J.2.1 s) k').2.1 0) else 0) → ∃ F1, fX6_countLooksOfTrial_L2 N n (nI k) F = some ((), F1) ∧ LK F1 J (fun k' s => G k' s + 16 ^ ((stS (wAt J) (J.2.1 s) k').2.1 0)) ∧ KX F F1 ∧ F1 40 = F 40 := by
  have w2 := hW.2.1
  intro m
  induction m with
  | zero =>
    intro k n F hk hn hR hL
    obtain ⟨n, rfl⟩ : ∃ k, n = k + 1 := ⟨n - 1, by omega⟩
    have e : k = 41 := by omega
    subst e
    rw [fX6_countLooksOfTrial_L2.eq_2, if_pos (by decide)]
    refine ⟨F, rfl, fun k' hk' s hs => ?_, KX.rf, rfl⟩
    rw [hL k' hk' s hs]
    congr 1
    show G k' s + (if _ then _ else 0) = _
    rw [if_pos (by omega)]
  | succ m ih =>
    intro k n F hk hn hR hL
    obtain ⟨n, rfl⟩ : ∃ k, n = k + 1 := ⟨n - 1, by omega⟩
    obtain ⟨F1, z1, z2, z3, z4, z5⟩ := x_looks10 (N := N) (G := G) (k2 := fun x1 F => fX6_countLooksOfTrial_L2 N n x1 F) hN hW hst (show k ≤ 40 by omega) J.1.2.1 0 N F (by omega) (by omega) hR (fun k' hk' s hs => by
      rw [hL k' hk' s hs]
      congr 1
      show G k' s + (if _ then _ else 0) = G k' s + (if _ then _ else 0)
      by_cases c : k' < k
      · rw [if_pos c, if_pos (by omega)]
      · rw [if_neg c, if_neg (by omega)])
    obtain ⟨F2, y1, y2, y3, y4⟩ := ih (k + 1) n F1 (by omega) (by omega) z2 z3
    refine ⟨F2, ?_, y2, z4.tr y3, y4.trans z5⟩
    rw [fX6_countLooksOfTrial_L2.eq_2, if_neg (by simp (disch := omega) only [il, nI_ltI]; omega), show (0 : Int32) = nI 0 from rfl, z1]
    exact y1
theorem x_looks26 {N i0 : Nat} {H : Hs} {C : Nat → Bool} (hN : 1000 ≤ N) (hi0 : i0 < H.1.2.2.1) : ∀ (m b n : Nat) (F : FF), b + m = H.1.1 → m < n → RH F H → LK F H (fun k s => pk6 (cnt C (fun v => fA H i0 v k s) b)) → ∃ F1, fX6_countLooks_L26 N (nI i0) (bitF C H.1.1) n (nI b) F = some ((), F1) ∧ LK F1 H (fun k s => pk6 (cnt C (fun v => fA H i0 v k s) H.1.1)) ∧ KX F F1 := by
  intro m
  induction m with
  | zero =>
    intro b n F hb hn h hL
    obtain ⟨n, rfl⟩ : ∃ k, n = k + 1 := ⟨n - 1, by omega⟩
    have hnb := h.nb
    have e : b = H.1.1 := by omega
    rw [fX6_countLooks_L26.eq_2, h.1.1.1, if_pos (by simp (disch := omega) only [nI_leI]; omega)]
    rw [e] at hL
    exact ⟨F, rfl, hL, KX.rf⟩
  | succ m ih =>
    intro b n F hb hn h hL
    obtain ⟨n, rfl⟩ : ∃ k, n = k + 1 := ⟨n - 1, by omega⟩
    have hnb := h.nb
    have hnw := h.nw
    rw [fX6_countLooks_L26.eq_2, h.1.1.1, if_neg (by simp (disch := omega) only [nI_leI]; omega), bit_at hnb.2 (by omega)]
    cases hC : C b with
    | false =>
      rw [if_pos (show ¬ bI false = 1 by decide), fX6_countLooks_b71, show nI b + 1 = nI (b + 1) from nI_1 b]
      exact ih (b + 1) n F (by omega) (by omega) h (fun k hk s hs => (hL k hk s hs).trans (congrArg nI (pk6_no (f := fun v => fA H i0 v k s) hC)))
    | true =>
      rw [if_neg (show ¬ ¬ bI true = 1 by decide)]
      obtain ⟨F1, e1, e2, e3, e4⟩ := x_trial hN h
      have hk := HR.setW (i := i0) (o := some b) e2
      generalize hF2 : fput F1 (16 + 2) i0 (wI (some b)) = F2 at hk
      have hK2 := e3.tr hk.2.X
      have hW2 : WH (setW H i0 (some b)) := h.2.2.1.setW (fun b' e => by cases e; omega)
      obtain ⟨F3, g1, g2, g3, -⟩ := x_looks2 (N := N) (J := setW H i0 (some b)) (G := fun k s => pk6 (cnt C (fun v => fA H i0 v k s) b)) hN hW2 (by have := h.2.2.2.2.1; show H.1.2.2.2 ≤ 10000; omega) 41 0 N F2 (by omega) (by omega) hk.1 (fun k hk' s hs => by
        rw [hk.2 43 (by omega), e4 43 (by omega), hL k hk' s hs]
        rfl)
      obtain ⟨F4, z1, z2, z3⟩ := ih (b + 1) n F3 (by omega) (by omega) (h.X (hK2.tr g3)) (fun k hk' s hs => by
        have h6 := (ws_stS (h.2.2.1.2.2.2.2.2 s hs) hnb.2 hW2.okW k).2.1 0 (by omega)
        exact (g2 k hk' s hs).trans (congrArg nI (pk6_add (f := fun v => fA H i0 v k s) hC h6)))
      refine ⟨F4, ?_, z2, (hK2.tr g3).tr z3⟩
      rw [e1, bnd_some, st_ok a18 (by omega), show nI b = wI (some b) from rfl, hF2, fX6_countLooksOfTrial, show (0 : Int32) = nI 0 from rfl, g1, bnd_some, fX6_countLooks_b71, show wI (some b) + 1 = nI (b + 1) from nI_1 b]
      exact z1
theorem x_looksZ {N : Nat} {l1 l2 : Int32} : ∀ (m i n : Nat) (F : FF), i + m = 164 → m < n → (∀ j, j < i → F 43 j = 0) → ∃ F1, fX6_countLooks_L2 N l1 l2 n (nI i) F = fX6_countLooks_L26 N l1 l2 N (nI 0) F1 ∧ (∀ j, j < 164 → F1 43 j = 0) ∧ ∀ c, c ≠ 43 → F1 c = F c := by
  intro m
  induction m with
  | zero =>
    intro i n F hi hn h
    obtain ⟨n, rfl⟩ : ∃ k, n = k + 1 := ⟨n - 1, by omega⟩
    rw [fX6_countLooks_L2.eq_2, if_pos (by simp (disch := omega) only [nI_leI]; omega)]
    exact ⟨F, rfl, fun j hj => h j (by omega), fun _ _ => rfl⟩
  | succ m ih =>
    intro i n F hi hn h
    obtain ⟨n, rfl⟩ : ∃ k, n = k + 1 := ⟨n - 1, by omega⟩
    obtain ⟨F1, z1, z2, z3⟩ := ih (i + 1) n (fput F 43 i 0) (by omega) (by omega) (fun j hj => by
      rw [fpu]
      by_cases c : j = i
      · rw [if_pos ⟨rfl, c⟩]
      · rw [if_neg (by omega)]; exact h j (by omega))
    refine ⟨F1, ?_, z2, fun c hc => by rw [z3 c hc, fput_a hc]⟩
    rw [fX6_countLooks_L2.eq_2, if_neg (by simp (disch := omega) only [nI_leI]; omega), st_ok a43 (by omega), show nI i + 1 = nI (i + 1) from nI_1 i]
    exact z1
