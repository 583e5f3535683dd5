/-! QUESTIONS: what stood first -/
def okE (H : Hs) (t : Nat × Nat × Nat) : Bool := decide (t.2.1 < H.1.2.1) && decide ((stS (wAt H) (H.2.1 t.2.1) t.1).2.1 0 = t.2.2)
/-- what is seen behind just k steps is so -/
def atB (H : Hs) (e : Nat → Nat × Nat × Nat) (k : Nat) : Nat → Bool := fun i => !(decide ((e i).1 = k)) || okE H (e i)
def seeB (H : Hs) (sm : Nat) (e : Nat → Nat × Nat × Nat) : Bool := allTo (fun i => okE H (e i)) sm 0
def RSn (F : FF) (n : Nat) (e : Nat → Nat × Nat × Nat) : Prop := n ≤ 6 ∧ F 35 0 = nI n ∧ F 82 22 = nI n ∧ ∀ i, i < n → (F 36 i = nI (e i).1 ∧ F 89 (3 * i) = nI (e i).1 ∧ (e i).1 ≤ 40) ∧ (F 37 i = nI (e i).2.1 ∧ F 89 (3 * i + 1) = nI (e i).2.1 ∧ (e i).2.1 < 4) ∧ (F 38 i = nI (e i).2.2 ∧ F 89 (3 * i + 2) = nI (e i).2.2 ∧ (e i).2.2 < 6)
theorem RSn.X {F F' : FF} {n : Nat} {e : Nat → Nat × Nat × Nat} (h : RSn F n e) (k : KX F F') : RSn F' n e := by
  unfold RSn
  rw [k 35 (by omega), k 36 (by omega), k 37 (by omega), k 38 (by omega), k 89 (by omega), k 82 (by omega)]
  exact h
theorem RSn.Y {F F' : FF} {n : Nat} {e : Nat → Nat × Nat × Nat} (h : RSn F n e) (k : ∀ c, c ≠ 82 → c ≠ 83 → c ≠ 88 → c ≠ 90 → F' c = F c) (k2 : F' 82 22 = F 82 22) : RSn F' n e := by
  unfold RSn
  rw [k 35 (by omega) (by omega) (by omega) (by omega), k 36 (by omega) (by omega) (by omega) (by omega), k 37 (by omega) (by omega) (by omega) (by omega), k 38 (by omega) (by omega) (by omega) (by omega), k 89 (by omega) (by omega) (by omega) (by omega), k2]
  exact h
theorem x_latest_L {N sm : Nat} {F : FF} {e : Nat → Nat × Nat × Nat} (h : RSn F sm e) : ∀ (m i n : Nat), i + m = sm → m < n → fX2_latest_L4 N n (nI (mxTo (fun i => (e i).1) i)) (nI i) F = some (nI (mxTo (fun i => (e i).1) sm), F) := by
  have hmx : ∀ j, j ≤ sm → mxTo (fun i => (e i).1) j ≤ 40 := by
    intro j
    induction j with
    | zero => intro _; exact Nat.zero_le _
    | succ j ih =>
      intro hj
      have h1 := ih (by omega)
      have h2 := (h.2.2.2 j (by omega)).1.2.2
      show max _ (e j).1 ≤ 40
      omega
  have h6 := h.1
  intro m
  induction m with
  | zero =>
    intro i n hi hn
    obtain ⟨n, rfl⟩ : ∃ k, n = k + 1 := ⟨n - 1, by omega⟩
    rw [fX2_latest_L4.eq_2, h.2.1, if_pos (by simp (disch := omega) only [nI_leI]; omega), show i = sm by omega]
  | succ m ih =>
    intro i n hi hn
    obtain ⟨n, rfl⟩ : ∃ k, n = k + 1 := ⟨n - 1, by omega⟩
    have h1 := hmx i (by omega)
    obtain ⟨⟨b1, -, b3⟩, -⟩ := h.2.2.2 i (by omega)
    rw [fX2_latest_L4.eq_2, h.2.1, if_neg (by simp (disch := omega) only [nI_leI]; omega), ld_ok a36 (by omega), b1, mmax_nI (by omega) (by omega), show nI i + 1 = nI (i + 1) from nI_1 i]
    exact ih (i + 1) n (by omega) (by omega)
theorem x_behind_L {N sm k : Nat} {F : FF} {H : Hs} {e : Nat → Nat × Nat × Nat} (h : RSn F sm e) (hW : WH H) (hk : k ≤ 40) (hR : HR 16 F (runH H k)) : ∀ (m i n : Nat), i + m = sm → m < n → fX2_isSoBehind_L2 N (nI k) n (nI i) F = some (bI (allTo (atB H e k) m i), F) := by
  have h6 := h.1
  have w2 := hW.2.1
  intro m
  induction m with
  | zero =>
    intro i n hi hn
    obtain ⟨n, rfl⟩ : ∃ k, n = k + 1 := ⟨n - 1, by omega⟩
    rw [fX2_isSoBehind_L2.eq_2, h.2.1, if_pos (by simp (disch := omega) only [nI_leI]; omega)]
    rfl
  | succ m ih =>
    intro i n hi hn
    obtain ⟨n, rfl⟩ : ∃ k, n = k + 1 := ⟨n - 1, by omega⟩
    obtain ⟨⟨b1, -, b3⟩, ⟨c1, -, c3⟩, ⟨d1, -, d3⟩⟩ := h.2.2.2 i (by omega)
    have hih := ih (i + 1) n (by omega) (by omega)
    rw [fX2_isSoBehind_L2.eq_2, h.2.1, if_neg (by simp (disch := omega) only [nI_leI]; omega), ld_ok a36 (by omega), b1, show allTo (atB H e k) (m + 1) i = (if atB H e k i = true then allTo (atB H e k) m (i + 1) else false) from rfl]
    by_cases ck : (e i).1 = k
    · have hat : atB H e k i = okE H (e i) := by unfold atB; rw [decide_eq_true ck]; rfl
      rw [if_neg (by rw [ck]; exact fun h => h rfl), ld_ok a37 (by omega), c1, x_hasShelf (show F 16 1 = nI H.1.2.1 from hR.1.2.1) (by omega), nI_toInt (by omega), hat]
      by_cases cs : (e i).2.1 < H.1.2.1
      · have hS := isS_of iH16 (show (e i).2.1 < 4 by omega)
        have hSR := (hR.2.2 (e i).2.1 cs).2.2.1 0 (by omega)
        have hWS := (ws_stS (hW.2.2.2.2.2 _ cs) hW.1.2 hW.okW k).2.1 0 (by omega)
        have hSR : F (16 + 3 + 3 * (e i).2.1 + 1) 0 = nI ((stS (wAt H) (H.2.1 (e i).2.1) k).2.1 0) := hSR
        rw [bI_t (by omega), if_neg n10, ldR_H iH16 (show (e i).2.1 < 4 by omega), gR_S2 hS, show (0 : Int32) = nI 0 from rfl, ld_ok (aS1 hS) (by omega), hSR, ld_ok a38 (by omega), d1]
        unfold okE
        rw [decide_eq_true cs, Bool.true_and, ck]
        by_cases cb : (stS (wAt H) (H.2.1 (e i).2.1) k).2.1 0 = (e i).2.2
        · rw [if_pos (by rw [cb]), decide_eq_true cb, if_pos rfl, fX2_isSoBehind_b60, show nI i + 1 = nI (i + 1) from nI_1 i]
          exact hih
        · rw [if_neg (by simp (disch := omega) only [nI_eq]; exact cb), decide_eq_false cb, if_neg (by decide)]
          rfl
      · rw [bI_f (by omega), if_pos rfl]
        unfold okE
        rw [decide_eq_false cs, Bool.false_and, if_neg (by decide)]
        rfl
    · have hat : atB H e k i = true := by unfold atB; rw [decide_eq_false ck]; rfl
      rw [if_pos (by simp (disch := omega) only [nI_eq]; exact ck), fX2_isSoBehind_b60, show nI i + 1 = nI (i + 1) from nI_1 i, hat, if_pos rfl]
      exact hih
theorem x_soIn_L {N sm last : Nat} {H : Hs} {e : Nat → Nat × Nat × Nat} (hN : 1000 ≤ N) (hW : WH H) (hst : H.1.2.2.2 ≤ 10000) (hl : last ≤ 40) : ∀ (m k n : Nat) (F : FF), k + m = last + 1 → m < n → RSn F sm e → HR 16 F (runH H k) → ∃ F1, fX2_isSoIn_L7 N (nI last) n (nI k) F = some (bI (allTo (fun k => allTo (atB H e k) sm 0) m k), F1) ∧ FrH 16 F F1 := by
  intro m
  induction m with
  | zero =>
    intro k n F hk hn h hR
    obtain ⟨n, rfl⟩ : ∃ k, n = k + 1 := ⟨n - 1, by omega⟩
    rw [fX2_isSoIn_L7.eq_2, if_pos (by simp (disch := omega) only [nI_ltI]; omega)]
    exact ⟨F, rfl, FrH.rf⟩
  | succ m ih =>
    intro k n F hk hn h hR
    obtain ⟨n, rfl⟩ : ∃ k, n = k + 1 := ⟨n - 1, by omega⟩
    have h6 := h.1
    rw [fX2_isSoIn_L7.eq_2, if_neg (by simp (disch := omega) only [nI_ltI]; omega), fX2_isSoBehind, show (0 : Int32) = nI 0 from rfl, x_behind_L h hW (by omega) hR sm 0 N (by omega) (by omega), bnd_some, show allTo (fun k => allTo (atB H e k) sm 0) (m + 1) k = (if allTo (atB H e k) sm 0 = true then allTo (fun k => allTo (atB H e k) sm 0) m (k + 1) else false) from rfl]
    cases hb : allTo (atB H e k) sm 0 with
    | true =>
      rw [if_pos (show ¬ bI true = nI 0 by decide), if_pos rfl]
      obtain ⟨F1, e1, e2, e3⟩ := x_stepOn (N := N) hN iH16 hR (hW.run (n := k) (by omega)) (show H.1.2.2.2 + k < 20000 by omega)
      rw [runH_s] at e2
      obtain ⟨F2, g1, g2⟩ := ih (k + 1) n F1 (by omega) (by omega) (h.X e3.X) e2
      refine ⟨F2, ?_, e3.tr g2⟩
      rw [e1, bnd_some, show nI k + 1 = nI (k + 1) from nI_1 k]
      exact g1
    | false =>
      rw [if_neg (show ¬ ¬ bI false = nI 0 by decide), if_neg (by decide)]
      exact ⟨F, rfl, FrH.rf⟩
theorem mxTo_ge {f : Nat → Nat} : ∀ n i, i < n → f i ≤ mxTo f n
  | 0, i, h => by omega
  | n + 1, i, h => by
    show f i ≤ max (mxTo f n) (f n)
    by_cases e : i = n
    · subst e; omega
    · have := mxTo_ge (f := f) n i (by omega)
      omega
theorem see_eq {H : Hs} {sm T : Nat} {e : Nat → Nat × Nat × Nat} (hT : ∀ i, i < sm → (e i).1 < T) : allTo (fun k => allTo (atB H e k) sm 0) T 0 = seeB H sm e := by
  have h : allTo (fun k => allTo (atB H e k) sm 0) T 0 = true ↔ seeB H sm e = true := by
    unfold seeB
    rw [allTo_iff, allTo_iff]
    constructor
    · intro h i h1 h2
      have h3 := (allTo_iff _ _).mp (h (e i).1 (by omega) (by have := hT i (by omega); omega)) i h1 h2
      unfold atB at h3
      rw [decide_eq_true rfl] at h3
      exact h3
    · intro h k h1 h2
      apply (allTo_iff _ _).mpr
      intro i h3 h4
      unfold atB
      rw [h i h3 h4, Bool.or_true]
  cases h1 : allTo (fun k => allTo (atB H e k) sm 0) T 0 <;> cases h2 : seeB H sm e
  · rfl
  · rw [h1, h2] at h; simp at h
  · rw [h1, h2] at h; simp at h
  · rfl
theorem x_soIn {N sm : Nat} {F : FF} {H : Hs} {e : Nat → Nat × Nat × Nat} (hN : 1000 ≤ N) (hW : WH H) (hst : H.1.2.2.2 ≤ 10000) (h : RSn F sm e) (hR : HR 16 F H) : ∃ F1, fX2_isSoIn N F = some (bI (seeB H sm e), F1) ∧ FrH 16 F F1 := by
  have h6 := h.1
  have hmx : mxTo (fun i => (e i).1) sm ≤ 40 := by
    have key : ∀ j, j ≤ sm → mxTo (fun i => (e i).1) j ≤ 40 := by
      intro j
      induction j with
      | zero => intro _; exact Nat.zero_le _
      | succ j ih =>
        intro hj
        have h1 := ih (by omega)
        have h2 := (h.2.2.2 j (by omega)).1.2.2
        show max _ (e j).1 ≤ 40
        omega
    exact key sm (Nat.le_refl _)
  unfold fX2_isSoIn fX2_latest
  obtain ⟨F1, g1, g2⟩ := x_soIn_L (N := N) (last := mxTo (fun i => (e i).1) sm) hN hW hst hmx (mxTo (fun i => (e i).1) sm + 1) 0 N F (by omega) (by omega) h hR
  have hla := x_latest_L (N := N) h sm 0 N (by omega) (by omega)
  refine ⟨F1, ?_, g2⟩
  rw [show (0 : Int32) = nI 0 from rfl]
  have hla' : fX2_latest_L4 N N (nI 0) (nI 0) F = some (nI (mxTo (fun i => (e i).1) sm), F) := hla
  rw [hla', bnd_some, g1, see_eq (fun i hi => by have := mxTo_ge (f := fun i => (e i).1) sm i hi; show (e i).1 < _ + 1; have : (e i).1 ≤ mxTo (fun i => (e i).1) sm := this; omega)]
/-- bits of what may be -/
def bitF (f : Nat → Bool) : Nat → Int32
  | 0 => 0
  | n + 1 => bitF f n ||| (if f n = true then 1 <<< (nI n &&& 31) else 0)
theorem bit_step {f : Nat → Bool} {n : Nat} : bitF f n ||| (if bI (f n) = 0 then (0 : Int32) else 1 <<< (nI n &&& 31)) = bitF f (n + 1) := by
  show _ = bitF f n ||| (if f n = true then 1 <<< (nI n &&& 31) else 0)
  cases h : f n
  · rfl
  · rfl
theorem x_kinds_L {N s sm : Nat} {H : Hs} {e : Nat → Nat × Nat × Nat} (hN : 1000 ≤ N) (hs : s < H.1.2.1) : ∀ (m i n : Nat) (F : FF), i + m = 4 → m < n → RH F H → RSn F sm e → ∃ F1, fX6_kinds_L17 N (nI s) n (bitF (fun k => seeB (upS H s (kSh (H.2.1 s) k)) sm e) i) (nI i) F = some (bitF (fun k => seeB (upS H s (kSh (H.2.1 s) k)) sm e) 4, F1) ∧ KX F F1 := by
  intro m
  induction m with
  | zero =>
    intro i n F hi hn h hs'
    obtain ⟨n, rfl⟩ : ∃ k, n = k + 1 := ⟨n - 1, by omega⟩
    have e : i = 4 := by omega
    subst e
    rw [fX6_kinds_L17.eq_2, if_pos (by decide)]
    exact ⟨F, rfl, KX.rf⟩
  | succ m ih =>
    intro i n F hi hn h hs'
    obtain ⟨n, rfl⟩ : ∃ k, n = k + 1 := ⟨n - 1, by omega⟩
    have hns := h.ns
    have hS := isS_of iH16 (show s < 4 by omega)
    obtain ⟨F1, e1, e2, e3, -⟩ := x_trial hN h
    have hk := HR.k (k := i) hS (upS_self (s := s) e2) hns hs
    generalize hF2 : fput F1 (16 + 3 + 3 * s) 0 (nI i) = F2 at hk
    have hK2 := e3.tr hk.2.X
    obtain ⟨F3, g1, g2⟩ := x_soIn (N := N) hN (h.2.2.1.up (s := s) (ws_k (h.2.2.1.2.2.2.2.2 s hs) (show i ≤ 3 by omega))) (by have := h.2.2.2.2.1; show H.1.2.2.2 ≤ 10000; omega) (hs'.X hK2) hk.1
    have hK := hK2.tr g2.X
    obtain ⟨F4, z1, z2⟩ := ih (i + 1) n F3 (by omega) (by omega) (h.X hK) (hs'.X hK)
    refine ⟨F4, ?_, hK.tr z2⟩
    rw [fX6_kinds_L17.eq_2, if_neg (by simp (disch := omega) only [il, nI_ltI]; omega), e1, bnd_some, ldR_H iH16 (show s < 4 by omega), pI_S0 hS, hF2, g1, bnd_some, show nI i + 1 = nI (i + 1) from nI_1 i, bit_step (f := fun k => seeB (upS H s (kSh (H.2.1 s) k)) sm e)]
    exact z1
theorem x_cand_L {N i0 sm : Nat} {H : Hs} {e : Nat → Nat × Nat × Nat} (hN : 1000 ≤ N) (hi0 : i0 < H.1.2.2.1) : ∀ (m i n : Nat) (F : FF), i + m = H.1.1 → m < n → RH F H → RSn F sm e → ∃ F1, fX6_candidates_L4 N (nI i0) n (bitF (fun b => seeB (setW H i0 (some b)) sm e) i) (nI i) F = some (bitF (fun b => seeB (setW H i0 (some b)) sm e) H.1.1, F1) ∧ KX F F1 := by
  intro m
  induction m with
  | zero =>
    intro i n F hi hn h hs'
    obtain ⟨n, rfl⟩ : ∃ k, n = k + 1 := ⟨n - 1, by omega⟩
    have hnb := h.nb
    rw [fX6_candidates_L4.eq_2, h.1.1.1, if_pos (by simp (disch := omega) only [nI_leI]; omega), show i = H.1.1 by omega]
    exact ⟨F, rfl, KX.rf⟩
  | succ m ih =>
    intro i n F hi hn h hs'
    obtain ⟨n, rfl⟩ : ∃ k, n = k + 1 := ⟨n - 1, by omega⟩
    have hnb := h.nb
    have hnw := h.nw
    obtain ⟨F1, e1, e2, e3, -⟩ := x_trial hN h
    have hk := HR.setW (i := i0) (o := some i) e2
    generalize hF2 : fput F1 (16 + 2) i0 (wI (some i)) = F2 at hk
    have hK2 := e3.tr hk.2.X
    obtain ⟨F3, g1, g2⟩ := x_soIn (N := N) hN (h.2.2.1.setW (i := i0) (fun b e => by cases e; omega)) (by have := h.2.2.2.2.1; show H.1.2.2.2 ≤ 10000; omega) (hs'.X hK2) hk.1
    have hK := hK2.tr g2.X
    obtain ⟨F4, z1, z2⟩ := ih (i + 1) n F3 (by omega) (by omega) (h.X hK) (hs'.X hK)
    refine ⟨F4, ?_, hK.tr z2⟩
    rw [fX6_candidates_L4.eq_2, h.1.1.1, if_neg (by simp (disch := omega) only [nI_leI]; omega), e1, bnd_some, st_ok a18 (by omega), show nI i = wI (some i) from rfl, hF2, g1, bnd_some, show wI (some i) + 1 = nI (i + 1) from nI_1 i, show wI (some i) = nI i from rfl, bit_step (f := fun b => seeB (setW H i0 (some b)) sm e)]
    exact z1
