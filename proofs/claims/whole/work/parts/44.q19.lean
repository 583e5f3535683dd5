/-! QUESTIONS: the best of all rows, both -/
theorem orF_some {H : Hs} {s : Nat} : ∀ (m c : Nat) (p : Option Nat × Nat), (∃ x, p.1 = some x ∧ x < c) → ∃ x, (orF H s m c p).1 = some x ∧ x < c + m := by
  intro m
  induction m with
  | zero => intro c p h; exact h
  | succ m ih =>
    intro c p h
    rw [orF]
    have key : ∃ x, (if isR H.1.1 c = true then off p c (orV H s c) else p).1 = some x ∧ x < c + 1 := by
      obtain ⟨x, h1, h2⟩ := h
      split
      · unfold off
        split
        · exact ⟨c, rfl, by omega⟩
        · exact ⟨x, h1, by omega⟩
      · exact ⟨x, h1, by omega⟩
    obtain ⟨x, h1, h2⟩ := ih (c + 1) _ key
    exact ⟨x, h1, by omega⟩
theorem orF_start {H : Hs} {s L L' : Nat} (hL : 7 * H.1.2.2.1 < L) (hL' : 7 * H.1.2.2.1 < L') : ∀ (m c : Nat) (x : Nat) (k : Nat), chk H.1.1 m c (some x) k = true → orF H s m c (none, L) = orF H s m c (none, L') ∧ ∃ x, (orF H s m c (none, L)).1 = some x ∧ x < c + m := by
  intro m
  induction m with
  | zero => intro c x k h; cases h
  | succ m ih =>
    intro c x k hc
    unfold chk at hc
    rw [orF, orF]
    cases hi : isR H.1.1 c with
    | false =>
      rw [hi] at hc
      rw [if_neg (by decide), if_neg (by decide)]
      obtain ⟨h1, y, h2, h3⟩ := ih (c + 1) x k hc
      exact ⟨h1, y, h2, by omega⟩
    | true =>
      have hle : orV H s c ≤ 7 * H.1.2.2.1 := pdS_le _
      have e : ∀ M, 7 * H.1.2.2.1 < M → off (none, M) c (orV H s c) = (some c, orV H s c) := fun M hM => by
        unfold off
        rw [if_pos (show orV H s c < M by omega)]
      rw [if_pos rfl, if_pos rfl, e L hL, e L' hL']
      obtain ⟨y, h2, h3⟩ := orF_some (H := H) (s := s) m (c + 1) (some c, orV H s c) ⟨c, rfl, by omega⟩
      exact ⟨rfl, y, h2, by omega⟩
theorem x_ord23 {N s : Nat} {l2 : Nat} {F0 : FF} : ∀ (m i n : Nat) (F : FF), i + m = 6 → m < n → (∀ c, c ≠ 41 → F c = F0 c) → (∀ p, p < i → F 41 p = nI p) → ∃ F1, fX6_findBestRow_L23 N (nI s) l2 n (nI i) F = fX6_findBestRow_L51 N (nI s) l2 N 1000000000 1 0 F1 ∧ (∀ c, c ≠ 41 → F1 c = F0 c) ∧ ∀ p, p < 6 → F1 41 p = nI p := by
  intro m
  induction m with
  | zero =>
    intro i n F hi hn h1 h2
    obtain ⟨n, rfl⟩ : ∃ k, n = k + 1 := ⟨n - 1, by omega⟩
    refine ⟨F, ?_, h1, fun p hp => h2 p (by omega)⟩
    rw [fX6_findBestRow_L23.eq_2, if_pos (by show nI 6 ≤ nI i; simp (disch := omega) only [nI_leI]; omega)]
  | succ m ih =>
    intro i n F hi hn h1 h2
    obtain ⟨n, rfl⟩ : ∃ k, n = k + 1 := ⟨n - 1, by omega⟩
    rw [fX6_findBestRow_L23.eq_2, if_neg (by show ¬ nI 6 ≤ nI i; simp (disch := omega) only [nI_leI]; omega), st_ok a41 (by omega), show nI i + 1 = nI (i + 1) from nI_1 i]
    refine ih (i + 1) n _ (by omega) (by omega) (fun c hc => by rw [fput_a hc]; exact h1 c hc) (fun p hp => ?_)
    rw [fpu]
    by_cases e : p = i
    · rw [if_pos ⟨rfl, e⟩, e]
    · rw [if_neg (fun h => e h.2)]; exact h2 p (by omega)
/-- the best row -/
def orB (H : Hs) (s : Nat) : Option Nat × Nat := orF H s (H.1.1 ^ H.1.1) 0 (none, 1000000)
theorem x_best {N s : Nat} {F : FF} {H : Hs} (hN : 50000 ≤ N) (h : RH F H) (hs : s < H.1.2.1) : ∃ F1 x, fX6_findBestRow N (nI s) F = some (nI (orB H s).2, F1) ∧ KX F F1 ∧ (orB H s).1 = some x ∧ x < 46656 ∧ ∀ q, q < 6 → F1 42 q = nI (dig H.1.1 x q) := by
  have hns := h.ns
  have hnb := h.nb
  have hnw := h.nw
  have h66 := pow66 H.1.1 (by omega)
  obtain ⟨F1, e1, e2, e3, -⟩ := x_trial (show 1000 ≤ N by omega) h
  obtain ⟨F2, g1, g2, g3⟩ := x_ord23 (N := N) (s := s) (l2 := 16 + 3 + 3 * s) 6 0 N F1 rfl (by omega) (fun _ _ => rfl) (fun p hp => by omega)
  have k2 : KX F1 F2 := fun c hc => g2 c (by omega)
  obtain ⟨o1, x, o2, o3⟩ := orF_start (H := H) (s := s) (L := 1000000) (L' := 1000000000) (by omega) (by omega) _ _ _ _ (chk_ok H.1.1 hnb.1 hnb.2)
  obtain ⟨F3, z1, z2, z3⟩ := x_ord (N := N) (s := s) (H := H) (by omega) hs (H.1.1 ^ H.1.1) 0 N 0 (some (cod H.1.1 (fun p => p) H.1.1)) F2 (H.2.1 s) (none, 1000000000) (chk_ok H.1.1 hnb.1 hnb.2) (by omega) (by omega) ((h.X e3).X k2) (upS_self (e2.keep hns (fun c _ _ => g2 c (by omega)))) (h.2.2.1.2.2.2.2.2 s hs) (fun y hy q hq => by
    cases hy
    rw [g3 q hq, cod_id H.1.1 (by omega) q hq]) (by show 1000000000 < 2 ^ 31; omega) (fun y hy => by cases hy)
  rw [← o1] at z1 z3
  refine ⟨F3, x, ?_, (e3.tr k2).tr z2, o2, by omega, z3 x o2⟩
  unfold fX6_findBestRow
  rw [e1, bnd_some, show ldR 5 17 (nI s) = ldR 5 (16 + 1) (nI s) from rfl, ldR_H iH16 (show s < 4 by omega), show (0 : Int32) = nI 0 from rfl, g1]
  exact z1
theorem y_ord30 {N nb : Nat} {l1 l2 : Int32} {F : FF} (h6 : nb ≤ 6) (hF : F 82 1 = nI nb) : ∀ (m i n : Nat), i + m = nb → m < n → fX7_order_L30 N l1 l2 n (nI (nb ^ i)) (nI i) F = fX7_order_L62 N l1 l2 (nI (nb ^ nb)) N 1000000 0 0 F := by
  intro m
  induction m with
  | zero =>
    intro i n hi hn
    obtain ⟨n, rfl⟩ : ∃ k, n = k + 1 := ⟨n - 1, by omega⟩
    rw [fX7_order_L30.eq_2, hF, if_pos (by simp (disch := omega) only [nI_leI]; omega), show i = nb by omega]
  | succ m ih =>
    intro i n hi hn
    obtain ⟨n, rfl⟩ : ∃ k, n = k + 1 := ⟨n - 1, by omega⟩
    rw [fX7_order_L30.eq_2, hF, if_neg (by simp (disch := omega) only [nI_leI]; omega), nI_mul, ← Nat.pow_succ, show nI i + 1 = nI (i + 1) from nI_1 i]
    exact ih (i + 1) n (by omega) (by omega)
theorem y_ord160 {N nb j : Nat} {l4 : Int32} {F : FF} (h1 : 1 ≤ nb) (h6 : nb ≤ 6) (hF : F 82 1 = nI nb) : ∀ (m n c : Nat), j + m < nb → m < n → c < 2 ^ 31 → fX7_order_L160 N (nI (10 + j)) l4 n (nI c) (nI (j + m)) F = some (nI (c / nb ^ m % nb), F) := by
  have e10 : nI (10 + j) - 10 = nI j := by rw [show (10 : Int32) = nI 10 from rfl, nI_sub (by omega)]; congr 1; omega
  have b188 : ∀ c, c < 2 ^ 31 → fX7_order_b188 N (nI (10 + j)) l4 (nI c) F = some (nI (c % nb), F) ∨ ¬ j < nb := by
    intro c hc
    by_cases hj : j < nb
    · left
      unfold fX7_order_b188
      rw [if_pos (by simp (disch := omega) only [il, nI_eq]; omega), hF, dv_ok (by simp (disch := omega) only [il, nI_eq]; omega), irem_nI hc (by omega) (by omega)]
    · exact Or.inr hj
  intro m
  induction m with
  | zero =>
    intro n c hj hn hc
    obtain ⟨n, rfl⟩ : ∃ k, n = k + 1 := ⟨n - 1, by omega⟩
    rw [fX7_order_L160.eq_2, e10, if_pos (by simp (disch := omega) only [nI_leI]; omega), (b188 c hc).resolve_right (by omega), Nat.pow_zero, Nat.div_one]
  | succ m ih =>
    intro n c hj hn hc
    obtain ⟨n, rfl⟩ : ∃ k, n = k + 1 := ⟨n - 1, by omega⟩
    have hd : c / nb ≤ c := Nat.div_le_self _ _
    rw [fX7_order_L160.eq_2, e10, if_neg (by simp (disch := omega) only [nI_leI]; omega), if_neg (by show ¬ nI (10 + j) ≤ nI 0; simp (disch := omega) only [nI_leI]; omega), hF, dv_ok (by simp (disch := omega) only [il, nI_eq]; omega), pk_div hc (by omega) (by omega), nI_dec (by omega), show j + (m + 1) - 1 = j + m by omega, ih n (c / nb) (by omega) (by omega) (by omega), Nat.div_div_eq_div_mul, Nat.pow_succ, Nat.mul_comm nb]
theorem y_best {N s : Nat} {l2 : Int32} {F : FF} {H : Hs} (hN : 50000 ≤ N) (h : RH F H) (hs : s < H.1.2.1) : ∃ F1, fX7_order_b25 N (nI s) l2 F = fX7_order_L160 N l2 (nI (orB H s).2) N (nI ((orB H s).1.getD 0)) (nI H.1.1 - 1) F1 ∧ KY F F1 := by
  have hnb := h.nb
  have h66 := pow66 H.1.1 (by omega)
  obtain ⟨F1, z1, z2⟩ := y_ord (N := N) (s := s) (l2 := l2) (H := H) hN hs (H.1.1 ^ H.1.1) 0 N F (none, 1000000) (by omega) (by omega) h (by show 1000000 < 2 ^ 31; omega)
  refine ⟨F1, ?_, z2⟩
  unfold fX7_order_b25
  have e := y_ord30 (N := N) (nb := H.1.1) (l1 := nI s) (l2 := l2) hnb.2 h.2.1.1.1 H.1.1 0 N (by omega) (by omega)
  rw [Nat.pow_zero] at e
  exact e.trans z1
theorem q_order {N : Nat} {l1 l2 : Int32} {F : FF} {H : Hs} (hN : 50000 ≤ N) (h : RH F H) : QOK (fX6_order N l1 l2) (fX7_order N l1 l2) F := by
  unfold QOK fX6_order fX7_order
  have hns := h.ns
  have hnb := h.nb
  have hnb0 : F 1 0 = nI H.1.1 := h.1.1.1
  have ehi : (10 + F 1 0) - 1 = nI (9 + H.1.1) := by
    rw [hnb0, show 10 + nI H.1.1 = nI (10 + H.1.1) from nI_add 10 _, show (1 : Int32) = nI 1 from rfl, nI_sub (by omega)]
    congr 1
    omega
  rw [h.xS, ehi]
  rcases guard (x := l1) H.1.2.1 with ⟨s, hs, rfl⟩ | hg
  · rw [bI_nI hs (by omega), if_neg n10]
    obtain ⟨F1, x, g1, g2, g3, g4, g5⟩ := x_best hN h hs
    have h1 := h.X g2
    by_cases c0 : l2 = 0
    · subst c0
      obtain ⟨F2, y1, y2⟩ := y_best (l2 := 0) hN h1 hs
      refine ⟨nI (orB H s).2, F1, F2, ?_, ?_, g2, y2⟩
      · rw [if_pos rfl, fX6_order_b40, g1, bnd_some, x_in, if_pos]
        exact bI_f (by rw [show (10 : Int32).toInt = 10 from rfl, show (0 : Int32).toInt = 0 from rfl]; omega)
      · rw [h1.yS, bnd_some, bI_nI hs (by omega), if_neg n10, if_pos rfl, y1]
        obtain ⟨K, hK⟩ : ∃ k, N = k + 1 := ⟨N - 1, by omega⟩
        rw [hK, fX7_order_L160.eq_2, show nI H.1.1 - 1 = nI (H.1.1 - 1) from nI_sub hnb.1]
        have e : fX7_order_b188 (K + 1) 0 (nI (orB H s).2) (nI ((orB H s).1.getD 0)) F2 = some (nI (orB H s).2, F2) := by
          unfold fX7_order_b188
          rw [if_neg (fun h => h rfl)]
        rw [e]
        split
        · rfl
        · rw [if_pos (by decide)]
    · rw [if_neg c0]
      rcases guard (x := l2 - 10) H.1.1 with ⟨j, hj, he⟩ | hg2
      · have e2 : l2 = nI (10 + j) := by
          have : l2 = (l2 - 10) + 10 := (Int32.sub_add_cancel l2 10).symm
          rw [this, he, show (10 : Int32) = nI 10 from rfl, nI_add, Nat.add_comm]
        subst e2
        obtain ⟨F2, y1, y2⟩ := y_best (l2 := nI (10 + j)) hN h1 hs
        have hw : pX6_within (nI (10 + j)) 10 (nI (9 + H.1.1)) F = 1 := by
          rw [x_in]
          exact bI_t (by rw [show (10 : Int32).toInt = 10 from rfl, nI_toInt (by omega), nI_toInt (by omega)]; omega)
        have h2 := h1.Y y2
        refine ⟨nI (dig H.1.1 x j), F1, F2, ?_, ?_, g2, y2⟩
        · rw [hw, if_pos n10, fX6_order_b40, g1, bnd_some, if_neg n10, he, ld_ok a42 (by omega), g5 j (by omega)]
        · rw [h1.yS, bnd_some, bI_nI hs (by omega), if_neg n10, if_neg c0, h1.yB, bnd_some, he, bI_nI hj (by omega), if_pos n10, y1, g3, show nI H.1.1 - 1 = nI (j + (H.1.1 - 1 - j)) by rw [show nI H.1.1 - 1 = nI (H.1.1 - 1) from nI_sub hnb.1]; congr 1; omega]
          show fX7_order_L160 N _ _ N (nI x) _ F2 = _
          rw [y_ord160 hnb.1 hnb.2 h2.2.1.1.1 (H.1.1 - 1 - j) N x (by omega) (by omega) (by omega)]
          unfold dig
          rw [if_pos hj]
      · have hw : pX6_within l2 10 (nI (9 + H.1.1)) F = 0 := by
          rw [x_in]
          refine bI_f (fun hc => hg2 ?_)
          rw [show (10 : Int32).toInt = 10 from rfl, nI_toInt (by omega)] at hc
          obtain ⟨k, hk1, hk2⟩ := of_range (x := l2) (n := 16) (by omega) (by omega)
          subst hk2
          rw [nI_toInt (by omega)] at hc
          rw [show (10 : Int32) = nI 10 from rfl, nI_sub (by omega), nI_toInt (by omega)]
          omega
        refine ⟨-1, F, F, ?_, ?_, KX.rf, KY.rf⟩
        · rw [hw, if_neg (by decide)]
        · rw [h.yS, bnd_some, bI_nI hs (by omega), if_neg n10, if_neg c0, h.yB, bnd_some, bI_f hg2, if_neg (by decide)]
  · refine ⟨-1, F, F, ?_, ?_, KX.rf, KY.rf⟩
    · rw [bI_f hg, if_pos rfl]
    · rw [h.yS, bnd_some, bI_f hg, if_pos rfl]
