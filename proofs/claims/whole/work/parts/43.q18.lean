/-! QUESTIONS: the best of all rows, the reference -/
theorem mor_ok : ∀ a, a < 64 → ∀ d, d < 6 → nI a ||| ((1 : Int32) <<< (nI d &&& 31)) = nI (a ||| 2 ^ d) ∧ a ||| 2 ^ d < 64 := by decide +kernel
theorem full_ok : ∀ nb, nb < 7 → ((1 : Int32) <<< (nI nb &&& 31)) - 1 = nI (2 ^ nb - 1) ∧ 2 ^ nb - 1 < 64 := by decide +kernel
theorem beq_bI {a b : Nat} (ha : a < 2 ^ 31) (hb : b < 2 ^ 31) : (if ¬ nI a = nI b then (0 : Int32) else 1) = bI (Nat.beq a b) := by
  simp (disch := omega) only [nI_eq]
  by_cases c : a = b
  · subst c; rw [if_neg (fun h => h rfl), Nat.beq_refl]; rfl
  · rw [if_pos c]
    have : Nat.beq a b = false := by
      cases h : Nat.beq a b with
      | false => rfl
      | true => exact absurd (Nat.eq_of_beq_eq_true h) c
    rw [this]; rfl
theorem y_isRow_L {N nb : Nat} {F : FF} (h1 : 1 ≤ nb) (h6 : nb ≤ 6) (hF : F 82 1 = nI nb) : ∀ (m i n a c : Nat), i + m = nb → m < n → a < 64 → c < 2 ^ 31 → fX7_isRow_L7 N n (nI a) (nI c) (nI i) F = some (bI (Nat.beq (mskL nb m a c) (2 ^ nb - 1)), F) := by
  intro m
  induction m with
  | zero =>
    intro i n a c hi hn ha hc
    obtain ⟨n, rfl⟩ : ∃ k, n = k + 1 := ⟨n - 1, by omega⟩
    have hf := full_ok nb (by omega)
    rw [fX7_isRow_L7.eq_2, hF, if_pos (by simp (disch := omega) only [nI_leI]; omega), hf.1, beq_bI (by omega) (by omega)]
    rfl
  | succ m ih =>
    intro i n a c hi hn ha hc
    obtain ⟨n, rfl⟩ : ∃ k, n = k + 1 := ⟨n - 1, by omega⟩
    have hm : c % nb < nb := Nat.mod_lt _ (by omega)
    have hd : c / nb ≤ c := Nat.div_le_self _ _
    have hmo := mor_ok a ha (c % nb) (by omega)
    rw [fX7_isRow_L7.eq_2, hF, if_neg (by simp (disch := omega) only [nI_leI]; omega), dv_ok (by simp (disch := omega) only [il, nI_eq]; omega), dv_ok (by simp (disch := omega) only [il, nI_eq]; omega), irem_nI hc (by omega) (by omega), pk_div hc (by omega) (by omega), hmo.1, show nI i + 1 = nI (i + 1) from nI_1 i]
    exact ih (i + 1) n _ _ (by omega) (by omega) hmo.2 (by omega)
theorem y_isRow {N nb c : Nat} {F : FF} (hN : 1000 ≤ N) (h1 : 1 ≤ nb) (h6 : nb ≤ 6) (hF : F 82 1 = nI nb) (hc : c < 2 ^ 31) : fX7_isRow N (nI c) F = some (bI (isR nb c), F) :=
  y_isRow_L h1 h6 hF nb 0 N 0 c (by omega) (by omega) (by omega) hc
theorem y_ordered_L {N nb s c0 : Nat} {F0 : FF} (h1 : 1 ≤ nb) (h6 : nb ≤ 6) (hs : s < 4) : ∀ (i m n a c : Nat) (F : FF), i + m = nb → i < n → a < 64 → c < 2 ^ 31 → c = c0 / nb ^ m → F 82 1 = nI nb → (∀ k, k ≠ 83 → F k = F0 k) → (∀ k, F 83 k = if 402 + 6 * s + i ≤ k ∧ k < 402 + 6 * s + nb then nI (dig nb c0 (k - (402 + 6 * s))) else F0 83 k) → ∃ F1, fX7_ordered_L21 N (nI s) n (nI a) (nI c) (lz i) F = some (bI (Nat.beq (mskL nb i a c) (2 ^ nb - 1)), F1) ∧ (∀ k, k ≠ 83 → F1 k = F0 k) ∧ ∀ k, F1 83 k = if 402 + 6 * s ≤ k ∧ k < 402 + 6 * s + nb then nI (dig nb c0 (k - (402 + 6 * s))) else F0 83 k := by
  intro i
  induction i with
  | zero =>
    intro m n a c F hi hn ha hc hcc hF g1 g2
    obtain ⟨n, rfl⟩ : ∃ k, n = k + 1 := ⟨n - 1, by omega⟩
    have hf := full_ok nb (by omega)
    rw [fX7_ordered_L21.eq_2, if_pos (by decide), hF, hf.1, beq_bI (by omega) (by omega)]
    exact ⟨F, rfl, g1, fun k => by rw [g2]; rfl⟩
  | succ i ih =>
    intro m n a c F hi hn ha hc hcc hF g1 g2
    obtain ⟨n, rfl⟩ : ∃ k, n = k + 1 := ⟨n - 1, by omega⟩
    have hm : c % nb < nb := Nat.mod_lt _ (by omega)
    have hd : c / nb ≤ c := Nat.div_le_self _ _
    have hmo := mor_ok a ha (c % nb) (by omega)
    have hz2 : nI i + (-1) = lz i := by
      unfold lz
      by_cases c : i = 0
      · subst c; rfl
      · rw [if_neg c, nI_dec (by omega)]
    have ea : 402 + 6 * nI s + nI i = nI (402 + 6 * s + i) := by rw [show 6 * nI s = nI (6 * s) from nI_mul 6 s, show 402 + nI (6 * s) = nI (402 + 6 * s) from nI_add 402 _, nI_add]
    have hdg : dig nb c0 i = c % nb := by
      unfold dig
      rw [if_pos (by omega), show nb - 1 - i = m by omega, hcc]
    obtain ⟨F1, hF1⟩ : ∃ F1, fput F 83 (402 + 6 * s + i) (nI (c % nb)) = F1 := ⟨_, rfl⟩
    have f1 : ∀ k, k ≠ 83 → F1 k = F k := fun k hk => by rw [← hF1, fput_a hk]
    have f2 : F1 82 1 = nI nb := by rw [f1 82 (by omega), hF]
    obtain ⟨F2, z1, z2, z3⟩ := ih (m + 1) n (a ||| 2 ^ (c % nb)) (c / nb) F1 (by omega) (by omega) hmo.2 (by omega) (by rw [hcc, Nat.div_div_eq_div_mul, Nat.pow_succ]) f2 (fun k hk => (f1 k hk).trans (g1 k hk)) (fun k => by
      rw [← hF1, fpu, g2]
      by_cases e : k = 402 + 6 * s + i
      · subst e
        rw [if_pos ⟨rfl, rfl⟩, if_pos (by omega), show 402 + 6 * s + i - (402 + 6 * s) = i by omega, hdg]
      · rw [if_neg (fun h => e h.2)]
        by_cases e2 : 402 + 6 * s + (i + 1) ≤ k ∧ k < 402 + 6 * s + nb
        · rw [if_pos e2, if_pos (by omega)]
        · rw [if_neg e2, if_neg (by omega)])
    refine ⟨F2, ?_, z2, z3⟩
    rw [fX7_ordered_L21.eq_2, show lz (i + 1) = nI i from rfl, if_neg (nI_lt0 (by omega)), hF, dv_ok (by simp (disch := omega) only [il, nI_eq]; omega), dv_ok (by simp (disch := omega) only [il, nI_eq]; omega), irem_nI hc (by omega) (by omega), ea, st_ok a83 (by omega), hF1, f2, dv_ok (by simp (disch := omega) only [il, nI_eq]; omega), pk_div hc (by omega) (by omega), hmo.1, hz2]
    exact z1
theorem y_ordered {N s c : Nat} {F : FF} {H : Hs} (hN : 1000 ≤ N) (h : RH F H) (hs : s < H.1.2.1) (hc : c < 2 ^ 31) : ∃ F1, fX7_ordered N (nI s) (nI c) F = some (bI (isR H.1.1 c), F1) ∧ PR 375 F1 (upS H s (rsh H.1.1 (H.2.1 s) c)) ∧ KY F F1 := by
  have hns := h.ns
  have hnb := h.nb
  have hnw := h.nw
  obtain ⟨F1, e1, e2, e3⟩ := y_page (N := N) (t := 375) hN h (by omega)
  have h1 := h.Y e3
  obtain ⟨F2, z1, z2, z3⟩ := y_ordered_L (N := N) (nb := H.1.1) (s := s) (c0 := c) (F0 := F1) hnb.1 hnb.2 (by omega) H.1.1 0 N 0 c F1 (by omega) (by omega) (by omega) hc (by rw [Nat.pow_zero, Nat.div_one]) h1.2.1.1.1 (fun _ _ => rfl) (fun k => by rw [if_neg (by omega)])
  have hx := h.2.2.1.2.2.2.2.2 s hs
  obtain ⟨q1, q2, q3, q4⟩ := e2.2.2 s hs
  have hQ : QR 375 s F2 (rsh H.1.1 (H.2.1 s) c) := by
    refine ⟨by rw [z3, if_neg (by omega)]; exact q1, by rw [z3, if_neg (by omega)]; exact q2, fun p hp => ?_, fun p hp => by rw [z3, if_neg (by omega)]; exact q4 p hp⟩
    rw [z3]
    show _ = nI (dig H.1.1 c p)
    by_cases e : p < H.1.1
    · rw [if_pos (by omega)]
      congr 2
      omega
    · rw [if_neg (by omega), q3 p hp, hx.2.2.2.2.1 p hp (by omega)]
      unfold dig
      rw [if_neg e]
  refine ⟨F2, ?_, e2.up hnw hns hs hQ (fun k _ _ => by rw [z2 82 (by omega)]) (fun k _ _ hk _ => by rw [z3, if_neg (by omega)]), e3.tr ⟨fun c _ h83 _ _ => z2 c h83, fun k _ _ => by rw [z2 82 (by omega)], fun k hk => by rw [z3, if_neg (by omega)]⟩⟩
  unfold fX7_ordered
  rw [show (375 : Int32) = nI 375 from rfl, e1, bnd_some, h1.2.1.1.1, show nI H.1.1 - 1 = lz H.1.1 by unfold lz; rw [if_neg (by omega)]; exact nI_sub hnb.1]
  exact z1
theorem chk_okR {nb : Nat} : ∀ (m c : Nat) (cur : Option Nat) (k : Nat), chk nb m c cur k = true → ∀ x, c ≤ x → x < c + m → isR nb x = true → okR nb x = true := by
  intro m
  induction m with
  | zero => intro c cur k _ x h1 h2 _; omega
  | succ m ih =>
    intro c cur k hc x h1 h2 hr
    unfold chk at hc
    cases hi : isR nb c with
    | false =>
      rw [hi] at hc
      have : x ≠ c := fun e => by rw [e, hi] at hr; cases hr
      exact ih (c + 1) cur k hc x (by omega) (by omega) hr
    | true =>
      rw [hi] at hc
      cases cur with
      | none => cases hc
      | some y =>
        simp only [Bool.and_eq_true] at hc
        obtain ⟨⟨⟨c1, c2⟩, c3⟩, c4⟩ := hc
        by_cases e : x = c
        · rw [e]; exact c2
        · cases hx : nxt nb (dig nb c) with
          | none => rw [hx] at c4; exact ih (c + 1) _ _ c4 x (by omega) (by omega) hr
          | some r =>
            rw [hx] at c4
            simp only [Bool.and_eq_true] at c4
            exact ih (c + 1) _ _ c4.2 x (by omega) (by omega) hr
theorem pow66 : ∀ nb, nb < 7 → nb ^ nb ≤ 46656 := by decide +kernel
theorem y_ord {N s : Nat} {l2 : Int32} {H : Hs} (hN : 50000 ≤ N) (hs : s < H.1.2.1) : ∀ (m c n : Nat) (F : FF) (p : Option Nat × Nat), c + m = H.1.1 ^ H.1.1 → m < n → RH F H → p.2 < 2 ^ 31 → ∃ F1, fX7_order_L62 N (nI s) l2 (nI (H.1.1 ^ H.1.1)) n (nI p.2) (nI (p.1.getD 0)) (nI c) F = fX7_order_L160 N l2 (nI (orF H s m c p).2) N (nI ((orF H s m c p).1.getD 0)) (nI H.1.1 - 1) F1 ∧ KY F F1 := by
  intro m
  induction m with
  | zero =>
    intro c n F p hc hn h hp
    obtain ⟨n, rfl⟩ : ∃ k, n = k + 1 := ⟨n - 1, by omega⟩
    have hnb := h.nb
    have h66 := pow66 H.1.1 (by omega)
    refine ⟨F, ?_, KY.rf⟩
    rw [fX7_order_L62.eq_2, if_pos (by simp (disch := omega) only [nI_leI]; omega), h.2.1.1.1]
    rfl
  | succ m ih =>
    intro c n F p hc hn h hp
    obtain ⟨n, rfl⟩ : ∃ k, n = k + 1 := ⟨n - 1, by omega⟩
    have hnb := h.nb
    have hns := h.ns
    have hnw := h.nw
    have hW := h.2.2.1
    have h66 := pow66 H.1.1 (by omega)
    rw [orF, fX7_order_L62.eq_2, if_neg (by simp (disch := omega) only [nI_leI]; omega), y_isRow (by omega) hnb.1 hnb.2 h.2.1.1.1 (by omega), bnd_some]
    cases hr : isR H.1.1 c with
    | false =>
      rw [if_pos (show bI false = 0 from rfl), if_neg (by decide), fX7_order_b146, show nI c + 1 = nI (c + 1) from nI_1 c]
      exact ih (c + 1) n F p (by omega) (by omega) h hp
    | true =>
      have hok := chk_okR _ _ _ _ (chk_ok H.1.1 hnb.1 hnb.2) c (by omega) (by omega) hr
      have hrow := rsh_ok (hW.2.2.2.2.2 s hs) hok
      obtain ⟨F1, e1, e2, e3⟩ := y_ordered (N := N) (s := s) (c := c) (by omega) h hs (by omega)
      have h1 := h.Y e3
      obtain ⟨F2, g1, g2, g3, g4⟩ := y_go (N := N) (pg := 375) (nn := H.1.2.2.1) (by omega) (by omega) e2 (hW.up hrow) (by show H.1.2.2.2 ≤ 10000; have := h.2.2.2.2.1; omega) (by omega)
      have hK := e3.tr (g4.Y (show 225 ≤ 300 by omega))
      have hv : F2 88 s = nI (orV H s c) := by
        have := g3.1 s (by omega)
        rw [this]
        congr 1
        show (if s < H.1.2.1 then _ else 0) = _
        rw [if_pos hs, upS_at]
        rfl
      have hle : orV H s c ≤ 7 * H.1.2.2.1 := pdS_le _
      rw [hr] at e1
      have h25 : F1 83 25 = nI H.1.2.2.1 := h1.2.1.1.2.2.1
      rw [if_neg (show ¬ bI true = 0 by decide), e1, bnd_some, if_neg (show ¬ bI true = 0 by decide), if_pos rfl, h25, show (375 : Int32) = nI 375 from rfl, g1, bnd_some, ld_ok a88 (by omega), ld_ok a88 (by omega), hv]
      unfold off
      by_cases cv : orV H s c < p.2
      · have nl : ¬ nI p.2 ≤ nI (orV H s c) := by simp (disch := omega) only [nI_leI]; omega
        obtain ⟨F3, z1, z2⟩ := ih (c + 1) n F2 (some c, orV H s c) (by omega) (by omega) (h.Y hK) (by show orV H s c < 2 ^ 31; omega)
        refine ⟨F3, ?_, hK.tr z2⟩
        rw [if_neg nl, if_pos cv, ld_ok a88 (by omega), hv, fX7_order_b144, fX7_order_b146, if_neg nl, show nI c + 1 = nI (c + 1) from nI_1 c]
        exact z1
      · have nl : nI p.2 ≤ nI (orV H s c) := by simp (disch := omega) only [nI_leI]; omega
        obtain ⟨F3, z1, z2⟩ := ih (c + 1) n F2 p (by omega) (by omega) (h.Y hK) hp
        refine ⟨F3, ?_, hK.tr z2⟩
        rw [if_pos nl, if_neg cv, fX7_order_b144, fX7_order_b146, if_pos nl, show nI c + 1 = nI (c + 1) from nI_1 c]
        exact z1
