/-! QUESTIONS: the best of all rows, the program -/
theorem x_exch {N i j : Nat} {F : FF} {r : Nat → Nat} (hi : i < 6) (hj : j < 6) (h : ∀ p, p < 6 → F 41 p = nI (r p)) : ∃ F1, fX6_exchange N 41 (nI i) (nI j) F = some ((), F1) ∧ (∀ p, p < 6 → F1 41 p = nI (sw r i j p)) ∧ ∀ c, c ≠ 41 → F1 c = F c := by
  unfold fX6_exchange
  rw [ld_ok a41 hi, ld_ok a41 hj, st_ok a41 hi, st_ok a41 hj, h i hi, h j hj]
  refine ⟨_, rfl, fun p hp => ?_, fun c hc => by rw [fput_a hc, fput_a hc]⟩
  rw [fpu, fpu]
  unfold sw
  by_cases e : p = j
  · rw [if_pos ⟨rfl, e⟩, if_pos e]
  · rw [if_neg (fun h => e h.2), if_neg e]
    by_cases e2 : p = i
    · rw [if_pos ⟨rfl, e2⟩, if_pos e2]
    · rw [if_neg (fun h => e2 h.2), if_neg e2, h p hp]
theorem x_nx73 {N : Nat} : ∀ (m i j n : Nat) (F : FF) (r : Nat → Nat), j ≤ i + 2 * m → j < 6 → i ≤ 20 → m < n → (∀ p, p < 6 → F 41 p = nI (r p)) → ∃ F1, fX6_nextRow_L73 N 41 n (nI i) (nI j) F = some (1, F1) ∧ (∀ p, p < 6 → F1 41 p = nI (rvF m r i j p)) ∧ ∀ c, c ≠ 41 → F1 c = F c := by
  intro m
  induction m with
  | zero =>
    intro i j n F r h1 h2 h3 hn h
    obtain ⟨n, rfl⟩ : ∃ k, n = k + 1 := ⟨n - 1, by omega⟩
    rw [fX6_nextRow_L73.eq_2, if_pos (by simp (disch := omega) only [nI_leI]; omega)]
    exact ⟨F, rfl, h, fun _ _ => rfl⟩
  | succ m ih =>
    intro i j n F r h1 h2 h3 hn h
    obtain ⟨n, rfl⟩ : ∃ k, n = k + 1 := ⟨n - 1, by omega⟩
    rw [fX6_nextRow_L73.eq_2, rvF]
    by_cases e : j ≤ i
    · rw [if_pos (by simp (disch := omega) only [nI_leI]; omega), if_pos e]
      exact ⟨F, rfl, h, fun _ _ => rfl⟩
    · obtain ⟨F1, e1, e2, e3⟩ := x_exch (N := N) (i := i) (j := j) (by omega) h2 h
      obtain ⟨F2, z1, z2, z3⟩ := ih (i + 1) (j - 1) n F1 (sw r i j) (by omega) (by omega) (by omega) (by omega) e2
      refine ⟨F2, ?_, ?_, fun c hc => (z3 c hc).trans (e3 c hc)⟩
      · rw [if_neg (by simp (disch := omega) only [nI_leI]; omega), e1, bnd_some, show nI i + 1 = nI (i + 1) from nI_1 i, nI_dec (by omega)]
        exact z1
      · rw [if_neg e]; exact z2
theorem x_nx35 {N nb i : Nat} {F : FF} {r : Nat → Nat} (hr : ∀ p, p < 6 → r p < 6) (h : ∀ p, p < 6 → F 41 p = nI (r p)) (hi : i < 6) : ∀ (j n : Nat), j < 6 → j < n → fX6_nextRow_L35 N 41 (nI nb) (nI i) n (nI j) F = fX6_nextRow_b57 N 41 (nI nb) (nI i) (nI (nxB r i j)) F := by
  intro j
  induction j with
  | zero =>
    intro n hj hn
    obtain ⟨n, rfl⟩ : ∃ k, n = k + 1 := ⟨n - 1, by omega⟩
    rw [fX6_nextRow_L35.eq_2, show nI i + 1 = nI (i + 1) from nI_1 i, if_pos (by simp (disch := omega) only [nI_leI]; omega)]
    rfl
  | succ j ih =>
    intro n hj hn
    obtain ⟨n, rfl⟩ : ∃ k, n = k + 1 := ⟨n - 1, by omega⟩
    have h1 := hr i hi
    have h2 := hr (j + 1) hj
    rw [fX6_nextRow_L35.eq_2, show nI i + 1 = nI (i + 1) from nI_1 i, nxB]
    by_cases e : j + 1 ≤ i + 1
    · rw [if_pos (by simp (disch := omega) only [nI_leI]; omega), if_pos e]
    · rw [if_neg (by simp (disch := omega) only [nI_leI]; omega), if_neg e, ld_ok a41 hj, ld_ok a41 hi, h i hi, h (j + 1) hj]
      by_cases e2 : r i ≤ r (j + 1)
      · rw [if_pos (by simp (disch := omega) only [nI_leI]; omega), if_pos e2]
      · rw [if_neg (by simp (disch := omega) only [nI_leI]; omega), if_neg e2, nI_dec (by omega)]
        exact ih n (by omega) (by omega)
def lz (i : Nat) : Int32 := if i = 0 then -1 else nI (i - 1)
theorem x_nx4 {N nb : Nat} {F : FF} {r : Nat → Nat} (hr : ∀ p, p < 6 → r p < 6) (h : ∀ p, p < 6 → F 41 p = nI (r p)) : ∀ (i n : Nat), i < 6 → i < n → fX6_nextRow_L4 N 41 (nI nb) n (lz i) F = match nxA r i with
    | none => some (0, F)
    | some j => fX6_nextRow_L35 N 41 (nI nb) (nI j) N (nI nb - 1) F := by
  intro i
  induction i with
  | zero =>
    intro n hi hn
    obtain ⟨n, rfl⟩ : ∃ k, n = k + 1 := ⟨n - 1, by omega⟩
    rw [fX6_nextRow_L4.eq_2, if_pos (by decide), fX6_nextRow_b25, if_neg (by decide)]
    rfl
  | succ i ih =>
    intro n hi hn
    obtain ⟨n, rfl⟩ : ∃ k, n = k + 1 := ⟨n - 1, by omega⟩
    have h1 := hr i (by omega)
    have h2 := hr (i + 1) hi
    have hz : lz (i + 1) = nI i := rfl
    have hz2 : nI i + (-1) = lz i := by
      unfold lz
      by_cases c : i = 0
      · subst c; rfl
      · rw [if_neg c, nI_dec (by omega)]
    rw [fX6_nextRow_L4.eq_2, hz, if_neg (nI_lt0 (by omega)), show nI i + 1 = nI (i + 1) from nI_1 i, ld_ok a41 (by omega), ld_ok a41 hi, h i (by omega), h (i + 1) hi, nxA]
    by_cases e : r i ≤ r (i + 1)
    · rw [if_pos (by simp (disch := omega) only [nI_leI]; omega), if_pos e, fX6_nextRow_b25, if_pos (by show nI 0 ≤ nI i; simp (disch := omega) only [nI_leI]; omega)]
    · rw [if_neg (by simp (disch := omega) only [nI_leI]; omega), if_neg e, hz2]
      exact ih n (by omega) (by omega)
theorem nxA_lt {r : Nat → Nat} : ∀ i j, nxA r i = some j → j < i
  | 0, j, h => by cases h
  | i + 1, j, h => by
    unfold nxA at h
    split at h
    · cases h; omega
    · have := nxA_lt i j h; omega
theorem nxB_le {r : Nat → Nat} {i : Nat} : ∀ j, nxB r i j ≤ j
  | 0 => Nat.le_refl _
  | j + 1 => by
    unfold nxB
    split
    · omega
    · split
      · omega
      · have := nxB_le (r := r) (i := i) j; omega
theorem x_next {N nb : Nat} {F : FF} {r : Nat → Nat} (hN : 1000 ≤ N) (h1 : 1 ≤ nb) (h6 : nb ≤ 6) (hr : ∀ p, p < 6 → r p < 6) (h : ∀ p, p < 6 → F 41 p = nI (r p)) : ∃ F1, fX6_nextRow N 41 (nI nb) F = some (bI (nxt nb r).isSome, F1) ∧ (∀ r', nxt nb r = some r' → ∀ p, p < 6 → F1 41 p = nI (r' p)) ∧ ∀ c, c ≠ 41 → F1 c = F c := by
  have hz : nI nb - 2 = lz (nb - 1) := by
    unfold lz
    by_cases c : nb = 1
    · subst c; rfl
    · rw [if_neg (by omega), show (2 : Int32) = nI 2 from rfl, nI_sub (by omega)]; congr 1
  unfold fX6_nextRow
  rw [hz, x_nx4 hr h (nb - 1) N (by omega) (by omega)]
  cases hA : nxA r (nb - 1) with
  | none =>
    have e : nxt nb r = none := by unfold nxt; rw [hA]
    rw [e]
    exact ⟨F, rfl, fun r' h => (by cases h), fun _ _ => rfl⟩
  | some i =>
    have hi := nxA_lt _ _ hA
    have hB := nxB_le (r := r) (i := i) (nb - 1)
    have e : nxt nb r = some (rvF 6 (sw r i (nxB r i (nb - 1))) (i + 1) (nb - 1)) := by unfold nxt; rw [hA]
    rw [e]
    obtain ⟨F1, e1, e2, e3⟩ := x_exch (N := N) (i := i) (j := nxB r i (nb - 1)) (by omega) (by omega) h
    obtain ⟨F2, z1, z2, z3⟩ := x_nx73 (N := N) 6 (i + 1) (nb - 1) N F1 _ (by omega) (by omega) (by omega) (by omega) e2
    refine ⟨F2, ?_, fun r' h => by cases h; exact z2, fun c hc => (z3 c hc).trans (e3 c hc)⟩
    show fX6_nextRow_L35 N 41 (nI nb) (nI i) N (nI nb - 1) F = some (1, F2)
    rw [show nI nb - 1 = nI (nb - 1) from nI_sub h1, x_nx35 hr h (by omega) (nb - 1) N (by omega) (by omega), fX6_nextRow_b57, e1, bnd_some, show nI i + 1 = nI (i + 1) from nI_1 i, show nI nb - 1 = nI (nb - 1) from nI_sub h1]
    exact z1
theorem al6_ok {f : Nat → Bool} (h : al6 f = true) : ∀ p, p < 6 → f p = true := by
  intro p hp
  unfold al6 at h
  simp only [Bool.and_eq_true] at h
  rcases (show p = 0 ∨ p = 1 ∨ p = 2 ∨ p = 3 ∨ p = 4 ∨ p = 5 by omega) with rfl | rfl | rfl | rfl | rfl | rfl
  · exact h.1.1.1.1.1
  · exact h.1.1.1.1.2
  · exact h.1.1.1.2
  · exact h.1.1.2
  · exact h.1.2
  · exact h.2
theorem an6_ok {f : Nat → Bool} (h : an6 f = true) : ∃ p, p < 6 ∧ f p = true := by
  unfold an6 at h
  simp only [Bool.or_eq_true] at h
  rcases h with ((((h | h) | h) | h) | h) | h
  · exact ⟨0, by omega, h⟩
  · exact ⟨1, by omega, h⟩
  · exact ⟨2, by omega, h⟩
  · exact ⟨3, by omega, h⟩
  · exact ⟨4, by omega, h⟩
  · exact ⟨5, by omega, h⟩
/-- the shelf x in the row of the code c -/
def rsh (nb : Nat) (x : Sh) (c : Nat) : Sh := (x.1, dig nb c, x.2.2)
theorem rsh_ok {nb c : Nat} {x : Sh} (hx : WS nb x) (h : okR nb c = true) : WS nb (rsh nb x c) := by
  have h := al6_ok h
  simp only [Bool.and_eq_true] at h
  refine ⟨hx.1, fun p hp => Nat.le_of_ble_eq_true (h p hp).1.1, fun p hp q hq e => ?_, fun b hb => ?_, fun p hp hn => ?_, hx.2.2.2.2.2⟩
  · have := al6_ok (h p hp).1.2 q hq
    have e : dig nb c p = dig nb c q := e
    rw [e] at this
    rw [Nat.beq_refl, Bool.not_true, Bool.or_false] at this
    exact Nat.eq_of_beq_eq_true this
  · obtain ⟨p, hp, e⟩ := an6_ok (h b hb).2
    exact ⟨p, hp, Nat.eq_of_beq_eq_true e⟩
  · show dig nb c p = p
    unfold dig
    rw [if_neg (by omega)]
/-- what is paid for the row of the code c -/
def orV (H : Hs) (s c : Nat) : Nat := pdS (wAt H) (rsh H.1.1 (H.2.1 s) c) H.1.2.2.1
def orF (H : Hs) (s : Nat) : Nat → Nat → (Option Nat × Nat) → Option Nat × Nat
  | 0, _, p => p
  | m + 1, c, p => orF H s m (c + 1) (if isR H.1.1 c = true then off p c (orV H s c) else p)
theorem x_ord {N s : Nat} {H : Hs} (hN : 1000 ≤ N) (hs : s < H.1.2.1) : ∀ (m c n k : Nat) (cur : Option Nat) (F : FF) (y : Sh) (p : Option Nat × Nat), chk H.1.1 m c cur k = true → m < n → k ≤ 720 → RH F H → HR 16 F (upS H s y) → WS H.1.1 y → (∀ x, cur = some x → ∀ q, q < 6 → F 41 q = nI (dig H.1.1 x q)) → p.2 < 2 ^ 31 → (∀ x, p.1 = some x → ∀ q, q < 6 → F 42 q = nI (dig H.1.1 x q)) → ∃ F1, fX6_findBestRow_L51 N (nI s) (19 + 3 * s) n (nI p.2) (bI cur.isSome) (nI k) F = some (nI (orF H s m c p).2, F1) ∧ KX F F1 ∧ ∀ x, (orF H s m c p).1 = some x → ∀ q, q < 6 → F1 42 q = nI (dig H.1.1 x q) := by
  intro m
  induction m with
  | zero =>
    intro c n k cur F y p hc hn hk h hR hy h41 hp h42
    obtain ⟨n, rfl⟩ : ∃ k, n = k + 1 := ⟨n - 1, by omega⟩
    unfold chk at hc
    cases cur with
    | some x => cases hc
    | none =>
      refine ⟨F, ?_, KX.rf, h42⟩
      rw [fX6_findBestRow_L51.eq_2]
      by_cases e : (720 : Int32) ≤ nI k
      · rw [if_pos e]; rfl
      · rw [if_neg e, if_pos (show bI (none : Option Nat).isSome = 0 from rfl)]; rfl
  | succ m ih =>
    intro c n k cur F y p hc hn hk h hR hy h41 hp h42
    unfold chk at hc
    rw [orF]
    cases hr : isR H.1.1 c with
    | false =>
      rw [hr] at hc
      rw [if_neg (by decide)]
      exact ih (c + 1) n k cur F y p hc (by omega) hk h hR hy h41 hp h42
    | true =>
      rw [hr] at hc
      rw [if_pos rfl]
      cases cur with
      | none => cases hc
      | some x =>
        obtain ⟨n, rfl⟩ : ∃ k, n = k + 1 := ⟨n - 1, by omega⟩
        simp only [Bool.and_eq_true] at hc
        obtain ⟨⟨⟨c1, c2⟩, c3⟩, c4⟩ := hc
        have c1 := Nat.eq_of_beq_eq_true c1
        have c3 : k < 720 := Nat.le_of_ble_eq_true c3
        subst c1
        have hns := h.ns
        have hnb := h.nb
        have hnw := h.nw
        have hW := h.2.2.1
        have h41 := h41 x rfl
        have hrow := rsh_ok (hW.2.2.2.2.2 s hs) c2
        have hS1 := isS_of iH1 (show s < 4 by omega)
        have hS := isS_of iH16 (show s < 4 by omega)
        obtain ⟨F1, e1, e2, e3⟩ := x_copyS (N := N) hS hS1 (h.1.2.2 s hs)
        have hup := hR.up (s := s) (F' := F1) hns hs e2 e3
        rw [upS_up] at hup
        have f41 : F1 41 = F 41 := e3 41 (by omega) (by omega) (by omega)
        obtain ⟨F2, hF2⟩ : ∃ F2, va_up F1 (16 + 3 + 3 * s + 1) (va_cpy (F1 41) (F1 (16 + 3 + 3 * s + 1)) 0 0 6) = F2 := ⟨_, rfl⟩
        have f2 : ∀ c q, F2 c q = if c = 16 + 3 + 3 * s + 1 ∧ q < 6 then F1 41 q else F1 c q := fun c q => by rw [← hF2, cpy_e]
        have f2c : ∀ c, c ≠ 16 + 3 + 3 * s + 1 → F2 c = F1 c := fun c hc => by funext q; rw [f2, if_neg (fun h => hc h.1)]
        have hSR : SR (16 + 3 + 3 * s) F2 (rsh H.1.1 (H.2.1 s) x) := by
          refine ⟨by rw [f2c _ (by omega)]; exact e2.1, by rw [f2c _ (by omega)]; exact e2.2.1, fun q hq => ?_, fun q hq => by rw [f2c _ (by omega)]; exact e2.2.2.2 q hq⟩
          rw [f2, if_pos ⟨rfl, hq⟩, f41]
          exact h41 q hq
        have hup2 := hup.1.up (s := s) (F' := F2) hns hs hSR (fun c _ hc _ => f2c c hc)
        rw [upS_up] at hup2
        have hK2 : KX F F2 := hup.2.X.tr hup2.2.X
        have hR2 := h.X hK2
        obtain ⟨F3, g1, g2, g3⟩ := x_paidBy (N := N) (s := s) (nn := H.1.2.2.1) (L := p.2) hN iH16 hup2.1 (hW.up hrow) hs (by omega) hp
        rw [upS_at] at g1 g2
        rw [upS_up] at g2
        have hwe : wAt (upS H s (rsh H.1.1 (H.2.1 s) x)) = wAt H := by funext t; exact upS_wAt
        rw [hwe] at g1 g2
        obtain ⟨o1, o2⟩ := cN_off (w := wAt H) (x := rsh H.1.1 (H.2.1 s) x) (L := p.2) (n := H.1.2.2.1)
        have o3 := pdc_le (w := wAt H) (x := rsh H.1.1 (H.2.1 s) x) (L := p.2) (n := H.1.2.2.1) (by omega)
        have hoff : off p x (orV H s x) = off p x (pdS (wAt H) (rsh H.1.1 (H.2.1 s) x) (cN (wAt H) (rsh H.1.1 (H.2.1 s) x) p.2 H.1.2.2.1 0)) := (off_cut o1 o2).symm
        rw [hoff]
        generalize pdS (wAt H) (rsh H.1.1 (H.2.1 s) x) (cN (wAt H) (rsh H.1.1 (H.2.1 s) x) p.2 H.1.2.2.1 0) = v at *
        have hWS3 : WS H.1.1 (stS (wAt H) (rsh H.1.1 (H.2.1 s) x) (cN (wAt H) (rsh H.1.1 (H.2.1 s) x) p.2 H.1.2.2.1 0)) := ws_stS hrow hnb.2 hW.okW _
        have hK3 := hK2.tr g3.X
        have e41 : F3 41 = F 41 := by rw [g3 41 (by omega), f2c 41 (by omega), f41]
        have e42 : F3 42 = F 42 := by rw [g3 42 (by omega), f2c 42 (by omega), e3 42 (by omega) (by omega) (by omega)]
        have hnbF : ∀ F4, RH F4 H → F4 1 0 = nI H.1.1 := fun F4 h4 => h4.1.1.1
        /- the end of a turn -/
        have fin : ∀ (F4 : FF) (p' : Option Nat × Nat), KX F F4 → F4 41 = F 41 → HR 16 F4 (upS H s (stS (wAt H) (rsh H.1.1 (H.2.1 s) x) (cN (wAt H) (rsh H.1.1 (H.2.1 s) x) p.2 H.1.2.2.1 0))) → p'.2 < 2 ^ 31 → (∀ x, p'.1 = some x → ∀ q, q < 6 → F4 42 q = nI (dig H.1.1 x q)) → ∃ F5, fX6_findBestRow_b134 N (fun x3 x4 x5 F => fX6_findBestRow_L51 N (nI s) (19 + 3 * s) n x3 x4 x5 F) (nI s) (19 + 3 * s) (nI p'.2) (nI k) F4 = some (nI (orF H s m (x + 1) p').2, F5) ∧ KX F F5 ∧ ∀ z, (orF H s m (x + 1) p').1 = some z → ∀ q, q < 6 → F5 42 q = nI (dig H.1.1 z q) := by
          intro F4 p' k4 e4 hR4 hp' h42'
          have h4 := h.X k4
          obtain ⟨F5, n1, n2, n3⟩ := x_next (N := N) (nb := H.1.1) (F := F4) (r := dig H.1.1 x) hN hnb.1 hnb.2 hrow.2.1 (fun q hq => by rw [e4]; exact h41 q hq)
          have k5 : KX F4 F5 := fun c hc => n3 c (by omega)
          have hcont : ∃ cur', cur'.isSome = (nxt H.1.1 (dig H.1.1 x)).isSome ∧ chk H.1.1 m (x + 1) cur' (k + 1) = true ∧ ∀ z, cur' = some z → ∀ q, q < 6 → F5 41 q = nI (dig H.1.1 z q) := by
            cases hx : nxt H.1.1 (dig H.1.1 x) with
            | none =>
              rw [hx] at c4
              exact ⟨none, rfl, c4, fun z h => by cases h⟩
            | some r =>
              rw [hx] at c4
              simp only [Bool.and_eq_true] at c4
              refine ⟨some (cod H.1.1 r H.1.1), rfl, c4.2, fun z hz q hq => ?_⟩
              cases hz
              rw [n2 r hx q hq, Nat.eq_of_beq_eq_true (al6_ok c4.1 q hq)]
          obtain ⟨cur', i1, i2, i3⟩ := hcont
          obtain ⟨F6, z1, z2, z3⟩ := ih (x + 1) n (k + 1) cur' F5 _ p' i2 (by omega) (by omega) (h4.X k5) (hR4.keep hns (fun c _ _ => n3 c (by omega))) hWS3 i3 hp' (fun z hz q hq => by rw [n3 42 (by omega)]; exact h42' z hz q hq)
          refine ⟨F6, ?_, (k4.tr k5).tr z2, z3⟩
          rw [fX6_findBestRow_b134, hnbF F4 h4, n1, bnd_some, ← i1, show nI k + 1 = nI (k + 1) from nI_1 k]
          exact z1
        rw [fX6_findBestRow_L51.eq_2, if_neg (by simp (disch := omega) only [il, nI_leI]; omega), if_neg (by show ¬ bI true = 0; decide), show ldR 5 2 (nI s) = ldR 5 (1 + 1) (nI s) from rfl, ldR_H iH1 (show s < 4 by omega), show 19 + 3 * s = 16 + 3 + 3 * s from rfl, e1, cal_some (okC_S hS), gR_S2 hS, cp_ok a41 (aS1 hS) (Nat.le_refl 6) (Nat.le_refl 6), hF2, hR2.1.1.2.2.1, g1, bnd_some]
        unfold off
        by_cases cv : v < p.2
        · rw [if_neg (by simp (disch := omega) only [nI_leI]; omega), if_pos cv, cp_ok a41 a42 (Nat.le_refl 6) (Nat.le_refl 6)]
          have f4 : ∀ c q, va_up F3 42 (va_cpy (F3 41) (F3 42) 0 0 6) c q = if c = 42 ∧ q < 6 then F3 41 q else F3 c q := fun c q => cpy_e
          generalize va_up F3 42 (va_cpy (F3 41) (F3 42) 0 0 6) = F4 at f4 ⊢
          have f4c : ∀ c, c ≠ 42 → F4 c = F3 c := fun c hc => by funext q; rw [f4, if_neg (fun h => hc h.1)]
          exact fin F4 (some x, v) (hK3.tr (fun c hc => f4c c (by omega))) (by rw [f4c 41 (by omega), e41]) (g2.keep hns (fun c _ _ => f4c c (by omega))) (by show v < 2 ^ 31; omega) (fun z hz q hq => by
            cases hz
            rw [f4, if_pos ⟨rfl, hq⟩, e41]
            exact h41 q hq)
        · rw [if_pos (by simp (disch := omega) only [nI_leI]; omega), if_neg cv]
          exact fin F3 p hK3 e41 g2 hp (fun z hz q hq => by rw [e42]; exact h42 z hz q hq)
