/-! THE CLASS'S HOUSE: steps that are missed, a shelf more, a want more -/
theorem and31 : ∀ t, t < 32 → nI t &&& 31 = nI t := by decide
theorem smod32 : ∀ t, t < 32 → ((nI t).toBitVec.smod 32).toNat = t := by decide
theorem and1 {n : Nat} (h : n < 2 ^ 31) : nI n &&& 1 = nI (n % 2) := pk_andN (by omega) 1 rfl
theorem bitAt {M t : Nat} (hM : M < 2 ^ 31) (ht : t < 32) : ((nI M >>> (nI t &&& 31)) &&& 1) = nI (M / 2 ^ t % 2) := by
  have h1 : M / 2 ^ t ≤ M := Nat.div_le_self _ _
  rw [and31 t ht, pk_shrN hM (nI t) t (smod32 t ht), and1 (by omega)]
def misW (w : Nat → Option Nat) (M : Nat) : Nat → Option Nat := fun t => if M / 2 ^ t % 2 = 0 then w t else none
theorem okW_mis {nb M : Nat} {w : Nat → Option Nat} (h : okW nb w) : okW nb (misW w M) := by
  intro t b e
  unfold misW at e
  split at e
  · exact h t b e
  · cases e
theorem x_without_L {N h s nn M : Nat} {H : Hs} (hN : 1000 ≤ N) (hh : isH h) (hW : WH H) (hs : s < H.1.2.1) (hn : nn ≤ 8) (hM : M < 2 ^ 31) : ∀ (m i n : Nat) (F : FF), i + m = nn → m < n → HR h F (upS H s (stS (misW (wAt H) M) (H.2.1 s) i)) → ∃ F', fX0_paidWithout_L6 N h (nI M) (nI s) (nI nn) n (nI (pdS (misW (wAt H) M) (H.2.1 s) i)) (nI i) F = some (nI (pdS (misW (wAt H) M) (H.2.1 s) nn), F') ∧ HR h F' (upS H s (stS (misW (wAt H) M) (H.2.1 s) nn)) ∧ FrH h F F' := by
  intro m
  induction m with
  | zero =>
    intro i n F hi hlt hR
    obtain ⟨n, rfl⟩ : ∃ k, n = k + 1 := ⟨n - 1, by omega⟩
    have e : i = nn := by omega
    subst e
    rw [fX0_paidWithout_L6.eq_2]
    simp (disch := omega) only [nI_leI]
    rw [if_pos (by omega)]
    exact ⟨F, rfl, hR, FrH.rf⟩
  | succ m ih =>
    intro i n F hi hlt hR
    obtain ⟨n, rfl⟩ : ∃ k, n = k + 1 := ⟨n - 1, by omega⟩
    rw [fX0_paidWithout_L6.eq_2]
    simp (disch := omega) only [nI_leI]
    rw [if_neg (by omega), bitAt hM (by omega)]
    have h2 : M / 2 ^ i % 2 < 2 := Nat.mod_lt _ (by omega)
    by_cases e : M / 2 ^ i % 2 = 0
    · have ew : misW (wAt H) M i = wAt H i := if_pos e
      rw [e, if_neg (by decide)]
      have hW2 : WH (upS H s (stS (misW (wAt H) M) (H.2.1 s) i)) := hW.up (ws_stS (hW.2.2.2.2.2 s hs) hW.1.2 (okW_mis hW.okW) i)
      obtain ⟨F1, e1, e2, e3⟩ := x_serveTurn (t := i) hN hh hR hW2 hs (by omega)
      rw [upS_up, upS_at, upS_wAt] at e2
      rw [e1, cal_some (okC_H hh), upS_at, upS_wAt, fX0_paidWithout_b33, nI_add, show nI i + 1 = nI (i + 1) from nI_1 i]
      have e2' : HR h F1 (upS H s (stS (misW (wAt H) M) (H.2.1 s) (i + 1))) := by
        show HR h F1 (upS H s (adv (misW (wAt H) M i) _))
        rw [ew]; exact e2
      obtain ⟨F', g1, g2, g3⟩ := ih (i + 1) n F1 (by omega) (by omega) e2'
      refine ⟨F', ?_, g2, e3.tr g3⟩
      rw [← g1]
      show _ = fX0_paidWithout_L6 N h (nI M) (nI s) (nI nn) n (nI (pdS _ _ i + pyo (misW (wAt H) M i) _)) _ _
      rw [ew]
    · have ew : misW (wAt H) M i = none := if_neg e
      rw [if_pos (by simp (disch := omega) only [il, nI_eq]; omega), fX0_paidWithout_b33, show nI i + 1 = nI (i + 1) from nI_1 i]
      have e2' : HR h F (upS H s (stS (misW (wAt H) M) (H.2.1 s) (i + 1))) := by
        show HR h F (upS H s (adv (misW (wAt H) M i) _))
        rw [ew]; exact hR
      obtain ⟨F', g1, g2, g3⟩ := ih (i + 1) n F (by omega) (by omega) e2'
      refine ⟨F', ?_, g2, g3⟩
      rw [← g1]
      show _ = fX0_paidWithout_L6 N h (nI M) (nI s) (nI nn) n (nI (pdS _ _ i + pyo (misW (wAt H) M i) _)) _ _
      rw [ew]
      rfl
theorem x_without {N h s nn M : Nat} {F : FF} {H : Hs} (hN : 1000 ≤ N) (hh : isH h) (hR : HR h F H) (hW : WH H) (hs : s < H.1.2.1) (hn : nn ≤ 8) (hM : M < 2 ^ 31) : ∃ F', fX0_paidWithout N h (nI M) (nI s) (nI nn) F = some (nI (pdS (misW (wAt H) M) (H.2.1 s) nn), F') ∧ HR h F' (upS H s (stS (misW (wAt H) M) (H.2.1 s) nn)) ∧ FrH h F F' :=
  x_without_L hN hh hW hs hn hM nn 0 N F (by omega) (by omega) (upS_self hR)
/-- a shelf as at first -/
def newS (k : Nat) : Sh := ((k, 0), (fun p => p), (fun _ => 0))
theorem ws_new {nb k : Nat} (hk : k ≤ 3) : WS nb (newS k) := ⟨⟨hk, Nat.zero_le _⟩, fun _ h => h, fun _ _ _ _ e => e, fun b hb => ⟨b, hb, rfl⟩, fun _ _ _ => rfl, fun _ _ => Nat.zero_le _⟩
theorem x_begin_L {N a k : Nat} (hS : isS a) : ∀ (m i n : Nat) (F : FF), i + m = 6 → m < n → F a 0 = nI k → F a 1 = nI 0 → (∀ p, p < i → F (a + 1) p = nI p ∧ F (a + 2) p = nI 0) → ∃ F', fX4_begin_L12 N a n (nI i) F = some ((), F') ∧ SR a F' (newS k) ∧ ∀ c, c ≠ a → c ≠ a + 1 → c ≠ a + 2 → F' c = F c := by
  intro m
  induction m with
  | zero =>
    intro i n F hi hn h0 h1 h2
    obtain ⟨n, rfl⟩ : ∃ k, n = k + 1 := ⟨n - 1, by omega⟩
    rw [fX4_begin_L12.eq_2]
    simp (disch := omega) only [il, nI_leI]
    rw [if_pos (by omega)]
    exact ⟨F, rfl, ⟨h0, h1, fun p hp => (h2 p (by omega)).1, fun p hp => (h2 p (by omega)).2⟩, fun _ _ _ _ => rfl⟩
  | succ m ih =>
    intro i n F hi hn h0 h1 h2
    obtain ⟨n, rfl⟩ : ∃ k, n = k + 1 := ⟨n - 1, by omega⟩
    rw [fX4_begin_L12.eq_2]
    simp (disch := omega) only [il, nI_leI, nI_add]
    rw [if_neg (by omega), gR_S2 hS, st_ok (aS1 hS) (by omega), gR_S3 hS, st_ok (aS2 hS) (by omega)]
    obtain ⟨F', g1, g2, g3⟩ := ih (i + 1) n (fput (fput F (a + 1) i (nI i)) (a + 2) i (nI 0)) (by omega) (by omega) (by rw [fpu, if_neg (by omega), fpu, if_neg (by omega)]; exact h0) (by rw [fpu, if_neg (by omega), fpu, if_neg (by omega)]; exact h1) (fun p hp => by
      by_cases e : p = i
      · subst e
        exact ⟨by rw [fpu, if_neg (by omega), fpu, if_pos ⟨rfl, rfl⟩], by rw [fpu, if_pos ⟨rfl, rfl⟩]⟩
      · exact ⟨by rw [fpu, if_neg (by omega), fpu, if_neg (by omega)]; exact (h2 p (by omega)).1, by rw [fpu, if_neg (by omega), fpu, if_neg (by omega)]; exact (h2 p (by omega)).2⟩)
    exact ⟨F', g1, g2, fun c c1 c2 c3 => (g3 c c1 c2 c3).trans (by rw [fput_a c3, fput_a c2])⟩
theorem x_begin {N a k : Nat} {F : FF} (hN : 1000 ≤ N) (hS : isS a) : ∃ F', fX4_begin N a (nI k) F = some ((), F') ∧ SR a F' (newS k) ∧ ∀ c, c ≠ a → c ≠ a + 1 → c ≠ a + 2 → F' c = F c := by
  unfold fX4_begin
  rw [pI_S0 hS, pI_S1 hS]
  obtain ⟨F', g1, g2, g3⟩ := x_begin_L (N := N) (k := k) hS 6 0 N (fput (fput F a 0 (nI k)) a 1 0) rfl (by omega) (by rw [fpu, if_neg (by omega), fpu, if_pos ⟨rfl, rfl⟩]) (by rw [fpu, if_pos ⟨rfl, rfl⟩]; rfl) (fun p hp => by omega)
  exact ⟨F', g1, g2, fun c c1 c2 c3 => (g3 c c1 c2 c3).trans (by rw [fput_a c1, fput_a c1])⟩
/-- a shelf more -/
def addS (H : Hs) (k : Nat) : Hs := ((H.1.1, H.1.2.1 + 1, H.1.2.2), (fun s => if s = H.1.2.1 then newS k else H.2.1 s), H.2.2)
theorem x_addShelf {N h k : Nat} {F : FF} {H : Hs} (hN : 1000 ≤ N) (hh : isH h) (hR : HR h F H) (hs : H.1.2.1 < 4) : ∃ F', fX0_addShelf N h (nI k) F = some (1, F') ∧ HR h F' (addS H k) ∧ FrH h F F' := by
  obtain ⟨⟨a1, a2, a3, a4⟩, a5, a6⟩ := id hR
  have hS := isS_of hh hs
  unfold fX0_addShelf
  rw [gI_H1 hh, a2, if_pos (by simp (disch := omega) only [il, nI_ltI]; omega), gR_H4 hh, gI_H1 hh, a2, ldR_H hh hs]
  obtain ⟨F1, g1, g2, g3⟩ := x_begin (N := N) (k := k) (F := F) hN hS
  have e0 : F1 h = F h := g3 h (by omega) (by omega) (by omega)
  have e2 : F1 (h + 2) = F (h + 2) := g3 _ (by omega) (by omega) (by omega)
  rw [g1, cal_some (okC_S hS), gI_H1 hh, e0, a2, pI_H1 hh, show nI H.1.2.1 + 1 = nI (H.1.2.1 + 1) from nI_1 _]
  refine ⟨_, rfl, ⟨⟨?_, ?_, ?_, ?_⟩, fun i hi => ?_, fun s hs' => ?_⟩, fun c hc => ?_⟩
  · rw [fpu, if_neg (by omega), e0]; exact a1
  · rw [fpu, if_pos ⟨rfl, rfl⟩]; rfl
  · rw [fpu, if_neg (by omega), e0]; exact a3
  · rw [fpu, if_neg (by omega), e0]; exact a4
  · rw [fput_a (by omega), e2]; exact a5 i hi
  · have hs' : s < H.1.2.1 + 1 := hs'
    show SR _ _ (if s = H.1.2.1 then newS k else H.2.1 s)
    by_cases e : s = H.1.2.1
    · rw [if_pos e, e]
      exact g2.same (fput_a (by omega)) (fput_a (by omega)) (fput_a (by omega))
    · rw [if_neg e]
      exact (a6 s (by omega)).same ((fput_a (by omega)).trans (g3 _ (by omega) (by omega) (by omega))) ((fput_a (by omega)).trans (g3 _ (by omega) (by omega) (by omega))) ((fput_a (by omega)).trans (g3 _ (by omega) (by omega) (by omega)))
  · rw [fput_a (by omega), g3 c (by omega) (by omega) (by omega)]
theorem x_addShelf_full {N h : Nat} {l : Int32} {F : FF} {H : Hs} (hh : isH h) (hR : HR h F H) (hs : H.1.2.1 = 4) : fX0_addShelf N h l F = some (0, F) := by
  unfold fX0_addShelf
  rw [gI_H1 hh, hR.1.2.1, hs, if_neg (by decide)]
/-- a want more -/
def addW (H : Hs) (b : Nat) : Hs := ((H.1.1, H.1.2.1, H.1.2.2.1 + 1, H.1.2.2.2), H.2.1, (fun i => if i = H.1.2.2.1 then some b else H.2.2 i))
theorem x_addWant {N h b : Nat} {F : FF} {H : Hs} (hh : isH h) (hR : HR h F H) (hw : H.1.2.2.1 < 16) : ∃ F', fX0_addWant N h (nI b) F = some (1, F') ∧ HR h F' (addW H b) ∧ FrH h F F' := by
  obtain ⟨⟨a1, a2, a3, a4⟩, a5, a6⟩ := id hR
  unfold fX0_addWant
  rw [gI_H2 hh, a3, if_pos (by simp (disch := omega) only [il, nI_ltI]; omega), gR_H5 hh, gI_H2 hh, a3, st_ok (aH2 hh) hw, gI_H2 hh, pI_H2 hh, fput_a (show h ≠ h + 2 by omega), a3, show nI H.1.2.2.1 + 1 = nI (H.1.2.2.1 + 1) from nI_1 _]
  refine ⟨_, rfl, ⟨⟨?_, ?_, ?_, ?_⟩, fun i hi => ?_, fun s hs' => ?_⟩, fun c hc => ?_⟩
  · rw [fpu, if_neg (by omega), fput_a (by omega)]; exact a1
  · rw [fpu, if_neg (by omega), fput_a (by omega)]; exact a2
  · rw [fpu, if_pos ⟨rfl, rfl⟩]; rfl
  · rw [fpu, if_neg (by omega), fput_a (by omega)]; exact a4
  · have hi : i < H.1.2.2.1 + 1 := hi
    show _ = wI (if i = H.1.2.2.1 then some b else H.2.2 i)
    rw [fput_a (by omega), fpu]
    by_cases e : i = H.1.2.2.1
    · rw [if_pos ⟨rfl, e⟩, if_pos e]; rfl
    · rw [if_neg (by omega), if_neg e]; exact a5 i (by omega)
  · exact (a6 s hs').same ((fput_a (by omega)).trans (fput_a (by omega))) ((fput_a (by omega)).trans (fput_a (by omega))) ((fput_a (by omega)).trans (fput_a (by omega)))
  · rw [fput_a (by omega), fput_a (by omega)]
theorem x_addWant_full {N h : Nat} {l : Int32} {F : FF} {H : Hs} (hh : isH h) (hR : HR h F H) (hw : H.1.2.2.1 = 16) : fX0_addWant N h l F = some (0, F) := by
  unfold fX0_addWant
  rw [gI_H2 hh, hR.1.2.2.1, hw, if_neg (by decide)]
