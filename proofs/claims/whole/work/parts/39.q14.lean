/-! QUESTIONS: wants that do not come, ended -/
def luV (H : Hs) (v s b n M : Nat) : Nat := od v M n * (if (stS (misW (wAt H) M) (H.2.1 s) n).2.1 0 = b then 1 else 0)
def meV (H : Hs) (v n M : Nat) : Nat := od v M n * sumTo (fun s => pdS (misW (wAt H) M) (H.2.1 s) n) H.1.2.1
theorem x_luck_L {N v s b nn : Nat} {w : Int32} {H : Hs} (hN : 1000 ≤ N) (hv : v ≤ 10) (hs : s < H.1.2.1) (hb : b < 6) (hn : nn ≤ 8) : ∀ (m M n : Nat) (F : FF) (x : Sh), M + m = 2 ^ nn → m < n → RH F H → WS H.1.1 x → HR 16 F (upS H s x) → ∃ F1, fX6_luck_L54 N (nI v) (nI s) (nI b) (nI nn) w n (lN (sumTo (luV H v s b nn) M)) (nI M) F = some ((if ¬ w = 0 then lN (10 ^ nn) else lN (sumTo (luV H v s b nn) (2 ^ nn))) / lN (Nat.gcd (sumTo (luV H v s b nn) (2 ^ nn)) (10 ^ nn)), F1) ∧ KX F F1 := by
  have h256 := pow2_le hn
  have h10 := pow10_le hn
  have hp10 : 0 < 10 ^ nn := Nat.pow_pos (by omega)
  intro m
  induction m with
  | zero =>
    intro M n F x hM hlt h hx hR
    obtain ⟨n, rfl⟩ : ∃ k, n = k + 1 := ⟨n - 1, by omega⟩
    have hsum := sumTo_le (f := luV H v s b nn) (c := 10 ^ nn) (2 ^ nn) (fun i _ => by
      have := od_le (M := i) hv nn
      unfold luV
      split <;> omega)
    have hsum2 : 10 ^ nn * 2 ^ nn ≤ 100000000 * 256 := Nat.mul_le_mul h10 h256
    rw [fX6_luck_L54.eq_2, pow2 nn (by omega), if_pos (by simp (disch := omega) only [nI_leI]; omega), show (10 : Int32) = nI 10 from rfl, x_power hN (by omega) hn, bnd_some, show M = 2 ^ nn by omega, (lowest_eq (w := w) (F := F) hN (show sumTo (luV H v s b nn) (2 ^ nn) < 2 ^ 45 by omega) (show 10 ^ nn < 2 ^ 45 by omega) hp10).1, bnd_some]
    exact ⟨F, rfl, KX.rf⟩
  | succ m ih =>
    intro M n F x hM hlt h hx hR
    obtain ⟨n, rfl⟩ : ∃ k, n = k + 1 := ⟨n - 1, by omega⟩
    obtain ⟨w1, w2, w3, w4, w5, w6⟩ := id h.2.2.1
    have hS1 := isS_of iH1 (show s < 4 by omega)
    have hS := isS_of iH16 (show s < 4 by omega)
    have hod := od_le (M := M) hv nn
    have hstep : sumTo (luV H v s b nn) (M + 1) = sumTo (luV H v s b nn) M + luV H v s b nn M := rfl
    rw [fX6_luck_L54.eq_2, pow2 nn (by omega), if_neg (by simp (disch := omega) only [nI_leI]; omega), x_weight hN hv hn (by omega), bnd_some]
    by_cases c0 : od v M nn = 0
    · have hl : luV H v s b nn M = 0 := by unfold luV; rw [c0, Nat.zero_mul]
      rw [c0, if_pos (by decide), fX6_luck_b143, show nI M + 1 = nI (M + 1) from nI_1 M]
      obtain ⟨F1, z1, z2⟩ := ih (M + 1) n F x (by omega) (by omega) h hx hR
      rw [hstep, hl, Nat.add_zero] at z1
      exact ⟨F1, z1, z2⟩
    · obtain ⟨F1, e1, e2, e3⟩ := x_copyS (N := N) hS hS1 (h.1.2.2 s hs)
      have hup := hR.up (s := s) (F' := F1) w2 hs e2 e3
      rw [upS_up] at hup
      obtain ⟨F2, g1, g2, g3⟩ := x_without (N := N) (s := s) (nn := nn) (M := M) hN iH16 hup.1 (h.2.2.1.up (w6 s hs)) hs hn (by omega)
      rw [upS_at, totW] at g1 g2
      rw [upS_up] at g2
      have hWS := ws_stS (w6 s hs) w1.2 (okW_mis (M := M) h.2.2.1.okW) nn
      have hSR := g2.2.2 s hs
      rw [upS_at] at hSR
      have h6 := hWS.2.1 0 (by omega)
      have hK := hup.2.X.tr g3.X
      obtain ⟨F3, z1, z2⟩ := ih (M + 1) n F2 _ (by omega) (by omega) (h.X hK) hWS g2
      refine ⟨F3, ?_, hK.tr z2⟩
      rw [if_neg (by rw [lg_cmp_le, show (0 : Int64) = lN 0 from rfl, pk_lLE (by omega) (by omega)]; omega), ldR_H iH16 (show s < 4 by omega), ldR_H iH1 (show s < 4 by omega), e1, cal_some (okC_S hS), g1, bnd_some, ldR_H iH16 (show s < 4 by omega), gR_S2 hS, show (0 : Int32) = nI 0 from rfl, ld_ok (aS1 hS) (by omega), hSR.2.2.1 0 (by omega), fX6_luck_b143, show nI M + 1 = nI (M + 1) from nI_1 M]
      rw [show nI 0 = (0 : Int32) from rfl]
      rw [← z1, hstep]
      congr 1
      unfold luV
      simp (disch := omega) only [nI_eq]
      by_cases c : (stS (misW (wAt H) M) (H.2.1 s) nn).2.1 0 = b
      · rw [if_neg (by omega), if_pos c, Nat.mul_one, lN_add]
      · rw [if_pos c, if_neg c, Nat.mul_zero, show (0 : Int64) = lN 0 from rfl, lN_add]
theorem x_mean50 {N v M nn W : Nat} {l3 : Int32} {H : Hs} {k30 : Int64 → Int32 → FF → Option (Int64 × FF)} (hN : 1000 ≤ N) (hn : nn ≤ 8) (hM : M < 256) (hW0 : 0 < W) (hW : W < 2 ^ 40) : ∀ (m i n U : Nat) (F : FF) (Hc : Hs), i + m = H.1.2.1 → m < n → RH F H → HR 16 F Hc → WH Hc → Hc.1 = H.1 → Hc.2.2 = H.2.2 → ∃ F1 Hd, fX6_mean_L50 N k30 (nI v) (nI nn) l3 (nI M) (lN W) n (lN (U + W * sumTo (fun s => pdS (misW (wAt H) M) (H.2.1 s) nn) i)) (nI i) F = k30 (lN (U + W * sumTo (fun s => pdS (misW (wAt H) M) (H.2.1 s) nn) H.1.2.1)) (nI (M + 1)) F1 ∧ KX F F1 ∧ HR 16 F1 Hd ∧ WH Hd ∧ Hd.1 = H.1 ∧ Hd.2.2 = H.2.2 := by
  intro m
  induction m with
  | zero =>
    intro i n U F Hc hi hlt h hR hWc h1 h2
    obtain ⟨n, rfl⟩ : ∃ k, n = k + 1 := ⟨n - 1, by omega⟩
    have hns := h.ns
    rw [fX6_mean_L50.eq_2, h.1.1.2.1, if_pos (by simp (disch := omega) only [nI_leI]; omega), fX6_mean_b119, show i = H.1.2.1 by omega, show nI M + 1 = nI (M + 1) from nI_1 M]
    exact ⟨F, Hc, rfl, KX.rf, hR, hWc, h1, h2⟩
  | succ m ih =>
    intro i n U F Hc hi hlt h hR hWc h1 h2
    obtain ⟨n, rfl⟩ : ∃ k, n = k + 1 := ⟨n - 1, by omega⟩
    obtain ⟨w1, w2, w3, w4, w5, w6⟩ := id h.2.2.1
    have hs : i < H.1.2.1 := by omega
    have hsc : i < Hc.1.2.1 := by rw [h1]; exact hs
    have hS1 := isS_of iH1 (show i < 4 by omega)
    have hS := isS_of iH16 (show i < 4 by omega)
    obtain ⟨F1, e1, e2, e3⟩ := x_copyS (N := N) hS hS1 (h.1.2.2 i hs)
    have hup := hR.up (s := i) (F' := F1) (by rw [h1]; exact w2) hsc e2 e3
    have hWu : WH (upS Hc i (H.2.1 i)) := hWc.up (by rw [h1]; exact w6 i hs)
    obtain ⟨F2, g1, g2, g3⟩ := x_without (N := N) (s := i) (nn := nn) (M := M) hN iH16 hup.1 hWu hsc hn (by omega)
    have hwe : wAt (upS Hc i (H.2.1 i)) = wAt H := by funext t; unfold wAt upS; rw [h1, h2]
    rw [upS_at, hwe] at g1 g2
    rw [upS_up] at g2
    have hpd := pdS_le (w := misW (wAt H) M) (x := H.2.1 i) nn
    have hK := hup.2.X.tr g3.X
    have hWS : WS Hc.1.1 (stS (misW (wAt H) M) (H.2.1 i) nn) := by
      rw [h1]
      exact ws_stS (w6 i hs) w1.2 (okW_mis h.2.2.1.okW) nn
    obtain ⟨F3, Hd, z1, z2⟩ := ih (i + 1) n U F2 _ (by omega) (by omega) (h.X hK) g2 (hWc.up hWS) h1 h2
    refine ⟨F3, Hd, ?_, hK.tr z2.1, z2.2⟩
    rw [fX6_mean_L50.eq_2, h.1.1.2.1, if_neg (by simp (disch := omega) only [nI_leI]; omega), if_neg (by rw [lg_cmp_le, show (0 : Int64) = lN 0 from rfl, pk_lLE (by omega) (by omega)]; omega), ldR_H iH16 (show i < 4 by omega), ldR_H iH1 (show i < 4 by omega), e1, cal_some (okC_S hS), g1, bnd_some, nI_l (by omega), lN_mul, lN_add, show nI i + 1 = nI (i + 1) from nI_1 i, Nat.add_assoc, ← Nat.mul_add]
    exact z1
theorem x_mean_L {N v nn : Nat} {w : Int32} {H : Hs} (hN : 1000 ≤ N) (hv : v ≤ 10) (hn : nn ≤ 8) : ∀ (m M n : Nat) (F : FF) (Hc : Hs), M + m = 2 ^ nn → m < n → RH F H → HR 16 F Hc → WH Hc → Hc.1 = H.1 → Hc.2.2 = H.2.2 → ∃ F1, fX6_mean_L30 N (nI v) (nI nn) w n (lN (sumTo (meV H v nn) M)) (nI M) F = some ((if ¬ w = 0 then lN (10 ^ nn) else lN (sumTo (meV H v nn) (2 ^ nn))) / lN (Nat.gcd (sumTo (meV H v nn) (2 ^ nn)) (10 ^ nn)), F1) ∧ KX F F1 := by
  have h256 := pow2_le hn
  have h10 := pow10_le hn
  have hp10 : 0 < 10 ^ nn := Nat.pow_pos (by omega)
  intro m
  induction m with
  | zero =>
    intro M n F Hc hM hlt h hR hWc h1 h2
    obtain ⟨n, rfl⟩ : ∃ k, n = k + 1 := ⟨n - 1, by omega⟩
    have hns := h.ns
    have hsum := sumTo_le (f := meV H v nn) (c := 100000000 * 224) (2 ^ nn) (fun i _ => by
      have h1 := od_le (M := i) hv nn
      have h2 := sumTo_le (f := fun s => pdS (misW (wAt H) i) (H.2.1 s) nn) (c := 56) H.1.2.1 (fun s _ => by have := pdS_le (w := misW (wAt H) i) (x := H.2.1 s) nn; omega)
      unfold meV
      exact Nat.mul_le_mul (by omega) (by omega))
    have hsum2 : 100000000 * 224 * 2 ^ nn ≤ 100000000 * 224 * 256 := Nat.mul_le_mul_left _ h256
    obtain ⟨lx, -⟩ := lowest_eq (N := N) (w := w) (F := F) hN (show sumTo (meV H v nn) (2 ^ nn) < 2 ^ 45 by omega) (show 10 ^ nn < 2 ^ 45 by omega) hp10
    rw [fX6_mean_L30.eq_2, pow2 nn (by omega), if_pos (by simp (disch := omega) only [nI_leI]; omega), show (10 : Int32) = nI 10 from rfl, x_power hN (by omega) hn, bnd_some, show M = 2 ^ nn by omega, lx, bnd_some]
    exact ⟨F, rfl, KX.rf⟩
  | succ m ih =>
    intro M n F Hc hM hlt h hR hWc h1 h2
    obtain ⟨n, rfl⟩ : ∃ k, n = k + 1 := ⟨n - 1, by omega⟩
    have hns := h.ns
    have hod := od_le (M := M) hv nn
    have hstep : sumTo (meV H v nn) (M + 1) = sumTo (meV H v nn) M + meV H v nn M := rfl
    rw [fX6_mean_L30.eq_2, pow2 nn (by omega), if_neg (by simp (disch := omega) only [nI_leI]; omega), x_weight hN hv hn (by omega), bnd_some]
    by_cases c0 : od v M nn = 0
    · have hl : meV H v nn M = 0 := by unfold meV; rw [c0, Nat.zero_mul]
      obtain ⟨F1, z1, z2⟩ := ih (M + 1) n F Hc (by omega) (by omega) h hR hWc h1 h2
      rw [hstep, hl, Nat.add_zero] at z1
      refine ⟨F1, ?_, z2⟩
      rw [← z1]
      obtain ⟨K, hK⟩ : ∃ k, N = k + 1 := ⟨N - 1, by omega⟩
      have hexp : ∀ k30 : Int64 → Int32 → FF → Option (Int64 × FF), fX6_mean_L50 N k30 (nI v) (nI nn) w (nI M) (lN (od v M nn)) N (lN (sumTo (meV H v nn) M)) 0 F = k30 (lN (sumTo (meV H v nn) M)) (nI (M + 1)) F := by
        intro k30
        rw [hK, fX6_mean_L50.eq_2]
        rw [c0]
        by_cases c : F 1 1 ≤ 0
        · rw [if_pos c, fX6_mean_b119, show nI M + 1 = nI (M + 1) from nI_1 M]
        · rw [if_neg c, if_pos (by decide), fX6_mean_b119, show nI M + 1 = nI (M + 1) from nI_1 M]
      rw [hexp]
    · obtain ⟨F1, Hd, e1, e2, e3, e4, e5, e6⟩ := x_mean50 (N := N) (v := v) (M := M) (nn := nn) (W := od v M nn) (l3 := w) (k30 := fun x4 x6 F => fX6_mean_L30 N (nI v) (nI nn) w n x4 x6 F) hN hn (by omega) (by omega) (by omega) H.1.2.1 0 N (sumTo (meV H v nn) M) F Hc (by omega) (by omega) h hR hWc h1 h2
      obtain ⟨F2, z1, z2⟩ := ih (M + 1) n F1 Hd (by omega) (by omega) (h.X e2) e3 e4 e5 e6
      refine ⟨F2, ?_, e2.tr z2⟩
      have e0 : lN (sumTo (meV H v nn) M) = lN (sumTo (meV H v nn) M + od v M nn * sumTo (fun s => pdS (misW (wAt H) M) (H.2.1 s) nn) 0) := rfl
      rw [e0, show (0 : Int32) = nI 0 from rfl, e1]
      exact z1
