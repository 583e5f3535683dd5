/-! QUESTIONS: by a seed -/
def dvN (g : Int32) : Nat := g.toBitVec.toNat / 65536 % 32768
theorem seedX (g : Int32) : (iushr g 16) &&& 32767 = nI (dvN g) := by
  have h1 := pk_and (iushr g 16) (m := 32767) 15 (by decide)
  have h2 := pk_ushr g 16 16 (by decide)
  rw [h1]
  unfold dvN
  congr 1
  show (g.toUInt32 >>> ((16 : Int32).toUInt32 &&& Int32.toUInt32 31)).toInt32.toBitVec.toNat % 2 ^ 15 = _
  rw [h2]
theorem seedY (g : Int32) : (g >>> (16 &&& 31)) &&& 32767 = nI (dvN g) := by
  have h1 := pk_and (g >>> (16 &&& 31)) (m := 32767) 15 (by decide)
  have h2 := pk_shr g (16 &&& 31) 16 (by decide)
  rw [h1]
  unfold dvN
  congr 1
  generalize g >>> (16 &&& 31) = x at h2
  have e1 : x.toInt = if 2 * x.toBitVec.toNat < 2 ^ 32 then (x.toBitVec.toNat : Int) else (x.toBitVec.toNat : Int) - ((2 ^ 32 : Nat) : Int) := BitVec.toInt_eq_toNat_cond x.toBitVec
  have e2 : g.toInt = if 2 * g.toBitVec.toNat < 2 ^ 32 then (g.toBitVec.toNat : Int) else (g.toBitVec.toNat : Int) - ((2 ^ 32 : Nat) : Int) := BitVec.toInt_eq_toNat_cond g.toBitVec
  have b1 := x.toBitVec.isLt
  have b2 := g.toBitVec.isLt
  rw [Int.shiftRight_eq_div_pow] at h2
  rw [e1, e2] at h2
  generalize x.toBitVec.toNat = m at *
  generalize g.toBitVec.toNat = n at *
  simp only [show (((2 ^ 16 : Nat) : Int)) = 65536 from rfl, show (((2 ^ 32 : Nat) : Int)) = 4294967296 from rfl, show (2 : Nat) ^ 32 = 4294967296 from rfl, show (2 : Nat) ^ 15 = 32768 from rfl] at *
  split at h2 <;> split at h2 <;> omega
def gs (seed : Int32) : Nat → Int32
  | 0 => seed
  | n + 1 => gs seed n * 1103515245 + 12345
def dW (seed : Int32) (nb : Nat) : Nat → Option Nat := fun t => some (dvN (gs seed (t + 1)) % nb)
theorem okW_d {seed : Int32} {nb : Nat} (h : 1 ≤ nb) : okW nb (dW seed nb) := by
  intro t b e
  cases e
  exact Nat.mod_lt _ (by omega)
theorem dvN_lt (g : Int32) : dvN g < 32768 := Nat.mod_lt _ (by omega)
theorem x_seed_L {N s nn : Nat} {seed : Int32} {H : Hs} (hN : 1000 ≤ N) (hW : WH H) (hs : s < H.1.2.1) (hn : nn ≤ 200) : ∀ (m i n : Nat) (F : FF), i + m = nn → m < n → F 1 0 = nI H.1.1 → HR 16 F (upS H s (stS (dW seed H.1.1) (H.2.1 s) i)) → ∃ F', fX6_paidBySeed_L9 N (16 + 3 + 3 * s) (nI nn) n (gs seed i) (nI (pdS (dW seed H.1.1) (H.2.1 s) i)) (nI i) F = some (nI (pdS (dW seed H.1.1) (H.2.1 s) nn), F') ∧ HR 16 F' (upS H s (stS (dW seed H.1.1) (H.2.1 s) nn)) ∧ FrH 16 F F' := by
  obtain ⟨w1, w2, w3, w4, w5, w6⟩ := id hW
  have hS := isS_of iH16 (show s < 4 by omega)
  intro m
  induction m with
  | zero =>
    intro i n F hi hlt h10 hR
    obtain ⟨n, rfl⟩ : ∃ k, n = k + 1 := ⟨n - 1, by omega⟩
    have e : i = nn := by omega
    subst e
    rw [fX6_paidBySeed_L9.eq_2, if_pos (by simp (disch := omega) only [nI_leI]; omega)]
    exact ⟨F, rfl, hR, FrH.rf⟩
  | succ m ih =>
    intro i n F hi hlt h10 hR
    obtain ⟨n, rfl⟩ : ∃ k, n = k + 1 := ⟨n - 1, by omega⟩
    have hWS := ws_stS (w6 s hs) w1.2 (okW_d (seed := seed) w1.1) i
    have hSR := hR.2.2 s hs
    rw [upS_at] at hSR
    have hb : dvN (gs seed (i + 1)) % H.1.1 < H.1.1 := Nat.mod_lt _ (by omega)
    have hd := dvN_lt (gs seed (i + 1))
    obtain ⟨F1, e1, e2, e3⟩ := x_serve (N := N) hN hS hSR hWS w1.2 hb
    have hup := hR.up (s := s) w2 hs e2 e3
    rw [upS_up] at hup
    obtain ⟨F2, z1, z2, z3⟩ := ih (i + 1) n F1 (by omega) (by omega) (by rw [hup.2 1 (by omega)]; exact h10) hup.1
    refine ⟨F2, ?_, z2, hup.2.tr z3⟩
    rw [fX6_paidBySeed_L9.eq_2, if_neg (by simp (disch := omega) only [nI_leI]; omega), h10, show (1 : Int32) = nI 1 from rfl, mmax_nI (by omega) (by omega), show max 1 H.1.1 = H.1.1 by omega, dv_ok (by simp (disch := omega) only [il, nI_eq]; omega), show gs seed i * 1103515245 + 12345 = gs seed (i + 1) from rfl, seedX, irem_nI (by omega) (by omega) (by omega), e1, cal_some (okC_S hS), nI_add, show nI i + nI 1 = nI (i + 1) from nI_1 i]
    exact z1
theorem x_drift_L {N nn : Nat} {seed l3 : Int32} {H : Hs} (hN : 1000 ≤ N) (hn : nn ≤ 200) : ∀ (m i n : Nat) (F : FF), i + m = H.1.2.1 → m < n → RH F H → HR 16 F (mixS H i (fun s => stS (dW seed H.1.1) (H.2.1 s) nn)) → LE F (bst (fun s => pdS (dW seed H.1.1) (H.2.1 s) nn) 1000000000 i) → ∃ F1, fX6_drift_L61 N seed (nI nn) l3 n (nI (sumTo (fun s => pdS (dW seed H.1.1) (H.2.1 s) nn) i)) (nI i) F = some (if ¬ l3 = 0 then oI (bst (fun s => pdS (dW seed H.1.1) (H.2.1 s) nn) 1000000000 H.1.2.1).1 else nI (sumTo (fun s => pdS (dW seed H.1.1) (H.2.1 s) nn) H.1.2.1), F1) ∧ KX F F1 := by
  intro m
  induction m with
  | zero =>
    intro i n F hi hlt h hR hL
    obtain ⟨n, rfl⟩ : ∃ k, n = k + 1 := ⟨n - 1, by omega⟩
    have hns := h.ns
    have e : i = H.1.2.1 := by omega
    rw [fX6_drift_L61.eq_2, show F 16 1 = nI H.1.2.1 from hR.1.2.1, if_pos (by simp (disch := omega) only [nI_leI]; omega), hL.1, e]
    exact ⟨F, rfl, KX.rf⟩
  | succ m ih =>
    intro i n F hi hlt h hR hL
    obtain ⟨n, rfl⟩ : ∃ k, n = k + 1 := ⟨n - 1, by omega⟩
    obtain ⟨w1, w2, w3, w4, w5, w6⟩ := id h.2.2.1
    have hs : i < H.1.2.1 := by omega
    have hWm : WH (mixS H i (fun s => stS (dW seed H.1.1) (H.2.1 s) nn)) := ⟨w1, w2, w3, w4, w5, fun s hs => by
      show WS _ (if s < i then _ else _)
      split
      · exact ws_stS (w6 s hs) w1.2 (okW_d w1.1) nn
      · exact w6 s hs⟩
    have key := x_seed_L (N := N) (H := mixS H i (fun s => stS (dW seed H.1.1) (H.2.1 s) nn)) (s := i) (nn := nn) (seed := seed) hN hWm hs hn nn 0 N F (by omega) (by omega) h.1.1.1 (upS_self hR)
    rw [mixS_at (Nat.le_refl i)] at key
    obtain ⟨F1, e1, e2, e3⟩ := key
    have e2' : HR 16 F1 (mixS H (i + 1) (fun s => stS (dW seed H.1.1) (H.2.1 s) nn)) := by
      rw [← mixS_up (g := fun s => stS (dW seed H.1.1) (H.2.1 s) nn)]
      exact e2
    have hbl := bst_le (f := fun s => pdS (dW seed H.1.1) (H.2.1 s) nn) (L := 1000000000) i
    have hv := pdS_le (w := dW seed H.1.1) (x := H.2.1 i) nn
    obtain ⟨F2, k1, k2, k3⟩ := x_off (N := N) (i := i) (F := F1) (v := pdS (dW seed H.1.1) (H.2.1 i) nn) (t := pdS (dW seed H.1.1) (H.2.1 i) nn) (by unfold LE; rw [e3 40 (by omega)]; exact hL) (by omega) (by omega) (fun _ => rfl) (fun h => h)
    have hK : KX F F2 := e3.X.tr (K40 k3)
    obtain ⟨F3, z1, z2⟩ := ih (i + 1) n F2 (by omega) (by omega) (h.X hK) (e2'.keep w2 (fun c _ _ => k3 c (by omega))) k2
    refine ⟨F3, ?_, hK.tr z2⟩
    rw [fX6_drift_L61.eq_2, show F 16 1 = nI H.1.2.1 from hR.1.2.1, if_neg (by simp (disch := omega) only [nI_leI]; omega), ldR_H iH16 (show i < 4 by omega), fX6_paidBySeed, show (0 : Int32) = nI 0 from rfl]
    have e1' : fX6_paidBySeed_L9 N (16 + 3 + 3 * i) (nI nn) N seed (nI 0) (nI 0) F = some (nI (pdS (dW seed H.1.1) (H.2.1 i) nn), F1) := e1
    rw [e1', bnd_some, k1, bnd_some, nI_add, show nI i + 1 = nI (i + 1) from nI_1 i]
    exact z1
def drH (H : Hs) (seed : Int32) (n : Nat) : Hs := (H.1, (fun s => stS (dW seed H.1.1) (H.2.1 s) n), H.2.2)
theorem y_drift_L {N nn : Nat} {seed l3 : Int32} {H : Hs} (hN : 1000 ≤ N) (hn : nn ≤ 200) : ∀ (m i n : Nat) (F : FF), i + m = nn → m < n → RH F H → PR 300 F (drH H seed i) → ACCn F H (dW seed H.1.1) i → ∃ F1, fX7_drift_L55 N (nI nn) l3 n (gs seed i) (nI i) F = some (if ¬ l3 = 0 then oI (bst (fun s => pdS (dW seed H.1.1) (H.2.1 s) nn) 1000000000 H.1.2.1).1 else nI (sumTo (fun s => pdS (dW seed H.1.1) (H.2.1 s) nn) H.1.2.1), F1) ∧ KY F F1 := by
  intro m
  induction m with
  | zero =>
    intro i n F hi hlt h hR hA
    obtain ⟨n, rfl⟩ : ∃ k, n = k + 1 := ⟨n - 1, by omega⟩
    have hns := h.ns
    have e : i = nn := by omega
    subst e
    rw [fX7_drift_L55.eq_2, if_pos (by simp (disch := omega) only [nI_leI]; omega)]
    by_cases c : l3 = 0
    · rw [if_neg (fun h => h c), if_neg (fun h => h c), y_paidAll hN hA.1, bnd_some, sum4 hns]
      exact ⟨F, rfl, KY.rf⟩
    · rw [if_pos c, if_pos c, y_cheap (P := fun s => if s < H.1.2.1 then pdS (dW seed H.1.1) (H.2.1 s) i else 0) hN h.2.1.1.2.1 hns hA.1 (fun s hs => by
          have := pdS_le (w := dW seed H.1.1) (x := H.2.1 s) i
          show (if _ then _ else _) < _
          split <;> omega), bnd_some, bst_cg (g := fun s => pdS (dW seed H.1.1) (H.2.1 s) i) H.1.2.1 (fun s hs => if_pos hs)]
      exact ⟨F, rfl, KY.rf⟩
  | succ m ih =>
    intro i n F hi hlt h hR hA
    obtain ⟨n, rfl⟩ : ∃ k, n = k + 1 := ⟨n - 1, by omega⟩
    obtain ⟨w1, w2, w3, w4, w5, w6⟩ := id h.2.2.1
    have hb : dvN (gs seed (i + 1)) % H.1.1 < H.1.1 := Nat.mod_lt _ (by omega)
    have hd := dvN_lt (gs seed (i + 1))
    have hWd : WH (drH H seed i) := ⟨w1, w2, w3, w4, w5, fun s hs => ws_stS (w6 s hs) w1.2 (okW_d w1.1) i⟩
    obtain ⟨F1, z1, z2, z3, z4⟩ := y_asks (N := N) (pg := 300) hN (by omega) hR hWd hb
    obtain ⟨F2, y1, y2⟩ := ih (i + 1) n F1 (by omega) (by omega) (h.Y (z3.Y (by omega))) z2 (hA.step z4)
    refine ⟨F2, ?_, (z3.Y (by omega)).tr y2⟩
    rw [fX7_drift_L55.eq_2, if_neg (by simp (disch := omega) only [nI_leI]; omega), h.2.1.1.1, dv_ok (by simp (disch := omega) only [il, nI_eq]; omega), show gs seed i * 1103515245 + 12345 = gs seed (i + 1) from rfl, seedY, irem_nI (by omega) (by omega) (by omega), show (300 : Int32) = nI 300 from rfl, z1, bnd_some, show nI i + 1 = nI (i + 1) from nI_1 i]
    exact y1
theorem q_drift {N : Nat} {l1 l2 l3 : Int32} {F : FF} {H : Hs} (hN : 1000 ≤ N) (h : RH F H) : QOK (fX6_drift N l1 l2 l3) (fX7_drift N l1 l2 l3) F := by
  unfold QOK fX6_drift fX7_drift
  have hns := h.ns
  have hW := h.2.2.1
  have hgx : ∀ x : Int32, pX6_within x 1 200 F = bI (decide (1 ≤ x.toInt ∧ x.toInt < ((201 : Nat) : Int))) := fun x => by
    rw [x_in]
    congr 1
    show decide ((1 : Int) ≤ x.toInt ∧ x.toInt ≤ 200) = _
    congr 1
    simp only [eq_iff_iff]
    omega
  have hgy : ∀ (x : Int32) (F : FF), pX7_in x.toInt64 1 200 F = bI (decide (1 ≤ x.toInt ∧ x.toInt < ((201 : Nat) : Int))) := fun x F => by
    rw [y_in, i64]
    congr 1
    show decide ((1 : Int) ≤ x.toInt ∧ x.toInt ≤ 200) = _
    congr 1
    simp only [eq_iff_iff]
    omega
  rw [hgx, xR1]
  by_cases hg : 1 ≤ l2.toInt ∧ l2.toInt < ((201 : Nat) : Int)
  · obtain ⟨n, hn, rfl⟩ := of_range (x := l2) (n := 201) (by omega) hg.2
    rcases guard (x := l3) 2 with ⟨w, hw, rfl⟩ | hg3
    · by_cases c0 : H.1.2.1 = 0
      · refine ⟨-2, F, F, ?_, ?_, KX.rf, KY.rf⟩
        · rw [bI_t hg, if_neg n10, bI_nI hw (by omega), if_pos n10, h.1.1.2.1, c0, if_neg (by decide)]
        · rw [hgy, bI_t hg, if_neg n10, yR1, bI_nI hw (by omega), if_pos n10, show F 83 8 = nI H.1.2.1 from h.2.1.1.2.1, c0, if_neg (by decide)]
      · obtain ⟨F1, e1, e2, e3, -⟩ := x_trial hN h
        obtain ⟨F2, g1, g2, g3, g4⟩ := x_reset (N := N) (L := 1000000000) (F := F1)
        obtain ⟨F3, k1, k2⟩ := x_drift_L (N := N) (nn := n) (seed := l1) (l3 := nI w) hN (by omega) H.1.2.1 0 N F2 (by omega) (by omega) ((h.X e3).X (K40 g4)) (by rw [mixS_0]; exact e2.keep hns (fun c _ _ => g4 c (by omega))) ⟨g2, g3⟩
        have hK := (e3.tr (K40 g4)).tr k2
        have hR3 := h.X hK
        obtain ⟨F4, c1, c2, c3⟩ := y_page (t := 300) hN hR3 (by omega)
        obtain ⟨F5, b1, b2, b3, b4⟩ := y_starts (N := N) (F := F4) hN
        have k5 : KY F4 F5 := ⟨fun c h1 _ h3 _ => b2 c h3 h1, b3, fun k _ => by rw [b2 83 (by omega) (by omega)]⟩
        obtain ⟨F6, y1, y2⟩ := y_drift_L (N := N) (nn := n) (seed := l1) (l3 := nI w) hN (by omega) n 0 N F5 (by omega) (by omega) ((hR3.Y c3).Y k5) (c2.keep hW (b3 1 (by omega) (by omega)) (b3 20 (by omega) (by omega)) (fun k _ _ => by rw [b2 83 (by omega) (by omega)])) (ACCn.zero b4)
        refine ⟨if ¬ nI w = 0 then oI (bst (fun s => pdS (dW l1 H.1.1) (H.2.1 s) n) 1000000000 H.1.2.1).1 else nI (sumTo (fun s => pdS (dW l1 H.1.1) (H.2.1 s) n) H.1.2.1), F3, F6, ?_, ?_, hK, (c3.tr k5).tr y2⟩
        · rw [bI_t hg, if_neg n10, bI_nI hw (by omega), if_pos n10, h.1.1.2.1, if_pos (by simp (disch := omega) only [il, nI_eq]; exact c0), e1, bnd_some, show (1000000000 : Int32) = nI 1000000000 from rfl, g1, bnd_some]
          exact k1
        · rw [hgy, bI_t hg, if_neg n10, yR1, bI_nI hw (by omega), if_pos n10, show F3 83 8 = nI H.1.2.1 from hR3.2.1.1.2.1, if_pos (by simp (disch := omega) only [il, nI_eq]; exact c0), show (300 : Int32) = nI 300 from rfl, c1, bnd_some, b1, bnd_some]
          exact y1
    · refine ⟨-1, F, F, ?_, ?_, KX.rf, KY.rf⟩
      · rw [bI_t hg, if_neg n10, bI_f hg3, if_neg (by decide)]
      · rw [hgy, bI_t hg, if_neg n10, yR1, bI_f hg3, if_neg (by decide)]
  · refine ⟨-1, F, F, ?_, ?_, KX.rf, KY.rf⟩
    · rw [bI_f hg, if_pos rfl]
    · rw [hgy, bI_f hg, if_pos rfl]
