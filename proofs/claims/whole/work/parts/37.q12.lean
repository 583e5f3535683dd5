/-! QUESTIONS: when to look where, ended -/
def foI (g nm : Nat → Nat) : Nat → Nat → Option Nat × Nat → Option Nat × Nat
  | 0, _, p => p
  | m + 1, j, p => foI g nm m (j + 1) (off p (nm j) (g j))
def foO (ns : Nat) (g : Nat → Nat → Nat) : Nat → Nat → Option Nat × Nat → Option Nat × Nat
  | 0, _, p => p
  | m + 1, k, p => foO ns g m (k + 1) (foI (g k) (fun s => 10 * k + s) ns 0 p)
def oP (p : Option Nat × Nat) : Prop := p.2 ≤ 6 ∧ ∀ k, p.1 = some k → k < 3000
theorem oP_off {p : Option Nat × Nat} {k v : Nat} (h : oP p) (hk : k < 3000) : oP (off p k v) := by
  unfold off
  by_cases e : v < p.2
  · rw [if_pos e]
    exact ⟨by have := h.1; show v ≤ _; omega, fun j hj => by cases hj; exact hk⟩
  · rw [if_neg e]; exact h
theorem oP_foI {g nm : Nat → Nat} {B : Nat} (hnm : ∀ j, j < B → nm j < 3000) : ∀ (m j : Nat) (p : Option Nat × Nat), j + m ≤ B → oP p → oP (foI g nm m j p)
  | 0, _, _, _, h => h
  | m + 1, j, p, hj, h => oP_foI hnm m (j + 1) _ (by omega) (oP_off h (hnm j (by omega)))
/-- the most that show one, the two ways -/
theorem mx_lub {f : Nat → Nat} {c : Nat} : ∀ n, (∀ i, i < n → f i ≤ c) → mxTo f n ≤ c
  | 0, _ => Nat.zero_le _
  | n + 1, h => by
    have h1 := mx_lub n (fun i hi => h i (by omega))
    have h2 := h n (by omega)
    show max _ _ ≤ c
    omega
theorem sum_pos {f : Nat → Nat} : ∀ n, 0 < sumTo f n → ∃ i, i < n ∧ 0 < f i
  | 0, h => by cases h
  | n + 1, h => by
    by_cases c : 0 < f n
    · exact ⟨n, by omega, c⟩
    · have h : 0 < sumTo f n + f n := h
      have h0 : 0 < sumTo f n := by omega
      obtain ⟨i, hi, h2⟩ := sum_pos n h0
      exact ⟨i, by omega, h2⟩
theorem most_eq {C : Nat → Bool} {f : Nat → Nat} {nb : Nat} (hf : ∀ v, v < nb → C v = true → f v < 6) : mxTo (fun a => if C a = true then cnt C f nb (f a) else 0) nb = mxTo (fun a => cnt C f nb a) 6 := by
  apply Nat.le_antisymm
  · apply mx_lub
    intro a ha
    by_cases c : C a = true
    · rw [if_pos c]
      exact mxTo_ge (f := fun a => cnt C f nb a) 6 (f a) (hf a ha c)
    · rw [if_neg c]; exact Nat.zero_le _
  · apply mx_lub
    intro a ha
    by_cases c : 0 < cnt C f nb a
    · obtain ⟨v, hv, h2⟩ := sum_pos nb c
      by_cases cc : C v = true ∧ f v = a
      · have := mxTo_ge (f := fun a => if C a = true then cnt C f nb (f a) else 0) nb v hv
        have e : (fun a => if C a = true then cnt C f nb (f a) else 0) v = cnt C f nb a := by
          show (if C v = true then cnt C f nb (f v) else 0) = _
          rw [if_pos cc.1, cc.2]
        exact Nat.le_trans (Nat.le_of_eq e.symm) this
      · have h2 : 0 < (if C v = true ∧ f v = a then 1 else 0) := h2
        rw [if_neg cc] at h2
        omega
    · omega
def mW (H : Hs) (i0 : Nat) (C : Nat → Bool) (k s : Nat) : Nat := mxTo (fun a => cnt C (fun v => fA H i0 v k s) H.1.1 a) 6
theorem mW_le {H : Hs} {i0 k s : Nat} {C : Nat → Bool} (h : H.1.1 ≤ 6) : mW H i0 C k s ≤ 6 := mx_lub 6 (fun a _ => by have := cnt_le (C := C) (f := fun v => fA H i0 v k s) (nb := H.1.1) (a := a); omega)
theorem x_ask58 {N i0 k : Nat} {l2 : Int32} {H : Hs} {C : Nat → Bool} {k48 : Int32 → FF → Option (Int32 × FF)} (hN : 1000 ≤ N) (hk : k ≤ 40) : ∀ (m s n : Nat) (F : FF) (p : Option Nat × Nat), s + m = H.1.2.1 → m < n → RH F H → LK F H (fun k s => pk6 (cnt C (fun v => fA H i0 v k s) H.1.1)) → oP p → LE F p → ∃ F1, fX6_ask_L58 N k48 l2 (nI k) n (nI s) F = k48 (nI (k + 1)) F1 ∧ LE F1 (foI (mW H i0 C k) (fun s => 10 * k + s) m s p) ∧ KX F F1 ∧ F1 43 = F 43 := by
  intro m
  induction m with
  | zero =>
    intro s n F p hs hn h hL hp hE
    obtain ⟨n, rfl⟩ : ∃ k, n = k + 1 := ⟨n - 1, by omega⟩
    have hns := h.ns
    rw [fX6_ask_L58.eq_2, h.1.1.2.1, if_pos (by simp (disch := omega) only [nI_leI]; omega), show nI k + 1 = nI (k + 1) from nI_1 k]
    exact ⟨F, rfl, hE, KX.rf, rfl⟩
  | succ m ih =>
    intro s n F p hs hn h hL hp hE
    obtain ⟨n, rfl⟩ : ∃ k, n = k + 1 := ⟨n - 1, by omega⟩
    have hns := h.ns
    have hnb := h.nb
    have hd : ∀ a, cnt C (fun v => fA H i0 v k s) H.1.1 a ≤ 6 := fun a => by have := cnt_le (C := C) (f := fun v => fA H i0 v k s) (nb := H.1.1) (a := a); omega
    have hP := pk6_lt hd
    have hv : mxTo (fun a => pk6 (cnt C (fun v => fA H i0 v k s) H.1.1) / 16 ^ a % 16) 6 = mW H i0 C k s := mxTo_cg 6 (fun a ha => pk6_dig hd a ha)
    have hw := mW_le (H := H) (i0 := i0) (k := k) (s := s) (C := C) hnb.2
    have hp1 := hp.1
    obtain ⟨F1, g1, g2, g3⟩ := x_off (N := N) (i := 10 * k + s) (v := mW H i0 C k s) (t := mW H i0 C k s) hE (by omega) (by omega) (fun _ => rfl) (fun h => h)
    obtain ⟨F2, z1, z2, z3, z4⟩ := ih (s + 1) n F1 (off p (10 * k + s) (mW H i0 C k s)) (by omega) (by omega) (h.X (K40 g3)) (fun k' hk' s' hs' => by rw [g3 43 (by omega)]; exact hL k' hk' s' hs') (oP_off hp (by omega)) g2
    refine ⟨F2, ?_, z2, (K40 g3).tr z3, by rw [z4, g3 43 (by omega)]⟩
    have hmost := x_most_L (N := N) (F := F) (P := pk6 (cnt C (fun v => fA H i0 v k s) H.1.1)) (by omega) 6 0 N rfl (by omega)
    rw [hv] at hmost
    rw [fX6_ask_L58.eq_2, h.1.1.2.1, if_neg (by simp (disch := omega) only [nI_leI]; omega), show nI k * 4 + nI s = nI (k * 4 + s) by rw [show nI k * 4 = nI (k * 4) from nI_mul k 4, nI_add], ld_ok a43 (by omega), hL k hk s (by omega), fX6_mostShowingOne, show (0 : Int32) = nI 0 from rfl]
    have hmost' : fX6_mostShowingOne_L4 N (nI (pk6 (cnt C (fun v => fA H i0 v k s) H.1.1))) N (nI 0) (nI 0) F = some (nI (mW H i0 C k s), F) := hmost
    rw [hmost', bnd_some, show (10 : Int32) * nI k + nI s = nI (10 * k + s) by rw [show (10 : Int32) * nI k = nI (10 * k) from nI_mul 10 k, nI_add], g1, bnd_some, show nI s + 1 = nI (s + 1) from nI_1 s]
    exact z1
theorem x_ask48 {N i0 : Nat} {l2 : Int32} {H : Hs} {C : Nat → Bool} (hN : 1000 ≤ N) : ∀ (m k n : Nat) (F : FF) (p : Option Nat × Nat), k + m = 41 → m < n → RH F H → LK F H (fun k s => pk6 (cnt C (fun v => fA H i0 v k s) H.1.1)) → oP p → LE F p → ∃ F1, fX6_ask_L48 N l2 n (nI k) F = some (ansV (foO H.1.2.1 (mW H i0 C) m k p) l2, F1) ∧ KX F F1 := by
  intro m
  induction m with
  | zero =>
    intro k n F p hk hn h hL hp hE
    obtain ⟨n, rfl⟩ : ∃ k, n = k + 1 := ⟨n - 1, by omega⟩
    have e : k = 41 := by omega
    subst e
    rw [fX6_ask_L48.eq_2, if_pos (by decide), x_answer hE (fun i hi => by have := hp.2 i hi; omega)]
    exact ⟨F, rfl, KX.rf⟩
  | succ m ih =>
    intro k n F p hk hn h hL hp hE
    obtain ⟨n, rfl⟩ : ∃ k, n = k + 1 := ⟨n - 1, by omega⟩
    have hns := h.ns
    obtain ⟨F1, e1, e2, e3, e4⟩ := x_ask58 (N := N) (i0 := i0) (C := C) (l2 := l2) (k48 := fun x4 F => fX6_ask_L48 N l2 n x4 F) hN (show k ≤ 40 by omega) H.1.2.1 0 N F p (by omega) (by omega) h hL hp hE
    obtain ⟨F2, z1, z2⟩ := ih (k + 1) n F1 _ (by omega) (by omega) (h.X e3) (fun k' hk' s' hs' => by rw [e4]; exact hL k' hk' s' hs') (oP_foI (B := 4) (fun j hj => by omega) H.1.2.1 0 p (by omega) hp) e2
    refine ⟨F2, ?_, e3.tr z2⟩
    rw [fX6_ask_L48.eq_2, if_neg (by simp (disch := omega) only [il, nI_ltI]; omega), show (0 : Int32) = nI 0 from rfl, e1]
    exact z1
/-! the reference's side -/
theorem y_worst20 {N nb a pl : Nat} {W : Nat} {F : FF} {C : Nat → Bool} {f : Nat → Nat} {k5 : Int32 → Int32 → FF → Option (Int32 × FF)} (hnb : nb ≤ 6) (ha : a < nb) (hpl : pl < 164) (hWb : W < 100) (h1 : F 82 1 = nI nb) (hF : ∀ v, v < nb → F 90 (164 * v + pl) = nI (f v)) (hf : ∀ v, v < nb → f v < 6) : ∀ (m b n : Nat), b + m = nb → m < n → C a = true → fX7_worstAt_L20 N k5 (bitF C nb) (nI pl) (nI W) (nI a) n (nI (sumTo (fun v => if C v = true ∧ f v = f a then 1 else 0) b)) (nI b) F = k5 (nI (max W (cnt C f nb (f a)))) (nI (a + 1)) F := by
  intro m
  induction m with
  | zero =>
    intro b n hb hn hC
    obtain ⟨n, rfl⟩ : ∃ k, n = k + 1 := ⟨n - 1, by omega⟩
    have hcl := cnt_le (C := C) (f := f) (nb := nb) (a := f a)
    rw [fX7_worstAt_L20.eq_2, h1, if_pos (by simp (disch := omega) only [nI_leI]; omega), fX7_worstAt_b94, show b = nb by omega]
    show k5 (if nI (cnt C f nb (f a)) ≤ nI W then nI W else nI (cnt C f nb (f a))) (nI a + 1) F = _
    simp (disch := omega) only [nI_leI]
    rw [show nI a + 1 = nI (a + 1) from nI_1 a]
    by_cases c : cnt C f nb (f a) ≤ W
    · rw [if_pos c, show max W (cnt C f nb (f a)) = W by omega]
    · rw [if_neg c, show max W (cnt C f nb (f a)) = cnt C f nb (f a) by omega]
  | succ m ih =>
    intro b n hb hn hC
    obtain ⟨n, rfl⟩ : ∃ k, n = k + 1 := ⟨n - 1, by omega⟩
    have hz := ih (b + 1) n (by omega) (by omega) hC
    have hfa := hf a ha
    have hfb := hf b (by omega)
    rw [fX7_worstAt_L20.eq_2, h1, if_neg (by simp (disch := omega) only [nI_leI]; omega), bit_at hnb ha, hC, if_neg (show ¬ ¬ bI true = 1 by decide), bit_at hnb (by omega), ← hz, show sumTo (fun v => if C v = true ∧ f v = f a then 1 else 0) (b + 1) = sumTo (fun v => if C v = true ∧ f v = f a then 1 else 0) b + (if C b = true ∧ f b = f a then 1 else 0) from rfl]
    cases hCb : C b with
    | false =>
      rw [if_pos (show ¬ bI false = 1 by decide), fX7_worstAt_b84, fX7_worstAt_b85, show nI b + 1 = nI (b + 1) from nI_1 b, if_neg (fun h => by cases h.1), show (0 : Int32) = nI 0 from rfl, nI_add]
    | true =>
      rw [if_neg (show ¬ ¬ bI true = 1 by decide), show (164 : Int32) * nI a + nI pl = nI (164 * a + pl) by rw [show (164 : Int32) * nI a = nI (164 * a) from nI_mul 164 a, nI_add], ld_ok a90 (by omega), show (164 : Int32) * nI b + nI pl = nI (164 * b + pl) by rw [show (164 : Int32) * nI b = nI (164 * b) from nI_mul 164 b, nI_add], ld_ok a90 (by omega), hF a ha, hF b (by omega), show nI b + 1 = nI (b + 1) from nI_1 b]
      congr 1
      simp (disch := omega) only [nI_eq]
      by_cases c : f b = f a
      · rw [if_neg (by omega), if_pos (by simpa using c)]; exact nI_1 _
      · rw [if_pos (by omega), if_neg (fun h => c h.2)]
        rw [show (0 : Int32) = nI 0 from rfl, nI_add]
theorem y_worst5 {N nb pl : Nat} {F : FF} {C : Nat → Bool} {f : Nat → Nat} (hN : 1000 ≤ N) (hnb : nb ≤ 6) (hpl : pl < 164) (h1 : F 82 1 = nI nb) (hF : ∀ v, v < nb → F 90 (164 * v + pl) = nI (f v)) (hf : ∀ v, v < nb → f v < 6) : ∀ (m a n : Nat), a + m = nb → m < n → fX7_worstAt_L5 N (bitF C nb) (nI pl) n (nI (mxTo (fun a => if C a = true then cnt C f nb (f a) else 0) a)) (nI a) F = some (nI (mxTo (fun a => if C a = true then cnt C f nb (f a) else 0) nb), F) := by
  have hb : ∀ j, mxTo (fun a => if C a = true then cnt C f nb (f a) else 0) j ≤ 6 := fun j => mx_lub j (fun a _ => by
    have := cnt_le (C := C) (f := f) (nb := nb) (a := f a)
    show (if _ then _ else _) ≤ 6
    split <;> omega)
  intro m
  induction m with
  | zero =>
    intro a n ha hn
    obtain ⟨n, rfl⟩ : ∃ k, n = k + 1 := ⟨n - 1, by omega⟩
    rw [fX7_worstAt_L5.eq_2, h1, if_pos (by simp (disch := omega) only [nI_leI]; omega), show a = nb by omega]
  | succ m ih =>
    intro a n ha hn
    obtain ⟨n, rfl⟩ : ∃ k, n = k + 1 := ⟨n - 1, by omega⟩
    have hz := ih (a + 1) n (by omega) (by omega)
    have h6 := hb a
    rw [fX7_worstAt_L5.eq_2, h1, if_neg (by simp (disch := omega) only [nI_leI]; omega), ← hz]
    show _ = fX7_worstAt_L5 N (bitF C nb) (nI pl) n (nI (max (mxTo (fun a => if C a = true then cnt C f nb (f a) else 0) a) (if C a = true then cnt C f nb (f a) else 0))) _ F
    cases hC : C a with
    | true =>
      have := y_worst20 (N := N) (C := C) (f := f) (k5 := fun x3 x4 F => fX7_worstAt_L5 N (bitF C nb) (nI pl) n x3 x4 F) (a := a) (W := mxTo (fun a => if C a = true then cnt C f nb (f a) else 0) a) hnb (by omega) hpl (by omega) h1 hF hf nb 0 N (by omega) (by omega) hC
      rw [if_pos rfl]
      exact this
    | false =>
      obtain ⟨M, rfl⟩ : ∃ k, N = k + 1 := ⟨N - 1, by omega⟩
      rw [if_neg (by decide), fX7_worstAt_L20.eq_2, h1, if_neg (by rw [show (0 : Int32) = nI 0 from rfl]; simp (disch := omega) only [nI_leI]; omega), bit_at hnb (by omega), hC, if_pos (show ¬ bI false = 1 by decide), fX7_worstAt_b94, show nI a + 1 = nI (a + 1) from nI_1 a, if_pos (by rw [show (0 : Int32) = nI 0 from rfl]; simp (disch := omega) only [nI_leI]; omega), show max (mxTo (fun a => if C a = true then cnt C f nb (f a) else 0) a) 0 = mxTo (fun a => if C a = true then cnt C f nb (f a) else 0) a by omega]
def FBa (F : FF) (H : Hs) (i0 : Nat) : Prop := ∀ v, v < H.1.1 → ∀ k, k < 41 → ∀ s, s < H.1.2.1 → F 90 (164 * v + 4 * k + s) = nI (fA H i0 v k s)
theorem y_worst {N i0 k s : Nat} {F : FF} {H : Hs} {C : Nat → Bool} (hN : 1000 ≤ N) (h : RH F H) (hi : i0 < H.1.2.2.1) (hFB : FBa F H i0) (hk : k ≤ 40) (hs : s < H.1.2.1) : fX7_worstAt N (bitF C H.1.1) (nI (4 * k + s)) F = some (nI (mW H i0 C k s), F) := by
  have hnb := h.nb
  have hns := h.ns
  have hf : ∀ v, v < H.1.1 → fA H i0 v k s < 6 := fun v hv => (ws_stS (h.2.2.1.2.2.2.2.2 s hs) hnb.2 (h.2.2.1.setW (i := i0) (o := some v) (fun b e => by cases e; exact hv)).okW k).2.1 0 (by omega)
  have := y_worst5 (N := N) (C := C) (f := fun v => fA H i0 v k s) hN hnb.2 (show 4 * k + s < 164 by omega) h.2.1.1.1 (fun v hv => by have := hFB v hv k (by omega) s hs; rw [Nat.add_assoc] at this; exact this) hf H.1.1 0 N (by omega) (by omega)
  rw [most_eq (fun v hv _ => hf v hv)] at this
  exact this
theorem y_ask82 {N i0 k : Nat} {l2 : Int32} {F : FF} {H : Hs} {C : Nat → Bool} {k72 : Int32 → Int32 → Int32 → FF → Option (Int32 × FF)} (hN : 1000 ≤ N) (h : RH F H) (hi : i0 < H.1.2.2.1) (hFB : FBa F H i0) (hk : k ≤ 40) : ∀ (m s n : Nat) (p : Option Nat × Nat), s + m = H.1.2.1 → m < n → oP p → fX7_ask_L82 N k72 l2 (bitF C H.1.1) (nI k) n (nI p.2) (oI p.1) (nI s) F = k72 (nI (foI (mW H i0 C k) (fun s => 10 * k + s) m s p).2) (oI (foI (mW H i0 C k) (fun s => 10 * k + s) m s p).1) (nI (k + 1)) F := by
  have hns := h.ns
  have hnb := h.nb
  have h8 : F 83 8 = nI H.1.2.1 := h.2.1.1.2.1
  intro m
  induction m with
  | zero =>
    intro s n p hs hn hp
    obtain ⟨n, rfl⟩ : ∃ k, n = k + 1 := ⟨n - 1, by omega⟩
    rw [fX7_ask_L82.eq_2, h8, if_pos (by simp (disch := omega) only [nI_leI]; omega), show nI k + 1 = nI (k + 1) from nI_1 k]
    rfl
  | succ m ih =>
    intro s n p hs hn hp
    obtain ⟨n, rfl⟩ : ∃ k, n = k + 1 := ⟨n - 1, by omega⟩
    have hw := mW_le (H := H) (i0 := i0) (k := k) (s := s) (C := C) hnb.2
    have hp1 := hp.1
    have ho := wh_oI (p := p) (i := 10 * k + s) (v := mW H i0 C k s) (by omega) (by omega)
    rw [fX7_ask_L82.eq_2, h8, if_neg (by simp (disch := omega) only [nI_leI]; omega), show (4 : Int32) * nI k + nI s = nI (4 * k + s) by rw [show (4 : Int32) * nI k = nI (4 * k) from nI_mul 4 k, nI_add], y_worst hN h hi hFB hk (by omega), bnd_some, show (10 : Int32) * nI k + nI s = nI (10 * k + s) by rw [show (10 : Int32) * nI k = nI (10 * k) from nI_mul 10 k, nI_add], ho.1, ho.2, show nI s + 1 = nI (s + 1) from nI_1 s]
    exact ih (s + 1) n (off p (10 * k + s) (mW H i0 C k s)) (by omega) (by omega) (oP_off hp (by omega))
theorem y_ask72 {N i0 : Nat} {l2 : Int32} {F : FF} {H : Hs} {C : Nat → Bool} (hN : 1000 ≤ N) (h : RH F H) (hi : i0 < H.1.2.2.1) (hFB : FBa F H i0) : ∀ (m k n : Nat) (p : Option Nat × Nat), k + m = 41 → m < n → oP p → fX7_ask_L72 N l2 (bitF C H.1.1) n (nI p.2) (oI p.1) (nI k) F = some (ansV (foO H.1.2.1 (mW H i0 C) m k p) l2, F) := by
  have hns := h.ns
  intro m
  induction m with
  | zero =>
    intro k n p hk hn hp
    obtain ⟨n, rfl⟩ : ∃ k, n = k + 1 := ⟨n - 1, by omega⟩
    have e : k = 41 := by omega
    subst e
    rw [fX7_ask_L72.eq_2, if_pos (by decide), ans_oI (fun i hi => by have := hp.2 i hi; omega)]
    rfl
  | succ m ih =>
    intro k n p hk hn hp
    obtain ⟨n, rfl⟩ : ∃ k, n = k + 1 := ⟨n - 1, by omega⟩
    rw [fX7_ask_L72.eq_2, if_neg (by simp (disch := omega) only [il, nI_ltI]; omega), show (0 : Int32) = nI 0 from rfl, y_ask82 (C := C) hN h hi hFB (by omega) H.1.2.1 0 N p (by omega) (by omega) hp]
    exact ih (k + 1) n _ (by omega) (by omega) (oP_foI (B := 4) (fun j hj => by omega) H.1.2.1 0 p (by omega) hp)
theorem y_ask39 {N : Nat} {l2 : Int32} {F : FF} {nb : Nat} {C : Nat → Bool} (hnb : nb ≤ 6) (h1 : F 82 1 = nI nb) : ∀ (m b n : Nat), b + m = nb → m < n → fX7_ask_L39 N l2 (bitF C nb) n (nI (sumTo (fun b => b2n (C b)) b)) (nI b) F = fX7_ask_L72 N l2 (bitF C nb) N (nI (sumTo (fun b => b2n (C b)) nb)) (-4) (nI 0) F := by
  intro m
  induction m with
  | zero =>
    intro b n hb hn
    obtain ⟨n, rfl⟩ : ∃ k, n = k + 1 := ⟨n - 1, by omega⟩
    rw [fX7_ask_L39.eq_2, h1, if_pos (by simp (disch := omega) only [nI_leI]; omega), show b = nb by omega]
    rfl
  | succ m ih =>
    intro b n hb hn
    obtain ⟨n, rfl⟩ : ∃ k, n = k + 1 := ⟨n - 1, by omega⟩
    rw [fX7_ask_L39.eq_2, h1, if_neg (by simp (disch := omega) only [nI_leI]; omega), bit_at hnb (by omega), show bI (C b) = nI (b2n (C b)) by unfold bI b2n; split <;> rfl, nI_add, show nI b + 1 = nI (b + 1) from nI_1 b]
    exact ih (b + 1) n (by omega) (by omega)
theorem q_ask {N : Nat} {l1 l2 : Int32} {F : FF} (hN : 1000 ≤ N) (hI : Inv F) : QOK (fX6_ask N l1 l2) (fX7_ask N l1 l2) F := by
  obtain ⟨H, h, -, -, ⟨sm, e, hS⟩, -⟩ := hI
  have hS : RSn F sm e := hS
  unfold QOK fX6_ask fX7_ask
  have hnw := h.nw
  have hnb := h.nb
  have hns := h.ns
  rw [h.xW, xR1]
  rcases guard (x := l1) H.1.2.2.1 with ⟨i, hi, rfl⟩ | hg
  · rcases guard (x := l2) 2 with ⟨w, hw, rfl⟩ | hg3
    · have hsum := sumTo_le (f := fun b => b2n (seeB (setW H i (some b)) sm e)) (c := 1) H.1.1 (fun b _ => by unfold b2n; split <;> omega)
      have hp : oP (none, sumTo (fun b => b2n (seeB (setW H i (some b)) sm e)) H.1.1) := ⟨by show sumTo _ _ ≤ 6; omega, fun k hk => by cases hk⟩
      obtain ⟨F1, e1, e2⟩ := x_cand_L (N := N) (i0 := i) (sm := sm) (e := e) hN hi H.1.1 0 N F (by omega) (by omega) h hS
      have hR1 := h.X e2
      obtain ⟨F2, g1, g2, g3⟩ := x_looksZ (N := N) (l1 := nI i) (l2 := bitF (fun b => seeB (setW H i (some b)) sm e) H.1.1) 164 0 N F1 rfl (by omega) (fun j hj => by omega)
      have k2 : KX F1 F2 := fun c hc => g3 c (by omega)
      have hR2 := hR1.X k2
      obtain ⟨F3, k1, kL, k3⟩ := x_looks26 (N := N) (i0 := i) (C := fun b => seeB (setW H i (some b)) sm e) hN hi H.1.1 0 N F2 (by omega) (by omega) hR2 (fun k hk s hs => by rw [g2 _ (by omega)]; rfl)
      have hR3 := hR2.X k3
      obtain ⟨F4, r1, r2, r3, r4⟩ := x_reset (N := N) (L := sumTo (fun b => b2n (seeB (setW H i (some b)) sm e)) H.1.1) (F := F3)
      obtain ⟨F5, a1, a2⟩ := x_ask48 (N := N) (i0 := i) (l2 := nI w) (C := fun b => seeB (setW H i (some b)) sm e) hN 41 0 N F4 _ rfl (by omega) (hR3.X (K40 r4)) (fun k hk s hs => by rw [r4 43 (by omega)]; exact kL k hk s hs) hp ⟨r2, r3⟩
      have hK : KX F F5 := (((e2.tr k2).tr k3).tr (K40 r4)).tr a2
      have hR5 := h.X hK
      obtain ⟨F6, y1, y2, y3⟩ := y_numbers (N := N) (at0 := 9 + i) (many := H.1.1) (Hv := fun v => setW H i (some v)) hN (by omega) (by omega) (hS.X hK) (hv_book hR5 hi)
      have hR6 := hR5.Y y2
      refine ⟨ansV (foO H.1.2.1 (mW H i (fun b => seeB (setW H i (some b)) sm e)) 41 0 (none, sumTo (fun b => b2n (seeB (setW H i (some b)) sm e)) H.1.1)) (nI w), F5, F6, ?_, ?_, hK, y2⟩
      · have e1' : fX6_candidates_L4 N (nI i) N (nI 0) (nI 0) F = some (bitF (fun b => seeB (setW H i (some b)) sm e) H.1.1, F1) := e1
        rw [bI_nI hi (by omega), if_neg n10, bI_nI hw (by omega), if_pos n10, fX6_candidates, show (0 : Int32) = nI 0 from rfl, e1', bnd_some, fX6_countLooks, show (0 : Int32) = nI 0 from rfl, g1, k1, bnd_some, bit_cnt hnb.2, r1, bnd_some]
        exact a1
      · rw [hR5.yW, bnd_some, bI_nI hi (by omega), if_neg n10, yR1, bI_nI hw (by omega), if_pos n10, show 9 + nI i = nI (9 + i) from nI_add 9 i, hR5.2.1.1.1, y1, bnd_some]
        have h39 := y_ask39 (N := N) (l2 := nI w) (C := fun b => seeB (setW H i (some b)) sm e) hnb.2 hR6.2.1.1.1 H.1.1 0 N (by omega) (by omega)
        have h39' : fX7_ask_L39 N (nI w) (bitF (fun b => seeB (setW H i (some b)) sm e) H.1.1) N 0 0 F6 = _ := h39
        rw [h39']
        exact y_ask72 (C := fun b => seeB (setW H i (some b)) sm e) hN hR6 hi (fun v hv k hk s hs => y3 v hv k hk s hs) 41 0 N (none, sumTo (fun b => b2n (seeB (setW H i (some b)) sm e)) H.1.1) rfl (by omega) hp
    · refine ⟨-1, F, F, ?_, ?_, KX.rf, KY.rf⟩
      · rw [bI_nI hi (by omega), if_neg n10, bI_f hg3, if_neg (by decide)]
      · rw [h.yW, bnd_some, bI_nI hi (by omega), if_neg n10, yR1, bI_f hg3, if_neg (by decide)]
  · refine ⟨-1, F, F, ?_, ?_, KX.rf, KY.rf⟩
    · rw [bI_f hg, if_pos rfl]
    · rw [h.yW, bnd_some, bI_f hg, if_pos rfl]
