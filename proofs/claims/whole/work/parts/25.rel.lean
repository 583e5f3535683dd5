/-! WHAT CLASS AND REFERENCE HAVE IN COMMON -/
def okA (H : Hs) : Prop := ∀ i, i < H.1.2.2.1 → ∃ b, H.2.2 i = some b
/-- the house as class and reference hold it -/
def RH (F : FF) (H : Hs) : Prop := HR 1 F H ∧ PR 0 F H ∧ WH H ∧ okA H ∧ H.1.2.2.2 ≤ 9999 ∧ F 82 20 = -4
/-- what questions of the class leave alone -/
def KX (F F' : FF) : Prop := ∀ c, (c < 16 ∨ (31 ≤ c ∧ c < 40) ∨ 44 ≤ c) → F' c = F c
/-- what questions of the reference leave alone -/
def KY (F F' : FF) : Prop := (∀ c, c ≠ 82 → c ≠ 83 → c ≠ 88 → c ≠ 90 → F' c = F c) ∧ (∀ k, k ≠ 18 → k ≠ 19 → F' 82 k = F 82 k) ∧ ∀ k, k < 225 → F' 83 k = F 83 k
theorem KX.rf {F : FF} : KX F F := fun _ _ => rfl
theorem KX.tr {F F1 F2 : FF} (a : KX F F1) (b : KX F1 F2) : KX F F2 := fun c hc => (b c hc).trans (a c hc)
theorem KY.rf {F : FF} : KY F F := ⟨fun _ _ _ _ _ => rfl, fun _ _ _ => rfl, fun _ _ => rfl⟩
theorem KY.tr {F F1 F2 : FF} (a : KY F F1) (b : KY F1 F2) : KY F F2 := ⟨fun c h1 h2 h3 h4 => (b.1 c h1 h2 h3 h4).trans (a.1 c h1 h2 h3 h4), fun k h1 h2 => (b.2.1 k h1 h2).trans (a.2.1 k h1 h2), fun k hk => (b.2.2 k hk).trans (a.2.2 k hk)⟩
theorem FrH.X {F F' : FF} (h : FrH 16 F F') : KX F F' := fun c hc => h c (by omega)
theorem FrA.Y {pg : Nat} {F F' : FF} (h : FrA pg F F') (hp : 225 ≤ pg) : KY F F' := ⟨fun c h1 h2 h3 _ => h.1 c h2 h1 h3, h.2.1, fun k hk => h.2.2 k (by omega)⟩
theorem HR.keep {h : Nat} {F F' : FF} {H : Hs} (hR : HR h F H) (hs : H.1.2.1 ≤ 4) (hk : ∀ c, h ≤ c → c < h + 15 → F' c = F c) : HR h F' H := by
  obtain ⟨⟨a1, a2, a3, a4⟩, a5, a6⟩ := hR
  have e0 := hk h (by omega) (by omega)
  have e2 := hk (h + 2) (by omega) (by omega)
  refine ⟨⟨by rw [e0]; exact a1, by rw [e0]; exact a2, by rw [e0]; exact a3, by rw [e0]; exact a4⟩, fun i hi => by rw [e2]; exact a5 i hi, fun s hs' => (a6 s hs').same (hk _ (by omega) (by omega)) (hk _ (by omega) (by omega)) (hk _ (by omega) (by omega))⟩
theorem RH.X {F F' : FF} {H : Hs} (h : RH F H) (k : KX F F') : RH F' H := by
  obtain ⟨h1, h2, h3, h4, h5, h6⟩ := h
  exact ⟨h1.keep h3.2.1 (fun c _ _ => k c (by omega)), h2.keep h3 (by rw [k 82 (by omega)]) (by rw [k 82 (by omega)]) (fun j _ _ => by rw [k 83 (by omega)]), h3, h4, h5, by rw [k 82 (by omega)]; exact h6⟩
theorem RH.Y {F F' : FF} {H : Hs} (h : RH F H) (k : KY F F') : RH F' H := by
  obtain ⟨h1, h2, h3, h4, h5, h6⟩ := h
  exact ⟨h1.keep h3.2.1 (fun c _ _ => k.1 c (by omega) (by omega) (by omega) (by omega)), h2.keep h3 (k.2.1 1 (by omega) (by omega)) (k.2.1 20 (by omega) (by omega)) (fun j _ _ => k.2.2 j (by omega)), h3, h4, h5, by rw [k.2.1 20 (by omega) (by omega)]; exact h6⟩
/-- images -/
def RIm (F : FF) (nb : Nat) : Prop := ∀ k, k < 2 → (F 32 k = 0 ∧ F 91 k = 0) ∨ (F 32 k = 1 ∧ F 91 k = 1 ∧ ∃ J : Hs, HR (44 + 15 * k) F J ∧ PR (75 * (k + 1)) F J ∧ WH J ∧ okA J ∧ J.1.2.2.2 ≤ 9999 ∧ J.1.1 = nb)
/-- the tape -/
def RT (F : FF) : Prop := ∃ (n : Nat) (b : Nat → Nat), n ≤ 160 ∧ F 33 1 = nI n ∧ F 82 7 = nI n ∧ ∀ i, i < n → F 34 i = nI (b i) ∧ F 85 i = nI (b i) ∧ b i ≤ 127
/-- what is seen -/
def RS (F : FF) : Prop := ∃ (n : Nat) (e : Nat → Nat × Nat × Nat), n ≤ 6 ∧ F 35 0 = nI n ∧ F 82 22 = nI n ∧ ∀ i, i < n → (F 36 i = nI (e i).1 ∧ F 89 (3 * i) = nI (e i).1 ∧ (e i).1 ≤ 40) ∧ (F 37 i = nI (e i).2.1 ∧ F 89 (3 * i + 1) = nI (e i).2.1 ∧ (e i).2.1 < 4) ∧ (F 38 i = nI (e i).2.2 ∧ F 89 (3 * i + 2) = nI (e i).2.2 ∧ (e i).2.2 < 6)
/-- sheets -/
def RK (F : FF) : Prop := ∀ k, k < 4 → ((F (74 + 2 * k) 0 = -1 ∧ F 92 k = -4) ∨ ∃ l n : Nat, l ≤ 2 ∧ n ≤ 40 ∧ F (74 + 2 * k) 0 = nI l ∧ F 92 k = nI l ∧ F (74 + 2 * k) 1 = nI n ∧ F 93 k = nI n) ∧ ∀ i, i < 40 → F (75 + 2 * k) i = F 94 (40 * k + i)
/-- names -/
def yEnds : List Nat := [0, 4, 8, 13, 18, 23, 27]
def yLets : List Nat := [115, 116, 97, 121, 115, 116, 101, 112, 102, 114, 111, 110, 116, 111, 102, 116, 101, 110, 98, 111, 111, 107, 115, 119, 97, 110, 116]
def RC (F : FF) : Prop := (∀ i, i < 7 → F 86 i = nI (yEnds.getD i 0)) ∧ ∀ i, i < 27 → F 87 i = nI (yLets.getD i 0)
def Inv (F : FF) : Prop := ∃ H : Hs, RH F H ∧ RIm F H.1.1 ∧ RT F ∧ RS F ∧ RK F ∧ RC F ∧ F 33 2 = F 82 8 ∧ F 0 11 = F 82 28
theorem RIm.mv {F F' : FF} {nb : Nat} (h : RIm F nb) (h32 : F' 32 = F 32) (h91 : F' 91 = F 91) (hx : ∀ c, 44 ≤ c → c < 74 → F' c = F c) (h1 : F' 82 1 = F 82 1) (h20 : F' 82 20 = F 82 20) (hy : ∀ k, 75 ≤ k → k < 225 → F' 83 k = F 83 k) : RIm F' nb := by
  intro k hk
  rw [h32, h91]
  rcases h k hk with e | ⟨e1, e2, J, j1, j2, j3, j4⟩
  · exact Or.inl e
  · exact Or.inr ⟨e1, e2, J, j1.keep j3.2.1 (fun c _ _ => hx c (by omega) (by omega)), j2.keep j3 h1 h20 (fun c _ _ => hy c (by omega) (by omega)), j3, j4⟩
theorem RT.mv {F F' : FF} (h : RT F) (h1 : F' 33 1 = F 33 1) (h2 : F' 34 = F 34) (h3 : F' 82 7 = F 82 7) (h4 : F' 85 = F 85) : RT F' := by
  obtain ⟨n, b, a1, a2, a3, a4⟩ := h
  exact ⟨n, b, a1, h1.trans a2, h3.trans a3, fun i hi => by rw [h2, h4]; exact a4 i hi⟩
theorem RS.mv {F F' : FF} (h : RS F) (h1 : F' 35 = F 35) (h2 : F' 36 = F 36) (h3 : F' 37 = F 37) (h4 : F' 38 = F 38) (h5 : F' 82 22 = F 82 22) (h6 : F' 89 = F 89) : RS F' := by
  obtain ⟨n, e, a1, a2, a3, a4⟩ := h
  exact ⟨n, e, a1, by rw [h1]; exact a2, h5.trans a3, fun i hi => by rw [h2, h3, h4, h6]; exact a4 i hi⟩
theorem RK.mv {F F' : FF} (h : RK F) (hx : ∀ c, 74 ≤ c → c < 82 → F' c = F c) (h1 : F' 92 = F 92) (h2 : F' 93 = F 93) (h3 : F' 94 = F 94) : RK F' := by
  intro k hk
  rw [hx _ (show 74 ≤ 74 + 2 * k by omega) (by omega), h1, h2, hx _ (show 74 ≤ 75 + 2 * k by omega) (by omega), h3]
  exact h k hk
theorem RC.mv {F F' : FF} (h : RC F) (h1 : F' 86 = F 86) (h2 : F' 87 = F 87) : RC F' := by
  unfold RC
  rw [h1, h2]
  exact h
theorem Inv.X {F F' : FF} (h : Inv F) (k : KX F F') : Inv F' := by
  obtain ⟨H, a1, a2, a3, a4, a5, a6, a7, a8⟩ := h
  exact ⟨H, a1.X k, a2.mv (k _ (by omega)) (k _ (by omega)) (fun c _ _ => k c (by omega)) (by rw [k 82 (by omega)]) (by rw [k 82 (by omega)]) (fun c _ _ => by rw [k 83 (by omega)]), a3.mv (by rw [k 33 (by omega)]) (k _ (by omega)) (by rw [k 82 (by omega)]) (k _ (by omega)), a4.mv (k _ (by omega)) (k _ (by omega)) (k _ (by omega)) (k _ (by omega)) (by rw [k 82 (by omega)]) (k _ (by omega)), a5.mv (fun c _ _ => k c (by omega)) (k _ (by omega)) (k _ (by omega)) (k _ (by omega)), a6.mv (k _ (by omega)) (k _ (by omega)), by rw [k 33 (by omega), k 82 (by omega)]; exact a7, by rw [k 0 (by omega), k 82 (by omega)]; exact a8⟩
theorem Inv.Y {F F' : FF} (h : Inv F) (k : KY F F') : Inv F' := by
  obtain ⟨H, a1, a2, a3, a4, a5, a6, a7, a8⟩ := h
  have k1 : ∀ c, c < 82 ∨ c = 84 ∨ c = 85 ∨ c = 86 ∨ c = 87 ∨ c = 89 ∨ 91 ≤ c → F' c = F c := fun c hc => k.1 c (by omega) (by omega) (by omega) (by omega)
  exact ⟨H, a1.Y k, a2.mv (k1 _ (by omega)) (k1 _ (by omega)) (fun c _ _ => k1 c (by omega)) (k.2.1 1 (by omega) (by omega)) (k.2.1 20 (by omega) (by omega)) (fun c _ _ => k.2.2 c (by omega)), a3.mv (by rw [k1 33 (by omega)]) (k1 _ (by omega)) (k.2.1 7 (by omega) (by omega)) (k1 _ (by omega)), a4.mv (k1 _ (by omega)) (k1 _ (by omega)) (k1 _ (by omega)) (k1 _ (by omega)) (k.2.1 22 (by omega) (by omega)) (k1 _ (by omega)), a5.mv (fun c _ _ => k1 c (by omega)) (k1 _ (by omega)) (k1 _ (by omega)) (k1 _ (by omega)), a6.mv (k1 _ (by omega)) (k1 _ (by omega)), by rw [k1 33 (by omega), k.2.1 8 (by omega) (by omega)]; exact a7, by rw [k1 0 (by omega), k.2.1 28 (by omega) (by omega)]; exact a8⟩
/-- the two answers are the same, and all that counts stays -/
def QOK {α : Type} (fx fy : FF → Option (α × FF)) (F : FF) : Prop := ∃ r F1 F2, fx F = some (r, F1) ∧ fy F1 = some (r, F2) ∧ KX F F1 ∧ KY F1 F2
/-- the two answers are the same, and what class and reference have in common stands -/
def MOK {α : Type} (fx fy : FF → Option (α × FF)) (F : FF) : Prop := ∃ r F1 F2, fx F = some (r, F1) ∧ fy F1 = some (r, F2) ∧ Inv F2
theorem QOK.M {α : Type} {fx fy : FF → Option (α × FF)} {F : FF} (h : QOK fx fy F) (hI : Inv F) : MOK fx fy F := by
  obtain ⟨r, F1, F2, e1, e2, k1, k2⟩ := h
  exact ⟨r, F1, F2, e1, e2, (hI.X k1).Y k2⟩
theorem QOK.eq {α : Type} {fx fy : FF → Option (α × FF)} {F : FF} {r : α} (h1 : fx F = some (r, F)) (h2 : fy F = some (r, F)) : QOK fx fy F := ⟨r, F, F, h1, h2, KX.rf, KY.rf⟩
/-! guards -/
theorem guard {x : Int32} (n : Nat) : (∃ j, j < n ∧ x = nI j) ∨ ¬ (0 ≤ x.toInt ∧ x.toInt < (n : Int)) := by
  by_cases h : 0 ≤ x.toInt ∧ x.toInt < (n : Int)
  · exact Or.inl (of_range h.1 h.2)
  · exact Or.inr h
theorem bI_nI {j n : Nat} (h : j < n) (hn : n ≤ 2 ^ 31) : bI (decide (0 ≤ (nI j).toInt ∧ (nI j).toInt < (n : Int))) = 1 := bI_t (by rw [nI_toInt (by omega)]; omega)
theorem n10 : ¬ (1 : Int32) = 0 := by decide
section GU
variable {F : FF} {H : Hs} {x : Int32} {N : Nat}
theorem RH.ns (h : RH F H) : H.1.2.1 ≤ 4 := h.2.2.1.2.1
theorem RH.nw (h : RH F H) : H.1.2.2.1 ≤ 16 := h.2.2.1.2.2.1
theorem RH.nb (h : RH F H) : 1 ≤ H.1.1 ∧ H.1.1 ≤ 6 := h.2.2.1.1
theorem RH.xS (h : RH F H) : pX0_hasShelf 1 x F = bI (decide (0 ≤ x.toInt ∧ x.toInt < (H.1.2.1 : Int))) := x_hasShelf h.1.1.2.1 (by have := h.ns; omega)
theorem RH.xB (h : RH F H) : pX0_hasBook 1 x F = bI (decide (0 ≤ x.toInt ∧ x.toInt < (H.1.1 : Int))) := x_hasBook h.1.1.1 (by have := h.nb; omega)
theorem RH.xW (h : RH F H) : pX0_hasWant 1 x F = bI (decide (0 ≤ x.toInt ∧ x.toInt < (H.1.2.2.1 : Int))) := x_hasWant h.1.1.2.2.1 (by have := h.nw; omega)
theorem RH.yS (h : RH F H) : fX7_isShelf N x F = some (bI (decide (0 ≤ x.toInt ∧ x.toInt < (H.1.2.1 : Int))), F) := y_isShelf h.2.1.1.2.1 h.ns
theorem RH.yB (h : RH F H) : fX7_isBook N x F = some (bI (decide (0 ≤ x.toInt ∧ x.toInt < (H.1.1 : Int))), F) := y_isBook h.2.1.1.1 h.nb.2
theorem RH.yW (h : RH F H) : fX7_isWant N x F = some (bI (decide (0 ≤ x.toInt ∧ x.toInt < (H.1.2.2.1 : Int))), F) := y_isWant h.2.1.1.2.2.1 h.nw
theorem xR {hi : Nat} (hh : hi < 2 ^ 31) : pX6_within x 0 (nI hi) F = bI (decide (0 ≤ x.toInt ∧ x.toInt < ((hi + 1 : Nat) : Int))) := by
  rw [x_in, nI_toInt hh]
  congr 1
  show decide ((0 : Int) ≤ _ ∧ _) = _
  congr 1
  simp only [eq_iff_iff]
  omega
theorem yR {hi : Nat} (hh : hi < 2 ^ 31) : pX7_in x.toInt64 0 (lN hi) F = bI (decide (0 ≤ x.toInt ∧ x.toInt < ((hi + 1 : Nat) : Int))) := by
  rw [y_in, i64, lN_toInt hh]
  congr 1
  show decide ((0 : Int) ≤ _ ∧ _) = _
  congr 1
  simp only [eq_iff_iff]
  omega
end GU
