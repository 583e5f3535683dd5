/-! MORE RULES: branches, fixed cells, pure calls, switches, the script, Strings -/
def nm {α β : Type} (x : α) (k : α → Option β) : Option β := k x
def okc {β : Type} (ci a : Nat) (k : Option β) : Option β := if okC ci a = true then k else none
def sld {β : Type} (L : Nat) (xs : Nat → Int32) (i : Int32) (k : Int32 → Option β) : Option β := if 0 ≤ i.toInt ∧ i.toInt < (L : Int) then k (xs (ix i)) else none
def sLen {β : Type} (s : UInt32) (k : Int32 → Option β) : Option β := if s.toNat < 6 then k (nI (ma_len.getD s.toNat 0)) else none
def sAt {β : Type} (s : UInt32) (i : Int32) (k : Int32 → Option β) : Option β := if s.toNat < 6 ∧ 0 ≤ i.toInt ∧ i.toInt < ((ma_len.getD s.toNat 0 : Nat) : Int) then k ((ma_byt.getD s.toNat []).getD (ix i) 0) else none
theorem ac_X4 : Cond.methodLink RX4 29 arraycopyName ∈ ma_tbl := ma_mem 430 (by decide +kernel) rfl
theorem ac_X0 : Cond.methodLink RX0 42 arraycopyName ∈ ma_tbl := ma_mem 433 (by decide +kernel) rfl
theorem ac_X6 : Cond.methodLink RX6 208 arraycopyName ∈ ma_tbl := ma_mem 621 (by decide +kernel) rfl
def shapeI (ci k : Nat) : Bool := (ci == 0 && decide (k < 4)) || (ci == 4 && decide (k < 2)) || (ci == 3 && decide (k < 2))
theorem okF_C0 : ∀ a, a < 95 → ∀ ci, ci < 5 → ∀ k, k < 4 → okC ci a = true → shapeI ci k = true → okF ci k a = true := by decide +kernel
theorem okF_C {ci k a : Nat} (h : okC ci a = true) (hk : shapeI ci k = true) : okF ci k a = true := by
  obtain ⟨fs, hl⟩ := okC_spec h
  have ha : a < 95 := (List.getElem?_eq_some_iff.mp hl).1
  have h2 : ci < 5 ∧ k < 4 := by
    unfold shapeI at hk
    simp only [Bool.or_eq_true, Bool.and_eq_true, beq_iff_eq, decide_eq_true_eq] at hk
    omega
  exact okF_C0 a ha ci h2.1 k h2.2 h hk
theorem tb_ne {x z : Int32} (h : ¬ x = z) : x.toInt ≠ z.toInt := fun e => h (Int32.toInt_inj.mp e)
section AR2
variable {B : ByteArray} {nL : Nat} {o : String} {it : Bool} {d : Nat} {ret : Option FieldType} {X : Option (Nat × (Nat → Int32))} {zm wm pc q : Nat} {ls st : List Value} {F : FF} {Q : Option Value → Mem → Prop} {β : Type} {res : β}
theorem A_nm {α : Type} (x : α) {k : α → Option β} {P : Prop} (h : nm x k = some res) (hk : k x = some res → P) : P := hk h
theorem A_okc {ci a : Nat} {k : Option β} {P : Prop} (h : okc ci a k = some res) (hk : okC ci a = true → k = some res → P) : P := by
  unfold okc at h
  split at h
  · rename_i hok; exact hk hok h
  · cases h
theorem A_pn {idx ci k a : Nat} {fs : List (Option Nat)} {x : Int32} {c : FF → Option β} (hd : decode B pc = .ok (.putfield idx, 3)) (hf : FL o idx ci k) (hn : (Tn ci k).2.2.2 = false) (hty : tyn ci k = .int ∨ (tyn ci k = .boolean ∧ (x = 0 ∨ x = 1))) (hl : lay a = some (.inl (ci, fs))) (hk : fs[k]? = some none) (hq : pc + 3 = q) (h : nm (fput F a k x) c = some res) (hh : ∀ F', c F' = some res → V B nL o it d ret X zm wm q ls st (mem F') Q) : V B nL o it d ret X zm wm pc ls (.int x :: .ref a :: st) (mem F) Q :=
  F_putI hd hf hn hty hl hk hq (hh _ h)
theorem A_sn0 {a n j : Nat} {i x : Int32} {c : FF → Option β} (hd : decode B pc = .ok (.iastore, 1)) (hl : lay a = some (.inr (.inl (0, n)))) (hi : i = nI j) (hj : j < n) (hn : n < 2 ^ 31) (hq : pc + 1 = q) (h : nm (fput F a j x) c = some res) (hh : ∀ F', c F' = some res → V B nL o it d ret X zm wm q ls st (mem F') Q) : V B nL o it d ret X zm wm pc ls (.int x :: .int i :: .ref a :: st) (mem F) Q :=
  F_iast hd hl hi hj hn hq (hh _ h)
theorem A_sn2 {a n j : Nat} {i x : Int32} {c : FF → Option β} (hd : decode B pc = .ok (.bastore, 1)) (hl : lay a = some (.inr (.inl (2, n)))) (hx : x = 0 ∨ x = 1) (hi : i = nI j) (hj : j < n) (hn : n < 2 ^ 31) (hq : pc + 1 = q) (h : nm (fput F a j x) c = some res) (hh : ∀ F', c F' = some res → V B nL o it d ret X zm wm q ls st (mem F') Q) : V B nL o it d ret X zm wm pc ls (.int x :: .int i :: .ref a :: st) (mem F) Q :=
  F_zast hd hl hx hi hj hn hq (hh _ h)
theorem P_callS {idx n : Nat} {y : MT} {As st0 : List Value} {v : Int32} (hd : decode B pc = .ok (.invokestatic idx, 3)) (hf : CS o idx y n) (hM : CP d y As F (fun r' F'' => r' = eI v ∧ F'' = F)) (hn : As.length = n) (hs : st0 = As.reverse ++ st) (hst : (st.map fun v => v.category).sum ≤ 8) (hq : pc + 3 = q) (h : V B nL o it (d + 1) ret X 95 2845 q ls (.int v :: st) (mem F) Q) : V B nL o it (d + 1) ret X 95 2845 pc ls st0 (mem F) Q := by
  refine F_callS hd hf hM hn hs hst hq ?_
  rintro r F' ⟨rfl, rfl⟩
  exact h
theorem P_callV {idx n ci a : Nat} {y : MT} {As st0 : List Value} {v : Int32} (hd : decode B pc = .ok (.invokevirtual idx, 3)) (hf : CV o idx y n) (hci : ci < 8) (hcl : Rn ci = y.1.cls) (hok : okC ci a = true) (hM : CP d y (.ref a :: As) F (fun r' F'' => r' = eI v ∧ F'' = F)) (hn : As.length = n) (hs : st0 = As.reverse ++ .ref a :: st) (hst : (st.map fun v => v.category).sum ≤ 8) (hq : pc + 3 = q) (h : V B nL o it (d + 1) ret X 95 2845 q ls (.int v :: st) (mem F) Q) : V B nL o it (d + 1) ret X 95 2845 pc ls st0 (mem F) Q := by
  obtain ⟨fs, hc⟩ := okC_spec hok
  refine F_callV hd hf hc hci hcl hM hn hs hst hq ?_
  rintro r F' ⟨rfl, rfl⟩
  exact h
theorem A_sld {L : Nat} {xs : Nat → Int32} {i : Int32} {k : Int32 → Option β} (hX : X = some (L, xs)) (hL : L < 2 ^ 31) (hd : decode B pc = .ok (.iaload, 1)) (hq : pc + 1 = q) (h : sld L xs i k = some res) (hk : ∀ v, k v = some res → V B nL o it d ret X zm wm q ls (.int v :: st) (mem F) Q) : V B nL o it d ret X zm wm pc ls (.int i :: .float 1000 :: st) (mem F) Q := by
  unfold sld at h
  split at h
  · rename_i hc
    have e : (ix i : Int) = i.toInt := by
      show ((i.toInt.toNat : Nat) : Int) = _
      omega
    exact V_sld (j := ix i) hX hd (Int32.toInt_inj.mp (by rw [nI_toInt (by omega)]; exact e.symm)) (by omega) hL hq (hk _ h)
  · cases h
theorem A_if_eq {x : Int32} {off : Int} {tgt : Nat} {A E : Option β} (hd : decode B pc = .ok (.ifCond .eq off, 3)) (ht : (pc : Int) + off = (tgt : Int)) (hq : pc + 3 = q) (h : (if x = 0 then A else E) = some res) (h1 : A = some res → V B nL o it d ret X zm wm tgt ls st (mem F) Q) (h2 : E = some res → V B nL o it d ret X zm wm q ls st (mem F) Q) : V B nL o it d ret X zm wm pc ls (.int x :: st) (mem F) Q :=
  V_if_eq hd ht hq (fun z => h1 (by rw [if_pos z] at h; exact h)) (fun z => h2 (by rw [if_neg z] at h; exact h))
theorem A_icmp_eq {x y : Int32} {off : Int} {tgt : Nat} {A E : Option β} (hd : decode B pc = .ok (.if_icmp .eq off, 3)) (ht : (pc : Int) + off = (tgt : Int)) (hq : pc + 3 = q) (h : (if x = y then A else E) = some res) (h1 : A = some res → V B nL o it d ret X zm wm tgt ls st (mem F) Q) (h2 : E = some res → V B nL o it d ret X zm wm q ls st (mem F) Q) : V B nL o it d ret X zm wm pc ls (.int y :: .int x :: st) (mem F) Q :=
  V_icmp_eq hd ht hq (fun z => h1 (by rw [if_pos z] at h; exact h)) (fun z => h2 (by rw [if_neg z] at h; exact h))
theorem A_if_ne {x : Int32} {off : Int} {tgt : Nat} {A E : Option β} (hd : decode B pc = .ok (.ifCond .ne off, 3)) (ht : (pc : Int) + off = (tgt : Int)) (hq : pc + 3 = q) (h : (if ¬ x = 0 then A else E) = some res) (h1 : A = some res → V B nL o it d ret X zm wm tgt ls st (mem F) Q) (h2 : E = some res → V B nL o it d ret X zm wm q ls st (mem F) Q) : V B nL o it d ret X zm wm pc ls (.int x :: st) (mem F) Q :=
  V_if_ne hd ht hq (fun z => h1 (by rw [if_pos z] at h; exact h)) (fun z => h2 (by rw [if_neg (fun z2 => z2 z)] at h; exact h))
theorem A_icmp_ne {x y : Int32} {off : Int} {tgt : Nat} {A E : Option β} (hd : decode B pc = .ok (.if_icmp .ne off, 3)) (ht : (pc : Int) + off = (tgt : Int)) (hq : pc + 3 = q) (h : (if ¬ x = y then A else E) = some res) (h1 : A = some res → V B nL o it d ret X zm wm tgt ls st (mem F) Q) (h2 : E = some res → V B nL o it d ret X zm wm q ls st (mem F) Q) : V B nL o it d ret X zm wm pc ls (.int y :: .int x :: st) (mem F) Q :=
  V_icmp_ne hd ht hq (fun z => h1 (by rw [if_pos z] at h; exact h)) (fun z => h2 (by rw [if_neg (fun z2 => z2 z)] at h; exact h))
theorem A_if_lt {x : Int32} {off : Int} {tgt : Nat} {A E : Option β} (hd : decode B pc = .ok (.ifCond .lt off, 3)) (ht : (pc : Int) + off = (tgt : Int)) (hq : pc + 3 = q) (h : (if x < 0 then A else E) = some res) (h1 : A = some res → V B nL o it d ret X zm wm tgt ls st (mem F) Q) (h2 : E = some res → V B nL o it d ret X zm wm q ls st (mem F) Q) : V B nL o it d ret X zm wm pc ls (.int x :: st) (mem F) Q :=
  V_if_lt hd ht hq (fun z => h1 (by rw [if_pos z] at h; exact h)) (fun z => h2 (by rw [if_neg z] at h; exact h))
theorem A_icmp_lt {x y : Int32} {off : Int} {tgt : Nat} {A E : Option β} (hd : decode B pc = .ok (.if_icmp .lt off, 3)) (ht : (pc : Int) + off = (tgt : Int)) (hq : pc + 3 = q) (h : (if x < y then A else E) = some res) (h1 : A = some res → V B nL o it d ret X zm wm tgt ls st (mem F) Q) (h2 : E = some res → V B nL o it d ret X zm wm q ls st (mem F) Q) : V B nL o it d ret X zm wm pc ls (.int y :: .int x :: st) (mem F) Q :=
  V_icmp_lt hd ht hq (fun z => h1 (by rw [if_pos z] at h; exact h)) (fun z => h2 (by rw [if_neg z] at h; exact h))
theorem A_if_ge {x : Int32} {off : Int} {tgt : Nat} {A E : Option β} (hd : decode B pc = .ok (.ifCond .ge off, 3)) (ht : (pc : Int) + off = (tgt : Int)) (hq : pc + 3 = q) (h : (if 0 ≤ x then A else E) = some res) (h1 : A = some res → V B nL o it d ret X zm wm tgt ls st (mem F) Q) (h2 : E = some res → V B nL o it d ret X zm wm q ls st (mem F) Q) : V B nL o it d ret X zm wm pc ls (.int x :: st) (mem F) Q :=
  V_if_ge hd ht hq (fun z => h1 (by rw [if_pos z] at h; exact h)) (fun z => h2 (by rw [if_neg z] at h; exact h))
theorem A_icmp_ge {x y : Int32} {off : Int} {tgt : Nat} {A E : Option β} (hd : decode B pc = .ok (.if_icmp .ge off, 3)) (ht : (pc : Int) + off = (tgt : Int)) (hq : pc + 3 = q) (h : (if y ≤ x then A else E) = some res) (h1 : A = some res → V B nL o it d ret X zm wm tgt ls st (mem F) Q) (h2 : E = some res → V B nL o it d ret X zm wm q ls st (mem F) Q) : V B nL o it d ret X zm wm pc ls (.int y :: .int x :: st) (mem F) Q :=
  V_icmp_ge hd ht hq (fun z => h1 (by rw [if_pos z] at h; exact h)) (fun z => h2 (by rw [if_neg z] at h; exact h))
theorem A_if_gt {x : Int32} {off : Int} {tgt : Nat} {A E : Option β} (hd : decode B pc = .ok (.ifCond .gt off, 3)) (ht : (pc : Int) + off = (tgt : Int)) (hq : pc + 3 = q) (h : (if 0 < x then A else E) = some res) (h1 : A = some res → V B nL o it d ret X zm wm tgt ls st (mem F) Q) (h2 : E = some res → V B nL o it d ret X zm wm q ls st (mem F) Q) : V B nL o it d ret X zm wm pc ls (.int x :: st) (mem F) Q :=
  V_if_gt hd ht hq (fun z => h1 (by rw [if_pos z] at h; exact h)) (fun z => h2 (by rw [if_neg z] at h; exact h))
theorem A_icmp_gt {x y : Int32} {off : Int} {tgt : Nat} {A E : Option β} (hd : decode B pc = .ok (.if_icmp .gt off, 3)) (ht : (pc : Int) + off = (tgt : Int)) (hq : pc + 3 = q) (h : (if y < x then A else E) = some res) (h1 : A = some res → V B nL o it d ret X zm wm tgt ls st (mem F) Q) (h2 : E = some res → V B nL o it d ret X zm wm q ls st (mem F) Q) : V B nL o it d ret X zm wm pc ls (.int y :: .int x :: st) (mem F) Q :=
  V_icmp_gt hd ht hq (fun z => h1 (by rw [if_pos z] at h; exact h)) (fun z => h2 (by rw [if_neg z] at h; exact h))
theorem A_if_le {x : Int32} {off : Int} {tgt : Nat} {A E : Option β} (hd : decode B pc = .ok (.ifCond .le off, 3)) (ht : (pc : Int) + off = (tgt : Int)) (hq : pc + 3 = q) (h : (if x ≤ 0 then A else E) = some res) (h1 : A = some res → V B nL o it d ret X zm wm tgt ls st (mem F) Q) (h2 : E = some res → V B nL o it d ret X zm wm q ls st (mem F) Q) : V B nL o it d ret X zm wm pc ls (.int x :: st) (mem F) Q :=
  V_if_le hd ht hq (fun z => h1 (by rw [if_pos z] at h; exact h)) (fun z => h2 (by rw [if_neg z] at h; exact h))
theorem A_icmp_le {x y : Int32} {off : Int} {tgt : Nat} {A E : Option β} (hd : decode B pc = .ok (.if_icmp .le off, 3)) (ht : (pc : Int) + off = (tgt : Int)) (hq : pc + 3 = q) (h : (if x ≤ y then A else E) = some res) (h1 : A = some res → V B nL o it d ret X zm wm tgt ls st (mem F) Q) (h2 : E = some res → V B nL o it d ret X zm wm q ls st (mem F) Q) : V B nL o it d ret X zm wm pc ls (.int y :: .int x :: st) (mem F) Q :=
  V_icmp_le hd ht hq (fun z => h1 (by rw [if_pos z] at h; exact h)) (fun z => h2 (by rw [if_neg z] at h; exact h))
end AR2
theorem tb_out4 {x : Int32} (c0 : ¬ x = 0) (c1 : ¬ x = 1) (c2 : ¬ x = 2) (c3 : ¬ x = 3) : x.toInt < 0 ∨ (3 : Int) < x.toInt := by
  have h0 : x.toInt ≠ 0 := tb_ne c0
  have h1 : x.toInt ≠ 1 := tb_ne c1
  have h2 : x.toInt ≠ 2 := tb_ne c2
  have h3 : x.toInt ≠ 3 := tb_ne c3
  omega
theorem tb_out6 {x : Int32} (c0 : ¬ x = 0) (c1 : ¬ x = 1) (c2 : ¬ x = 2) (c3 : ¬ x = 3) (c4 : ¬ x = 4) (c5 : ¬ x = 5) : x.toInt < 0 ∨ (5 : Int) < x.toInt := by
  have h0 : x.toInt ≠ 0 := tb_ne c0
  have h1 : x.toInt ≠ 1 := tb_ne c1
  have h2 : x.toInt ≠ 2 := tb_ne c2
  have h3 : x.toInt ≠ 3 := tb_ne c3
  have h4 : x.toInt ≠ 4 := tb_ne c4
  have h5 : x.toInt ≠ 5 := tb_ne c5
  omega
theorem tb_out42 {x : Int32} (c0 : ¬ x = 0) (c1 : ¬ x = 1) (c2 : ¬ x = 2) (c3 : ¬ x = 3) (c4 : ¬ x = 4) (c5 : ¬ x = 5) (c6 : ¬ x = 6) (c7 : ¬ x = 7) (c8 : ¬ x = 8) (c9 : ¬ x = 9) (c10 : ¬ x = 10) (c11 : ¬ x = 11) (c12 : ¬ x = 12) (c13 : ¬ x = 13) (c14 : ¬ x = 14) (c15 : ¬ x = 15) (c16 : ¬ x = 16) (c17 : ¬ x = 17) (c18 : ¬ x = 18) (c19 : ¬ x = 19) (c20 : ¬ x = 20) (c21 : ¬ x = 21) (c22 : ¬ x = 22) (c23 : ¬ x = 23) (c24 : ¬ x = 24) (c25 : ¬ x = 25) (c26 : ¬ x = 26) (c27 : ¬ x = 27) (c28 : ¬ x = 28) (c29 : ¬ x = 29) (c30 : ¬ x = 30) (c31 : ¬ x = 31) (c32 : ¬ x = 32) (c33 : ¬ x = 33) (c34 : ¬ x = 34) (c35 : ¬ x = 35) (c36 : ¬ x = 36) (c37 : ¬ x = 37) (c38 : ¬ x = 38) (c39 : ¬ x = 39) (c40 : ¬ x = 40) (c41 : ¬ x = 41) : x.toInt < 0 ∨ (41 : Int) < x.toInt := by
  have h0 : x.toInt ≠ 0 := tb_ne c0
  have h1 : x.toInt ≠ 1 := tb_ne c1
  have h2 : x.toInt ≠ 2 := tb_ne c2
  have h3 : x.toInt ≠ 3 := tb_ne c3
  have h4 : x.toInt ≠ 4 := tb_ne c4
  have h5 : x.toInt ≠ 5 := tb_ne c5
  have h6 : x.toInt ≠ 6 := tb_ne c6
  have h7 : x.toInt ≠ 7 := tb_ne c7
  have h8 : x.toInt ≠ 8 := tb_ne c8
  have h9 : x.toInt ≠ 9 := tb_ne c9
  have h10 : x.toInt ≠ 10 := tb_ne c10
  have h11 : x.toInt ≠ 11 := tb_ne c11
  have h12 : x.toInt ≠ 12 := tb_ne c12
  have h13 : x.toInt ≠ 13 := tb_ne c13
  have h14 : x.toInt ≠ 14 := tb_ne c14
  have h15 : x.toInt ≠ 15 := tb_ne c15
  have h16 : x.toInt ≠ 16 := tb_ne c16
  have h17 : x.toInt ≠ 17 := tb_ne c17
  have h18 : x.toInt ≠ 18 := tb_ne c18
  have h19 : x.toInt ≠ 19 := tb_ne c19
  have h20 : x.toInt ≠ 20 := tb_ne c20
  have h21 : x.toInt ≠ 21 := tb_ne c21
  have h22 : x.toInt ≠ 22 := tb_ne c22
  have h23 : x.toInt ≠ 23 := tb_ne c23
  have h24 : x.toInt ≠ 24 := tb_ne c24
  have h25 : x.toInt ≠ 25 := tb_ne c25
  have h26 : x.toInt ≠ 26 := tb_ne c26
  have h27 : x.toInt ≠ 27 := tb_ne c27
  have h28 : x.toInt ≠ 28 := tb_ne c28
  have h29 : x.toInt ≠ 29 := tb_ne c29
  have h30 : x.toInt ≠ 30 := tb_ne c30
  have h31 : x.toInt ≠ 31 := tb_ne c31
  have h32 : x.toInt ≠ 32 := tb_ne c32
  have h33 : x.toInt ≠ 33 := tb_ne c33
  have h34 : x.toInt ≠ 34 := tb_ne c34
  have h35 : x.toInt ≠ 35 := tb_ne c35
  have h36 : x.toInt ≠ 36 := tb_ne c36
  have h37 : x.toInt ≠ 37 := tb_ne c37
  have h38 : x.toInt ≠ 38 := tb_ne c38
  have h39 : x.toInt ≠ 39 := tb_ne c39
  have h40 : x.toInt ≠ 40 := tb_ne c40
  have h41 : x.toInt ≠ 41 := tb_ne c41
  omega
/-! constants, the layout by rows -/
theorem cb_m20 : (Int8.ofInt (-20)).toInt32 = (-20) := by decide
theorem cb_m14 : (Int8.ofInt (-14)).toInt32 = (-14) := by decide
theorem cb_m12 : (Int8.ofInt (-12)).toInt32 = (-12) := by decide
theorem cb_m11 : (Int8.ofInt (-11)).toInt32 = (-11) := by decide
theorem cb_m10 : (Int8.ofInt (-10)).toInt32 = (-10) := by decide
theorem cb_m4 : (Int8.ofInt (-4)).toInt32 = (-4) := by decide
theorem cb_m3 : (Int8.ofInt (-3)).toInt32 = (-3) := by decide
theorem cb_m2 : (Int8.ofInt (-2)).toInt32 = (-2) := by decide
theorem cb_6 : (Int8.ofInt 6).toInt32 = 6 := by decide
theorem cb_8 : (Int8.ofInt 8).toInt32 = 8 := by decide
theorem cb_9 : (Int8.ofInt 9).toInt32 = 9 := by decide
theorem cb_10 : (Int8.ofInt 10).toInt32 = 10 := by decide
theorem cb_15 : (Int8.ofInt 15).toInt32 = 15 := by decide
theorem cb_16 : (Int8.ofInt 16).toInt32 = 16 := by decide
theorem cb_20 : (Int8.ofInt 20).toInt32 = 20 := by decide
theorem cb_24 : (Int8.ofInt 24).toInt32 = 24 := by decide
theorem cb_25 : (Int8.ofInt 25).toInt32 = 25 := by decide
theorem cb_26 : (Int8.ofInt 26).toInt32 = 26 := by decide
theorem cb_27 : (Int8.ofInt 27).toInt32 = 27 := by decide
theorem cb_32 : (Int8.ofInt 32).toInt32 = 32 := by decide
theorem cb_40 : (Int8.ofInt 40).toInt32 = 40 := by decide
theorem cb_48 : (Int8.ofInt 48).toInt32 = 48 := by decide
theorem cb_51 : (Int8.ofInt 51).toInt32 = 51 := by decide
theorem cb_57 : (Int8.ofInt 57).toInt32 = 57 := by decide
theorem cb_59 : (Int8.ofInt 59).toInt32 = 59 := by decide
theorem cb_63 : (Int8.ofInt 63).toInt32 = 63 := by decide
theorem cb_75 : (Int8.ofInt 75).toInt32 = 75 := by decide
theorem cb_97 : (Int8.ofInt 97).toInt32 = 97 := by decide
theorem cb_99 : (Int8.ofInt 99).toInt32 = 99 := by decide
theorem cb_100 : (Int8.ofInt 100).toInt32 = 100 := by decide
theorem cb_122 : (Int8.ofInt 122).toInt32 = 122 := by decide
theorem cb_127 : (Int8.ofInt 127).toInt32 = 127 := by decide
theorem ci_m1 : Int32.ofInt (-1) = (-1) := by decide
theorem ci_0 : Int32.ofInt 0 = 0 := by decide
theorem ci_1 : Int32.ofInt 1 = 1 := by decide
theorem ci_2 : Int32.ofInt 2 = 2 := by decide
theorem ci_3 : Int32.ofInt 3 = 3 := by decide
theorem ci_4 : Int32.ofInt 4 = 4 := by decide
theorem ci_5 : Int32.ofInt 5 = 5 := by decide
theorem ci_6 : Int32.ofInt 6 = 6 := by decide
theorem cl_0 : Int64.ofNat ((0 : Fin 2) : Nat) = 0 := by decide
theorem cl_1 : Int64.ofNat ((1 : Fin 2) : Nat) = 1 := by decide
theorem cs_160 : (Int16.ofInt 160).toInt32 = 160 := by decide
theorem cs_164 : (Int16.ofInt 164).toInt32 = 164 := by decide
theorem cs_200 : (Int16.ofInt 200).toInt32 = 200 := by decide
theorem cs_225 : (Int16.ofInt 225).toInt32 = 225 := by decide
theorem cs_300 : (Int16.ofInt 300).toInt32 = 300 := by decide
theorem cs_327 : (Int16.ofInt 327).toInt32 = 327 := by decide
theorem cs_375 : (Int16.ofInt 375).toInt32 = 375 := by decide
theorem cs_384 : (Int16.ofInt 384).toInt32 = 384 := by decide
theorem cs_402 : (Int16.ofInt 402).toInt32 = 402 := by decide
theorem cs_720 : (Int16.ofInt 720).toInt32 = 720 := by decide
theorem cs_9999 : (Int16.ofInt 9999).toInt32 = 9999 := by decide
theorem cs_10000 : (Int16.ofInt 10000).toInt32 = 10000 := by decide
theorem cs_12345 : (Int16.ofInt 12345).toInt32 = 12345 := by decide
theorem cs_32767 : (Int16.ofInt 32767).toInt32 = 32767 := by decide
theorem ly_0 : lay 0 = some (layL[0]) := rfl
theorem ly_1 : lay 1 = some (layL[1]) := rfl
theorem ly_2 : lay 2 = some (layL[2]) := rfl
theorem ly_3 : lay 3 = some (layL[3]) := rfl
theorem ly_4 : lay 4 = some (layL[4]) := rfl
theorem ly_5 : lay 5 = some (layL[5]) := rfl
theorem ly_6 : lay 6 = some (layL[6]) := rfl
theorem ly_7 : lay 7 = some (layL[7]) := rfl
theorem ly_8 : lay 8 = some (layL[8]) := rfl
theorem ly_9 : lay 9 = some (layL[9]) := rfl
theorem ly_10 : lay 10 = some (layL[10]) := rfl
theorem ly_11 : lay 11 = some (layL[11]) := rfl
theorem ly_12 : lay 12 = some (layL[12]) := rfl
theorem ly_13 : lay 13 = some (layL[13]) := rfl
theorem ly_14 : lay 14 = some (layL[14]) := rfl
theorem ly_15 : lay 15 = some (layL[15]) := rfl
theorem ly_16 : lay 16 = some (layL[16]) := rfl
theorem ly_17 : lay 17 = some (layL[17]) := rfl
theorem ly_18 : lay 18 = some (layL[18]) := rfl
theorem ly_19 : lay 19 = some (layL[19]) := rfl
theorem ly_20 : lay 20 = some (layL[20]) := rfl
theorem ly_21 : lay 21 = some (layL[21]) := rfl
theorem ly_22 : lay 22 = some (layL[22]) := rfl
theorem ly_23 : lay 23 = some (layL[23]) := rfl
theorem ly_24 : lay 24 = some (layL[24]) := rfl
theorem ly_25 : lay 25 = some (layL[25]) := rfl
theorem ly_26 : lay 26 = some (layL[26]) := rfl
theorem ly_27 : lay 27 = some (layL[27]) := rfl
theorem ly_28 : lay 28 = some (layL[28]) := rfl
theorem ly_29 : lay 29 = some (layL[29]) := rfl
theorem ly_30 : lay 30 = some (layL[30]) := rfl
theorem ly_31 : lay 31 = some (layL[31]) := rfl
theorem ly_32 : lay 32 = some (layL[32]) := rfl
theorem ly_33 : lay 33 = some (layL[33]) := rfl
theorem ly_34 : lay 34 = some (layL[34]) := rfl
theorem ly_35 : lay 35 = some (layL[35]) := rfl
theorem ly_36 : lay 36 = some (layL[36]) := rfl
theorem ly_37 : lay 37 = some (layL[37]) := rfl
theorem ly_38 : lay 38 = some (layL[38]) := rfl
theorem ly_39 : lay 39 = some (layL[39]) := rfl
theorem ly_40 : lay 40 = some (layL[40]) := rfl
theorem ly_41 : lay 41 = some (layL[41]) := rfl
theorem ly_42 : lay 42 = some (layL[42]) := rfl
theorem ly_43 : lay 43 = some (layL[43]) := rfl
theorem ly_44 : lay 44 = some (layL[44]) := rfl
theorem ly_45 : lay 45 = some (layL[45]) := rfl
theorem ly_46 : lay 46 = some (layL[46]) := rfl
theorem ly_47 : lay 47 = some (layL[47]) := rfl
theorem ly_48 : lay 48 = some (layL[48]) := rfl
theorem ly_49 : lay 49 = some (layL[49]) := rfl
theorem ly_50 : lay 50 = some (layL[50]) := rfl
theorem ly_51 : lay 51 = some (layL[51]) := rfl
theorem ly_52 : lay 52 = some (layL[52]) := rfl
theorem ly_53 : lay 53 = some (layL[53]) := rfl
theorem ly_54 : lay 54 = some (layL[54]) := rfl
theorem ly_55 : lay 55 = some (layL[55]) := rfl
theorem ly_56 : lay 56 = some (layL[56]) := rfl
theorem ly_57 : lay 57 = some (layL[57]) := rfl
theorem ly_58 : lay 58 = some (layL[58]) := rfl
theorem ly_59 : lay 59 = some (layL[59]) := rfl
theorem ly_60 : lay 60 = some (layL[60]) := rfl
theorem ly_61 : lay 61 = some (layL[61]) := rfl
theorem ly_62 : lay 62 = some (layL[62]) := rfl
theorem ly_63 : lay 63 = some (layL[63]) := rfl
theorem ly_64 : lay 64 = some (layL[64]) := rfl
theorem ly_65 : lay 65 = some (layL[65]) := rfl
theorem ly_66 : lay 66 = some (layL[66]) := rfl
theorem ly_67 : lay 67 = some (layL[67]) := rfl
theorem ly_68 : lay 68 = some (layL[68]) := rfl
theorem ly_69 : lay 69 = some (layL[69]) := rfl
theorem ly_70 : lay 70 = some (layL[70]) := rfl
theorem ly_71 : lay 71 = some (layL[71]) := rfl
theorem ly_72 : lay 72 = some (layL[72]) := rfl
theorem ly_73 : lay 73 = some (layL[73]) := rfl
theorem ly_74 : lay 74 = some (layL[74]) := rfl
theorem ly_75 : lay 75 = some (layL[75]) := rfl
theorem ly_76 : lay 76 = some (layL[76]) := rfl
theorem ly_77 : lay 77 = some (layL[77]) := rfl
theorem ly_78 : lay 78 = some (layL[78]) := rfl
theorem ly_79 : lay 79 = some (layL[79]) := rfl
theorem ly_80 : lay 80 = some (layL[80]) := rfl
theorem ly_81 : lay 81 = some (layL[81]) := rfl
theorem ly_82 : lay 82 = some (layL[82]) := rfl
theorem ly_83 : lay 83 = some (layL[83]) := rfl
theorem ly_84 : lay 84 = some (layL[84]) := rfl
theorem ly_85 : lay 85 = some (layL[85]) := rfl
theorem ly_86 : lay 86 = some (layL[86]) := rfl
theorem ly_87 : lay 87 = some (layL[87]) := rfl
theorem ly_88 : lay 88 = some (layL[88]) := rfl
theorem ly_89 : lay 89 = some (layL[89]) := rfl
theorem ly_90 : lay 90 = some (layL[90]) := rfl
theorem ly_91 : lay 91 = some (layL[91]) := rfl
theorem ly_92 : lay 92 = some (layL[92]) := rfl
theorem ly_93 : lay 93 = some (layL[93]) := rfl
theorem ly_94 : lay 94 = some (layL[94]) := rfl
