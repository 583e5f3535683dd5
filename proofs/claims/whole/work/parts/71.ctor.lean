/-! CONSTRUCTORS: of shelves and houses -/
theorem oi_X6 : Cond.methodLink RX6 1 Lib.objectInit ∈ ma_tbl := ma_mem 76 (by decide +kernel) rfl
theorem oi_X0 : Cond.methodLink RX0 3 Lib.objectInit ∈ ma_tbl := ma_mem 84 (by decide +kernel) rfl
theorem oi_X4 : Cond.methodLink RX4 3 Lib.objectInit ∈ ma_tbl := ma_mem 91 (by decide +kernel) rfl
theorem oi_X5 : Cond.methodLink RX5 3 Lib.objectInit ∈ ma_tbl := ma_mem 154 (by decide +kernel) rfl
theorem oi_X2 : Cond.methodLink RX2 3 Lib.objectInit ∈ ma_tbl := ma_mem 194 (by decide +kernel) rfl
theorem oi_X1 : Cond.methodLink RX1 3 Lib.objectInit ∈ ma_tbl := ma_mem 216 (by decide +kernel) rfl
theorem oi_X3 : Cond.methodLink RX3 3 Lib.objectInit ∈ ma_tbl := ma_mem 230 (by decide +kernel) rfl
theorem oi_X7 : Cond.methodLink RX7 1 Lib.objectInit ∈ ma_tbl := ma_mem 806 (by decide +kernel) rfl
theorem nw_lt {M : Mem} {n c : Nat} {x : AC} (h : c < M.1.1) : (ma_new M n x).2 c = M.2 c := by
  show (if c = M.1.1 then _ else _) = _
  rw [if_neg (by omega)]
theorem nw_at {M : Mem} {n : Nat} {x : AC} : (ma_new M n x).2 M.1.1 = some x := by
  show (if M.1.1 = M.1.1 then _ else _) = _
  rw [if_pos rfl]
theorem pu_ne {M : Mem} {c a : Nat} {x : AC} (h : c ≠ a) : (ma_put M a x).2 c = M.2 c := by
  show (if c = a then _ else _) = _
  rw [if_neg h]
theorem pu_at {M : Mem} {a : Nat} {x : AC} : (ma_put M a x).2 a = some x := by
  show (if a = a then _ else _) = _
  rw [if_pos rfl]
theorem mem_ext {M M' : Mem} (h1 : M.1 = M'.1) (h2 : ∀ c, M.2 c = M'.2 c) : M = M' := by
  obtain ⟨a, b⟩ := M
  obtain ⟨a', b'⟩ := M'
  have h1 : a = a' := h1
  subst h1
  have h2 : b = b' := funext h2
  subst h2
  rfl
/-- the rows of a new shelf, so far -/
def fRo : Nat → Nat → Int32
  | 0 => fun _ => 0
  | j + 1 => upd (fRo j) j (nI j)
def fAs : Nat → Nat → Int32
  | 0 => fun _ => 0
  | j + 1 => upd (fAs j) j 0
def aI (n : Nat) (f : Nat → Int32) : AC := .inl (0, n, .inl f)
def oS (r q : Nat) : AC := .inr (4, [.int 0, .int 0, .ref r, .ref q])
def bgM (M : Mem) (a r q : Nat) : Mem := (M.1, fun c => if c = q then some (aI 6 (fAs 6)) else if c = r then some (aI 6 (fRo 6)) else if c = a then some (oS r q) else M.2 c)
theorem bg_L {d zm wm a r q : Nat} {Q : Option Value → Mem → Prop} (hra : r ≠ a) (hqa : q ≠ a) (hrq : r ≠ q) : ∀ (n j : Nat) (M : Mem), j + n = 6 → M.2 a = some (oS r q) → M.2 r = some (aI 6 (fRo j)) → M.2 q = some (aI 6 (fAs j)) → (∀ M' : Mem, M'.1 = M.1 → (∀ c, c ≠ r → c ≠ q → M'.2 c = M.2 c) → M'.2 r = some (aI 6 (fRo 6)) → M'.2 q = some (aI 6 (fAs 6)) → Q none M') → V cX4_begin 3 RX4 false d none none zm wm 12 [.ref a, .int 0, .int (nI j)] [] M Q := by
  intro n
  induction n with
  | zero =>
    intro j M hj ha hr hq hk
    have hj : j = 6 := by omega
    subst hj
    refine V_iload_n (x := nI 6) dX4_begin_12 rfl rfl rfl ?_
    refine V_bipush (v := nI 6) dX4_begin_13 rfl rfl ?_
    refine V_icmp_ge (tgt := 38) dX4_begin_15 rfl rfl (fun _ => ?_) (fun h => absurd (by decide) h)
    exact V_return dX4_begin_38 rfl (hk M rfl (fun _ _ _ => rfl) hr hq)
  | succ n ih =>
    intro j M hj ha hr hq hk
    refine V_iload_n (x := nI j) dX4_begin_12 rfl rfl rfl ?_
    refine V_bipush (v := nI 6) dX4_begin_13 rfl rfl ?_
    refine V_icmp_ge (tgt := 38) dX4_begin_15 rfl rfl (fun h => absurd h (by rw [Int32.le_iff_toInt_le, nI_toInt (by omega), nI_toInt (by omega)]; omega)) (fun _ => ?_)
    refine V_aload_n dX4_begin_18 rfl rfl rfl ?_
    refine V_getf (v := .ref r) dX4_begin_19 fl_X4_9 ha rfl rfl ?_
    refine V_iload_n (x := nI j) dX4_begin_22 rfl rfl rfl ?_
    refine V_iload_n (x := nI j) dX4_begin_23 rfl rfl rfl ?_
    refine V_iast (j := j) dX4_begin_24 hr rfl (by omega) (by omega) rfl ?_
    refine V_aload_n dX4_begin_25 rfl rfl rfl ?_
    refine V_getf (v := .ref q) dX4_begin_26 fl_X4_15 (by rw [pu_ne (Ne.symm hra)]; exact ha) rfl rfl ?_
    refine V_iload_n (x := nI j) dX4_begin_29 rfl rfl rfl ?_
    refine V_iconst (v := 0) dX4_begin_30 rfl rfl ?_
    refine V_iast (j := j) dX4_begin_31 (by rw [pu_ne (Ne.symm hrq)]; exact hq) rfl (by omega) (by omega) rfl ?_
    refine V_iinc (x := nI j) (v := nI (j + 1)) dX4_begin_32 rfl (nI_1 j) rfl rfl rfl ?_
    refine V_goto (tgt := 12) dX4_begin_35 rfl ?_
    refine ih (j + 1) _ (by omega) ?_ ?_ ?_ (fun M' h1 h2 h3 h4 => hk M' h1 (fun c c1 c2 => ?_) h3 h4)
    · rw [pu_ne (Ne.symm hqa), pu_ne (Ne.symm hra)]; exact ha
    · rw [pu_ne hrq, pu_at]; rfl
    · rw [pu_at]; rfl
    · rw [h2 c c1 c2, pu_ne c2, pu_ne c1]
theorem c_X4_begin {d a r q : Nat} {M : Mem} (hra : r ≠ a) (hqa : q ≠ a) (hrq : r ≠ q) (ha : M.2 a = some (oS r q)) (hr : M.2 r = some (aI 6 (fRo 0))) (hq : M.2 q = some (aI 6 (fAs 0))) : Cl d mX4_begin [.ref a, .int 0] M none (bgM M a r q) := by
  refine Cl_of_V (it := false) rfl (fun h => by cases h) (Nat.le_of_ble_eq_true rfl) (Nat.le_refl _) (Nat.le_refl _) ?_
  refine V_aload_n dX4_begin_0 rfl rfl rfl ?_
  refine V_iload_n (x := 0) dX4_begin_1 rfl rfl rfl ?_
  refine V_putI dX4_begin_2 fl_X4_22 rfl (Or.inl rfl) ha (by show 0 < 4; omega) rfl ?_
  refine V_aload_n dX4_begin_5 rfl rfl rfl ?_
  refine V_iconst (v := 0) dX4_begin_6 rfl rfl ?_
  refine V_putI dX4_begin_7 fl_X4_26 rfl (Or.inl rfl) pu_at (by show 1 < 4; omega) rfl ?_
  refine V_iconst (v := nI 0) dX4_begin_10 rfl rfl ?_
  refine V_istore_n dX4_begin_11 rfl (by decide) rfl rfl rfl ?_
  refine bg_L hra hqa hrq 6 0 _ rfl pu_at ?_ ?_ (fun M' h1 h2 h3 h4 => ⟨rfl, mem_ext h1 (fun c => ?_)⟩)
  · rw [pu_ne hra, pu_ne hra]; exact hr
  · rw [pu_ne hqa, pu_ne hqa]; exact hq
  · show _ = if c = q then some (aI 6 (fAs 6)) else if c = r then some (aI 6 (fRo 6)) else if c = a then some (oS r q) else M.2 c
    by_cases c1 : c = q
    · rw [if_pos c1, c1]; exact h4
    · rw [if_neg c1]
      by_cases c2 : c = r
      · rw [if_pos c2, c2]; exact h3
      · rw [if_neg c2, h2 c c2 c1]
        by_cases c3 : c = a
        · rw [if_pos c3, c3, pu_at]; rfl
        · rw [if_neg c3, pu_ne c3, pu_ne c3]
/-- a new shelf -/
def shM (M : Mem) (a : Nat) : Mem := ((M.1.1 + 2, M.1.2 + 12), fun c => if c = M.1.1 + 1 then some (aI 6 (fAs 6)) else if c = M.1.1 then some (aI 6 (fRo 6)) else if c = a then some (oS M.1.1 (M.1.1 + 1)) else M.2 c)
theorem c_X4_init {d a : Nat} {M : Mem} (ha : a < M.1.1) (hM : M.2 a = some (.inr (4, ma_df 4))) : Cl (d + 1) mX4_init [.ref a] M none (shM M a) := by
  refine Cl_of_V (it := true) rfl (fun _ => rfl) (Nat.le_of_ble_eq_true rfl) (show M.1.1 ≤ M.1.1 + 2 by omega) (show M.1.2 ≤ M.1.2 + 12 by omega) ?_
  refine V_aload_n dX4_init_0 rfl rfl rfl ?_
  refine V_objInit (st := []) dX4_init_1 oi_X4 oi_inst oi_code (Nat.le_of_ble_eq_true rfl) rfl ?_
  refine V_aload_n dX4_init_4 rfl rfl rfl ?_
  refine V_bipush (v := nI 6) dX4_init_5 rfl rfl ?_
  refine V_newa (t := 0) (N := 6) dX4_init_7 rfl (Or.inl ⟨rfl, rfl⟩) na_int rfl (by decide) (show M.1.1 + 1 ≤ M.1.1 + 2 by omega) (show M.1.2 + 6 ≤ M.1.2 + 12 by omega) rfl ?_
  refine V_putF dX4_init_9 fl_X4_9 rfl rfl rfl (Or.inr ⟨_, rfl⟩) (by rw [nw_lt ha]; exact hM) (by show 2 < 4; omega) rfl ?_
  refine V_aload_n dX4_init_12 rfl rfl rfl ?_
  refine V_bipush (v := nI 6) dX4_init_13 rfl rfl ?_
  refine V_newa (t := 0) (N := 6) dX4_init_15 rfl (Or.inl ⟨rfl, rfl⟩) na_int rfl (by decide) (show M.1.1 + 1 + 1 ≤ M.1.1 + 2 by omega) (show M.1.2 + 6 + 6 ≤ M.1.2 + 12 by omega) rfl ?_
  refine V_putF dX4_init_17 fl_X4_15 rfl rfl rfl (Or.inr ⟨_, rfl⟩) (by rw [nw_lt (show a < M.1.1 + 1 by omega), pu_at]) (by show 3 < 4; omega) rfl ?_
  refine V_aload_n dX4_init_20 rfl rfl rfl ?_
  refine V_iconst (v := 0) dX4_init_21 rfl rfl ?_
  refine V_callV (st := []) (As := [.int 0]) dX4_init_22 cl_X4_18 pu_at (by decide) rfl (c_X4_begin (r := M.1.1) (q := M.1.1 + 1) (by omega) (by omega) (by omega) pu_at ?_ ?_) rfl rfl (Nat.le_of_ble_eq_true rfl) (show M.1.1 + 1 + 1 ≤ M.1.1 + 2 by omega) (show M.1.2 + 6 + 6 ≤ M.1.2 + 12 by omega) rfl ?_
  · rw [pu_ne (by omega), nw_lt (show M.1.1 < M.1.1 + 1 by omega), pu_ne (by omega), nw_at]; rfl
  · rw [pu_ne (by omega)]
    exact nw_at
  · refine V_return dX4_init_25 rfl ⟨rfl, mem_ext rfl (fun c => ?_)⟩
    show (if c = M.1.1 + 1 then some (aI 6 (fAs 6)) else if c = M.1.1 then some (aI 6 (fRo 6)) else if c = a then some (oS M.1.1 (M.1.1 + 1)) else _) = if c = M.1.1 + 1 then some (aI 6 (fAs 6)) else if c = M.1.1 then some (aI 6 (fRo 6)) else if c = a then some (oS M.1.1 (M.1.1 + 1)) else M.2 c
    by_cases c1 : c = M.1.1 + 1
    · rw [if_pos c1, if_pos c1]
    · rw [if_neg c1, if_neg c1]
      by_cases c2 : c = M.1.1
      · rw [if_pos c2, if_pos c2]
      · rw [if_neg c2, if_neg c2]
        by_cases c3 : c = a
        · rw [if_pos c3, if_pos c3]
        · rw [if_neg c3, if_neg c3, pu_ne c3]
          show (if c = M.1.1 + 1 then _ else _) = _
          rw [if_neg c1]
          rw [pu_ne c3]
          show (if c = M.1.1 then _ else _) = _
          rw [if_neg c2]
/-- a house is emptied -/
def oH (n p q : Nat) : AC := .inr (0, [.int (nI n), .int 0, .int 0, .int 0, .ref p, .ref q])
theorem c_X0_empty {d a p q : Nat} {M : Mem} (ha : M.2 a = some (oH 0 p q)) : Cl d mX0_empty [.ref a] M none (ma_put M a (oH 4 p q)) := by
  refine Cl_of_V (it := false) rfl (fun h => by cases h) (Nat.le_of_ble_eq_true rfl) (Nat.le_refl _) (Nat.le_refl _) ?_
  refine V_aload_n dX0_empty_0 rfl rfl rfl ?_
  refine V_iconst (v := nI 4) dX0_empty_1 rfl rfl ?_
  refine V_putI dX0_empty_2 fl_X0_25 rfl (Or.inl rfl) ha (by show 0 < 6; omega) rfl ?_
  refine V_aload_n dX0_empty_5 rfl rfl rfl ?_
  refine V_iconst (v := 0) dX0_empty_6 rfl rfl ?_
  refine V_putI dX0_empty_7 fl_X0_29 rfl (Or.inl rfl) pu_at (by show 1 < 6; omega) rfl ?_
  refine V_aload_n dX0_empty_10 rfl rfl rfl ?_
  refine V_iconst (v := 0) dX0_empty_11 rfl rfl ?_
  refine V_putI dX0_empty_12 fl_X0_32 rfl (Or.inl rfl) pu_at (by show 2 < 6; omega) rfl ?_
  refine V_aload_n dX0_empty_15 rfl rfl rfl ?_
  refine V_iconst (v := 0) dX0_empty_16 rfl rfl ?_
  refine V_putI dX0_empty_17 fl_X0_35 rfl (Or.inl rfl) pu_at (by show 3 < 6; omega) rfl ?_
  refine V_return dX0_empty_20 rfl ⟨rfl, mem_ext rfl (fun c => ?_)⟩
  by_cases c1 : c = a
  · rw [c1, pu_at, pu_at]; rfl
  · rw [pu_ne c1, pu_ne c1, pu_ne c1, pu_ne c1, pu_ne c1]
/-- one more shelf of a new house -/
def stM (M : Mem) (z : Nat) (f : Nat → Option Nat) (j : Nat) : Mem := ma_put (shM (ma_new M 4 (.inr (4, ma_df 4))) M.1.1) z (.inl (5, 4, .inr (va_up f j (some M.1.1))))
theorem shM_lt {M : Mem} {a c : Nat} (h1 : c < M.1.1) (h2 : c ≠ a) : (shM M a).2 c = M.2 c := by
  show (if c = M.1.1 + 1 then _ else if c = M.1.1 then _ else if c = a then _ else M.2 c) = _
  rw [if_neg (by omega), if_neg (by omega), if_neg h2]
theorem shM_at {M : Mem} {a : Nat} (h : a < M.1.1) : (shM M a).2 a = some (oS M.1.1 (M.1.1 + 1)) := by
  show (if a = M.1.1 + 1 then _ else if a = M.1.1 then _ else if a = a then _ else M.2 a) = _
  rw [if_neg (by omega), if_neg (by omega), if_pos rfl]
theorem htv4 : ∀ G : WG, (ma_df 4).map (ma_tv G) = ma_df 4 := fun _ => rfl
theorem hs_S {d zm wm a z j : Nat} {M : Mem} {f : Nat → Option Nat} {Q : Option Value → Mem → Prop} {p q : Nat} (haz : a ≠ z) (hz : z < M.1.1) (hj : j < 4) (hp : p = z) (ha : M.2 a = some (oH 0 p q)) (hf : M.2 z = some (.inl (5, 4, .inr f))) (hz1 : M.1.1 + 3 ≤ zm) (hw1 : M.1.2 + 16 ≤ wm) (h : V cX0_init 2 RX0 true (d + 2) none none zm wm 22 [.ref a, .int (nI (j + 1))] [] (stM M z f j) Q) : V cX0_init 2 RX0 true (d + 2) none none zm wm 22 [.ref a, .int (nI j)] [] M Q := by
  subst hp
  refine V_iload_n (x := nI j) dX0_init_22 rfl rfl rfl ?_
  refine V_iconst (v := nI 4) dX0_init_23 rfl rfl ?_
  refine V_icmp_ge (tgt := 46) dX0_init_24 rfl rfl (fun h => absurd h (by rw [Int32.le_iff_toInt_le, nI_toInt (by omega), nI_toInt (by omega)]; omega)) (fun _ => ?_)
  refine V_aload_n dX0_init_27 rfl rfl rfl ?_
  refine V_getf (v := .ref p) dX0_init_28 fl_X0_11 ha rfl rfl ?_
  refine V_iload_n (x := nI j) dX0_init_31 rfl rfl rfl ?_
  refine V_new (ci := 4) dX0_init_32 (by decide) nw_X0_9 nk_4 ni_4 (by decide) (by omega) (show M.1.2 + 4 ≤ wm by omega) rfl ?_ htv4
  refine V_dup dX0_init_35 rfl rfl ?_
  refine V_callI (As := []) (st := [.ref M.1.1, .int (nI j), .ref p]) dX0_init_36 cl_X0_21 (c_X4_init (show M.1.1 < M.1.1 + 1 by omega) nw_at) rfl rfl (Nat.le_of_ble_eq_true rfl) (show M.1.1 + 1 + 2 ≤ zm by omega) (show M.1.2 + 4 + 12 ≤ wm by omega) rfl ?_
  refine V_aast (j := j) (t := 5) (ci := 4) (f := f) dX0_init_39 (by rw [shM_lt (show p < M.1.1 + 1 by omega) (by omega), nw_lt hz]; exact hf) (shM_at (show M.1.1 < M.1.1 + 1 by omega)) (Or.inr (Or.inr ⟨rfl, rfl⟩)) rfl hj (by decide) rfl ?_
  refine V_iinc (x := nI j) (v := nI (j + 1)) dX0_init_40 rfl (nI_1 j) rfl rfl rfl ?_
  exact V_goto (tgt := 22) dX0_init_43 rfl h
theorem stM_a {M : Mem} {z c j : Nat} {f : Nat → Option Nat} (h1 : c ≠ z) (h2 : c < M.1.1) : (stM M z f j).2 c = M.2 c := by
  unfold stM
  rw [pu_ne h1, shM_lt (show c < M.1.1 + 1 by omega) (by omega), nw_lt h2]
theorem stM_z {M : Mem} {z j : Nat} {f : Nat → Option Nat} : (stM M z f j).2 z = some (.inl (5, 4, .inr (va_up f j (some M.1.1)))) := pu_at
theorem stM_1 {M : Mem} {z j : Nat} {f : Nat → Option Nat} : (stM M z f j).1 = (M.1.1 + 3, M.1.2 + 16) := rfl
/-- a new house -/
def hsA (M : Mem) (a : Nat) : Mem := ma_put (ma_new (ma_put (ma_new M 4 (.inl (5, 4, .inr (fun _ => none)))) a (.inr (0, (ma_df 0).set 4 (.ref M.1.1)))) 16 (.inl (0, 16, .inl (fun _ => 0)))) a (.inr (0, ((ma_df 0).set 4 (.ref M.1.1)).set 5 (.ref (M.1.1 + 1))))
def hsF (z : Nat) : Nat → Nat → Option Nat
  | 0 => fun _ => none
  | j + 1 => va_up (hsF z j) j (some (z + 2 + 3 * j))
def hsB (M : Mem) (a : Nat) : Mem := stM (stM (stM (stM (hsA M a) M.1.1 (hsF M.1.1 0) 0) M.1.1 (hsF M.1.1 1) 1) M.1.1 (hsF M.1.1 2) 2) M.1.1 (hsF M.1.1 3) 3
def hsM (M : Mem) (a : Nat) : Mem := ma_put (hsB M a) a (oH 4 M.1.1 (M.1.1 + 1))
theorem c_X0_init {d a : Nat} {M : Mem} (ha : a < M.1.1) (hM : M.2 a = some (.inr (0, ma_df 0))) : Cl (d + 2) mX0_init [.ref a] M none (hsM M a) := by
  refine Cl_of_V (it := true) rfl (fun _ => rfl) (Nat.le_of_ble_eq_true rfl) (show M.1.1 ≤ M.1.1 + 14 by omega) (show M.1.2 ≤ M.1.2 + 84 by omega) ?_
  refine V_aload_n dX0_init_0 rfl rfl rfl ?_
  refine V_objInit (st := []) dX0_init_1 oi_X0 oi_inst oi_code (Nat.le_of_ble_eq_true rfl) rfl ?_
  refine V_aload_n dX0_init_4 rfl rfl rfl ?_
  refine V_iconst (v := nI 4) dX0_init_5 rfl rfl ?_
  refine V_anew (t := 5) (ci := 4) (N := 4) dX0_init_6 (Or.inr (Or.inr ⟨rfl, rfl⟩)) nw_X0_9 rfl (by decide) (show M.1.1 + 1 ≤ M.1.1 + 14 by omega) (show M.1.2 + 4 ≤ M.1.2 + 84 by omega) rfl ?_
  refine V_putF dX0_init_9 fl_X0_11 rfl rfl rfl (Or.inr ⟨_, rfl⟩) (by rw [nw_lt ha]; exact hM) (by show 4 < 6; omega) rfl ?_
  refine V_aload_n dX0_init_12 rfl rfl rfl ?_
  refine V_bipush (v := nI 16) dX0_init_13 rfl rfl ?_
  refine V_newa (t := 0) (N := 16) dX0_init_15 rfl (Or.inl ⟨rfl, rfl⟩) na_int rfl (by decide) (show M.1.1 + 1 + 1 ≤ M.1.1 + 14 by omega) (show M.1.2 + 4 + 16 ≤ M.1.2 + 84 by omega) rfl ?_
  refine V_putF dX0_init_17 fl_X0_17 rfl rfl rfl (Or.inr ⟨_, rfl⟩) (by rw [nw_lt (show a < M.1.1 + 1 by omega), pu_at]) (by show 5 < 6; omega) rfl ?_
  refine V_iconst (v := nI 0) dX0_init_20 rfl rfl ?_
  refine V_istore_n dX0_init_21 rfl (by decide) rfl rfl rfl ?_
  have a0 : (hsA M a).2 a = some (oH 0 M.1.1 (M.1.1 + 1)) := pu_at
  have z0 : (hsA M a).2 M.1.1 = some (.inl (5, 4, .inr (hsF M.1.1 0))) := by
    unfold hsA
    rw [pu_ne (by omega), nw_lt (show M.1.1 < M.1.1 + 1 by omega), pu_ne (by omega), nw_at]
    rfl
  have n0 : (hsA M a).1 = (M.1.1 + 2, M.1.2 + 20) := rfl
  have hne : a ≠ M.1.1 := by omega
  refine hs_S (M := hsA M a) (f := hsF M.1.1 0) hne (show M.1.1 < M.1.1 + 2 by omega) (by decide) rfl a0 z0 (show M.1.1 + 2 + 3 ≤ M.1.1 + 14 by omega) (show M.1.2 + 20 + 16 ≤ M.1.2 + 84 by omega) ?_
  have a1 := (stM_a (z := M.1.1) (j := 0) (f := hsF M.1.1 0) hne (show a < (hsA M a).1.1 by rw [n0]; show a < M.1.1 + 2; omega)).trans a0
  refine hs_S (f := hsF M.1.1 1) hne (show M.1.1 < M.1.1 + 2 + 3 by omega) (by decide) rfl a1 stM_z (show M.1.1 + 2 + 3 + 3 ≤ M.1.1 + 14 by omega) (show M.1.2 + 20 + 16 + 16 ≤ M.1.2 + 84 by omega) ?_
  have a2 := (stM_a (z := M.1.1) (j := 1) (f := hsF M.1.1 1) hne (show a < M.1.1 + 2 + 3 by omega)).trans a1
  refine hs_S (f := hsF M.1.1 2) hne (show M.1.1 < M.1.1 + 2 + 3 + 3 by omega) (by decide) rfl a2 stM_z (show M.1.1 + 2 + 3 + 3 + 3 ≤ M.1.1 + 14 by omega) (show M.1.2 + 20 + 16 + 16 + 16 ≤ M.1.2 + 84 by omega) ?_
  have a3 := (stM_a (z := M.1.1) (j := 2) (f := hsF M.1.1 2) hne (show a < M.1.1 + 2 + 3 + 3 by omega)).trans a2
  refine hs_S (f := hsF M.1.1 3) hne (show M.1.1 < M.1.1 + 2 + 3 + 3 + 3 by omega) (by decide) rfl a3 stM_z (show M.1.1 + 2 + 3 + 3 + 3 + 3 ≤ M.1.1 + 14 by omega) (show M.1.2 + 20 + 16 + 16 + 16 + 16 ≤ M.1.2 + 84 by omega) ?_
  have a4 := (stM_a (z := M.1.1) (j := 3) (f := hsF M.1.1 3) hne (show a < M.1.1 + 2 + 3 + 3 + 3 by omega)).trans a3
  refine V_iload_n (x := nI 4) dX0_init_22 rfl rfl rfl ?_
  refine V_iconst (v := nI 4) dX0_init_23 rfl rfl ?_
  refine V_icmp_ge (tgt := 46) dX0_init_24 rfl rfl (fun _ => ?_) (fun h => absurd (by decide) h)
  refine V_aload_n dX0_init_46 rfl rfl rfl ?_
  refine V_callV (st := []) (As := []) (M := hsB M a) dX0_init_47 cl_X0_22 a4 (by decide) rfl (c_X0_empty a4) rfl rfl (Nat.le_of_ble_eq_true rfl) (Nat.le_refl _) (Nat.le_refl _) rfl ?_
  exact V_return dX0_init_50 rfl ⟨rfl, rfl⟩
