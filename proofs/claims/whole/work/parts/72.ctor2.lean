/-! CONSTRUCTORS: tape, what is seen, least, sheets -/
def tpM (M : Mem) (a : Nat) : Mem := ma_put (ma_new M 160 (.inl (1, 160, .inl (fun _ => 0)))) a (.inr (5, (ma_df 5).set 0 (.ref M.1.1)))
theorem c_X5_init {d a : Nat} {M : Mem} (ha : a < M.1.1) (hM : M.2 a = some (.inr (5, ma_df 5))) : Cl (d + 1) mX5_init [.ref a] M none (tpM M a) := by
  refine Cl_of_V (it := true) rfl (fun _ => rfl) (Nat.le_of_ble_eq_true rfl) (show M.1.1 ≤ M.1.1 + 1 by omega) (show M.1.2 ≤ M.1.2 + 160 by omega) ?_
  refine V_aload_n dX5_init_0 rfl rfl rfl ?_
  refine V_objInit (st := []) dX5_init_1 oi_X5 oi_inst oi_code (Nat.le_of_ble_eq_true rfl) rfl ?_
  refine V_aload_n dX5_init_4 rfl rfl rfl ?_
  refine V_sipush (v := nI 160) dX5_init_5 rfl rfl ?_
  refine V_newa (t := 1) (N := 160) dX5_init_8 rfl (Or.inr (Or.inl ⟨rfl, rfl⟩)) na_byte rfl (by decide) (show M.1.1 + 1 ≤ M.1.1 + 1 by omega) (show M.1.2 + 160 ≤ M.1.2 + 160 by omega) rfl ?_
  refine V_putF dX5_init_10 fl_X5_9 rfl rfl rfl (Or.inr ⟨_, rfl⟩) (by rw [nw_lt ha]; exact hM) (by show 0 < 9; omega) rfl ?_
  exact V_return dX5_init_13 rfl ⟨rfl, rfl⟩
def seA (M : Mem) (a : Nat) : Mem := ma_put (ma_new M 6 (aI 6 (fun _ => 0))) a (.inr (2, (ma_df 2).set 1 (.ref M.1.1)))
def seB (M : Mem) (a : Nat) : Mem := ma_put (ma_new (seA M a) 6 (aI 6 (fun _ => 0))) a (.inr (2, ((ma_df 2).set 1 (.ref M.1.1)).set 2 (.ref (M.1.1 + 1))))
def seM (M : Mem) (a : Nat) : Mem := ma_put (ma_new (seB M a) 6 (aI 6 (fun _ => 0))) a (.inr (2, (((ma_df 2).set 1 (.ref M.1.1)).set 2 (.ref (M.1.1 + 1))).set 3 (.ref (M.1.1 + 2))))
theorem c_X2_init {d a : Nat} {M : Mem} (ha : a < M.1.1) (hM : M.2 a = some (.inr (2, ma_df 2))) : Cl (d + 1) mX2_init [.ref a] M none (seM M a) := by
  refine Cl_of_V (it := true) rfl (fun _ => rfl) (Nat.le_of_ble_eq_true rfl) (show M.1.1 ≤ M.1.1 + 3 by omega) (show M.1.2 ≤ M.1.2 + 18 by omega) ?_
  refine V_aload_n dX2_init_0 rfl rfl rfl ?_
  refine V_objInit (st := []) dX2_init_1 oi_X2 oi_inst oi_code (Nat.le_of_ble_eq_true rfl) rfl ?_
  refine V_aload_n dX2_init_4 rfl rfl rfl ?_
  refine V_bipush (v := nI 6) dX2_init_5 rfl rfl ?_
  refine V_newa (t := 0) (N := 6) dX2_init_7 rfl (Or.inl ⟨rfl, rfl⟩) na_int rfl (by decide) (show M.1.1 + 1 ≤ M.1.1 + 3 by omega) (show M.1.2 + 6 ≤ M.1.2 + 18 by omega) rfl ?_
  refine V_putF dX2_init_9 fl_X2_9 rfl rfl rfl (Or.inr ⟨_, rfl⟩) (by rw [nw_lt ha]; exact hM) (by show 1 < 4; omega) rfl ?_
  refine V_aload_n dX2_init_12 rfl rfl rfl ?_
  refine V_bipush (v := nI 6) dX2_init_13 rfl rfl ?_
  refine V_newa (t := 0) (N := 6) dX2_init_15 rfl (Or.inl ⟨rfl, rfl⟩) na_int rfl (by decide) (show M.1.1 + 1 + 1 ≤ M.1.1 + 3 by omega) (show M.1.2 + 6 + 6 ≤ M.1.2 + 18 by omega) rfl ?_
  refine V_putF dX2_init_17 fl_X2_15 rfl rfl rfl (Or.inr ⟨_, rfl⟩) (by rw [nw_lt (show a < M.1.1 + 1 by omega), pu_at]) (by show 2 < 4; omega) rfl ?_
  refine V_aload_n dX2_init_20 rfl rfl rfl ?_
  refine V_bipush (v := nI 6) dX2_init_21 rfl rfl ?_
  refine V_newa (t := 0) (N := 6) dX2_init_23 rfl (Or.inl ⟨rfl, rfl⟩) na_int rfl (by decide) (show M.1.1 + 1 + 1 + 1 ≤ M.1.1 + 3 by omega) (show M.1.2 + 6 + 6 + 6 ≤ M.1.2 + 18 by omega) rfl ?_
  refine V_putF dX2_init_25 fl_X2_18 rfl rfl rfl (Or.inr ⟨_, rfl⟩) (by rw [nw_lt (show a < M.1.1 + 1 + 1 by omega), pu_at]) (by show 3 < 4; omega) rfl ?_
  exact V_return dX2_init_28 rfl ⟨rfl, rfl⟩
theorem c_X1_init {d a : Nat} {M : Mem} : Cl (d + 1) mX1_init [.ref a] M none M := by
  refine Cl_of_V (it := true) rfl (fun _ => rfl) (Nat.le_of_ble_eq_true rfl) (Nat.le_refl _) (Nat.le_refl _) ?_
  refine V_aload_n dX1_init_0 rfl rfl rfl ?_
  refine V_objInit (st := []) dX1_init_1 oi_X1 oi_inst oi_code (Nat.le_of_ble_eq_true rfl) rfl ?_
  exact V_return dX1_init_4 rfl ⟨rfl, rfl⟩
def shtM (M : Mem) (a : Nat) : Mem := ma_put (ma_new (ma_put M a (.inr (3, (ma_df 3).set 0 (.int (-1))))) 40 (.inl (0, 40, .inl (fun _ => 0)))) a (.inr (3, ((ma_df 3).set 0 (.int (-1))).set 2 (.ref M.1.1)))
theorem c_X3_init {d a : Nat} {M : Mem} (ha : a < M.1.1) (hM : M.2 a = some (.inr (3, ma_df 3))) : Cl (d + 1) mX3_init [.ref a] M none (shtM M a) := by
  refine Cl_of_V (it := true) rfl (fun _ => rfl) (Nat.le_of_ble_eq_true rfl) (show M.1.1 ≤ M.1.1 + 1 by omega) (show M.1.2 ≤ M.1.2 + 40 by omega) ?_
  refine V_aload_n dX3_init_0 rfl rfl rfl ?_
  refine V_objInit (st := []) dX3_init_1 oi_X3 oi_inst oi_code (Nat.le_of_ble_eq_true rfl) rfl ?_
  refine V_aload_n dX3_init_4 rfl rfl rfl ?_
  refine V_iconst (v := -1) dX3_init_5 rfl rfl ?_
  refine V_putI dX3_init_6 fl_X3_9 rfl (Or.inl rfl) hM (by show 0 < 3; omega) rfl ?_
  refine V_aload_n dX3_init_9 rfl rfl rfl ?_
  refine V_bipush (v := nI 40) dX3_init_10 rfl rfl ?_
  refine V_newa (t := 0) (N := 40) dX3_init_12 rfl (Or.inl ⟨rfl, rfl⟩) na_int rfl (by decide) (show M.1.1 + 1 ≤ M.1.1 + 1 by omega) (show M.1.2 + 40 ≤ M.1.2 + 40 by omega) rfl ?_
  refine V_putF dX3_init_14 fl_X3_15 rfl rfl rfl (Or.inr ⟨_, rfl⟩) ((nw_lt (M := ma_put M a (.inr (3, (ma_df 3).set 0 (.int (-1))))) ha).trans pu_at) (by show 2 < 3; omega) rfl ?_
  exact V_return dX3_init_17 rfl ⟨rfl, rfl⟩
/-! what the constructors leave alone, and that their memories are whole -/
theorem stM_wf {M : Mem} {z j : Nat} {f : Nat → Option Nat} (h : ma_wf M) (hz : z < M.1.1) : ma_wf (stM M z f j) := by
  refine ma_wf_put ?_ (show z < M.1.1 + 1 + 2 by omega)
  intro k c hk
  show k < M.1.1 + 1 + 2
  by_cases e : k < M.1.1 + 1
  · omega
  · by_cases e1 : k = M.1.1 + 1 + 1
    · omega
    · by_cases e2 : k = M.1.1 + 1
      · omega
      · replace hk : (if k = M.1.1 + 1 + 1 then _ else if k = M.1.1 + 1 then _ else if k = M.1.1 then _ else (ma_new M 4 (.inr (4, ma_df 4))).2 k) = some c := hk
        rw [if_neg e1, if_neg e2, if_neg (by omega)] at hk
        have := ma_wf_new h k c hk
        have : k < M.1.1 + 1 := this
        omega
theorem hsA_wf {M : Mem} {a : Nat} (h : ma_wf M) (ha : a < M.1.1) : ma_wf (hsA M a) := ma_wf_put (ma_wf_new (ma_wf_put (ma_wf_new h) (show a < M.1.1 + 1 by omega))) (show a < M.1.1 + 1 + 1 by omega)
theorem hsM_wf {M : Mem} {a : Nat} (h : ma_wf M) (ha : a < M.1.1) : ma_wf (hsM M a) := ma_wf_put (stM_wf (stM_wf (stM_wf (stM_wf (hsA_wf h ha) (show M.1.1 < M.1.1 + 2 by omega)) (show M.1.1 < M.1.1 + 2 + 3 by omega)) (show M.1.1 < M.1.1 + 2 + 3 + 3 by omega)) (show M.1.1 < M.1.1 + 2 + 3 + 3 + 3 by omega)) (show a < M.1.1 + 2 + 3 + 3 + 3 + 3 by omega)
theorem hsM_lt {M : Mem} {a c : Nat} (h1 : c < M.1.1) (h2 : c ≠ a) : (hsM M a).2 c = M.2 c := by
  unfold hsM hsB hsA
  rw [pu_ne h2, stM_a (by omega) (show c < M.1.1 + 2 + 3 + 3 + 3 by omega), stM_a (by omega) (show c < M.1.1 + 2 + 3 + 3 by omega), stM_a (by omega) (show c < M.1.1 + 2 + 3 by omega), stM_a (by omega) (show c < M.1.1 + 2 by omega), pu_ne h2, nw_lt (show c < M.1.1 + 1 by omega), pu_ne h2, nw_lt h1]
theorem hsM_at {M : Mem} {a : Nat} : (hsM M a).2 a = some (oH 4 M.1.1 (M.1.1 + 1)) := pu_at
theorem hsM_1 {M : Mem} {a : Nat} : (hsM M a).1 = (M.1.1 + 14, M.1.2 + 84) := rfl
theorem tpM_wf {M : Mem} {a : Nat} (h : ma_wf M) (ha : a < M.1.1) : ma_wf (tpM M a) := ma_wf_put (ma_wf_new h) (show a < M.1.1 + 1 by omega)
theorem tpM_lt {M : Mem} {a c : Nat} (h1 : c < M.1.1) (h2 : c ≠ a) : (tpM M a).2 c = M.2 c := by
  unfold tpM
  rw [pu_ne h2, nw_lt h1]
theorem seM_wf {M : Mem} {a : Nat} (h : ma_wf M) (ha : a < M.1.1) : ma_wf (seM M a) := ma_wf_put (ma_wf_new (ma_wf_put (ma_wf_new (ma_wf_put (ma_wf_new h) (show a < M.1.1 + 1 by omega))) (show a < M.1.1 + 1 + 1 by omega))) (show a < M.1.1 + 1 + 1 + 1 by omega)
theorem seM_lt {M : Mem} {a c : Nat} (h1 : c < M.1.1) (h2 : c ≠ a) : (seM M a).2 c = M.2 c := by
  unfold seM seB seA
  rw [pu_ne h2, nw_lt (show c < M.1.1 + 1 + 1 by omega), pu_ne h2, nw_lt (show c < M.1.1 + 1 by omega), pu_ne h2, nw_lt h1]
theorem shtM_wf {M : Mem} {a : Nat} (h : ma_wf M) (ha : a < M.1.1) : ma_wf (shtM M a) := ma_wf_put (ma_wf_new (ma_wf_put h ha)) (show a < M.1.1 + 1 by omega)
theorem shtM_lt {M : Mem} {a c : Nat} (h1 : c < M.1.1) (h2 : c ≠ a) : (shtM M a).2 c = M.2 c := by
  unfold shtM
  rw [pu_ne h2]
  exact (nw_lt (M := ma_put M a (.inr (3, (ma_df 3).set 0 (.int (-1))))) h1).trans (pu_ne h2)
