/-! THE WORLD AT THE LAW'S ENTRY -/
def tmS (i : Nat) : Term := .string RX5 (ma_str.getD i (0, "")).1
def gvL : List Cond := flatC (Jvm.Cond.and given_1 narrow_1)
theorem gv_ex : ∀ i, i < 6 → Cond.exactly (tmS i) "java/lang/String" ∈ gvL := by decide +kernel
theorem gv_co : ∀ i, i < 6 → Cond.eq (.field (tmS i) "java/lang/String" "coder" "B") (.int 0) ∈ gvL := by decide +kernel
theorem gv_ar : ∀ i, i < 6 → Cond.arrayOf (.field (tmS i) "java/lang/String" "value" "[B") .byte ∈ gvL := by decide +kernel
theorem gv_le : ∀ i, i < 6 → Cond.eq (.length (.field (tmS i) "java/lang/String" "value" "[B")) (.int (Int32.ofNat (ma_len.getD i 0))) ∈ gvL := by decide +kernel
theorem gv_el : ∀ i, i < 6 → ∀ j, j < ma_len.getD i 0 → Cond.eq (.elem (.field (tmS i) "java/lang/String" "value" "[B") (.int (Int32.ofNat j))) (.int ((ma_byt.getD i []).getD j 0)) ∈ gvL := by decide +kernel
theorem gv_ne : ∀ i, i < 6 → ∀ j, j < 6 → i ≠ j → (Cond.not (Cond.eq (tmS i) (tmS j)) ∈ gvL ∨ Cond.not (Cond.eq (tmS j) (tmS i)) ∈ gvL) := by decide +kernel
theorem gv_cs : Cond.eq (.static "java/lang/String" "COMPACT_STRINGS" "Z") (.int 1) ∈ gvL := by decide +kernel
theorem gv_sf : Cond.isRef (.static "jdk/internal/util/Preconditions" "SIOOBE_FORMATTER" "Ljava/util/function/BiFunction;") ∈ gvL := by decide +kernel
theorem tb_sr : ∀ i (h : i < ma_str.length), Cond.stringRef RX5 (ma_str[i]).1 (ma_str[i]).2 ∈ lw_tbl := by decide +kernel
theorem tb_nst : ∀ q ∈ ma_nest, Cond.methodLinkNest RX6 q.1 q.2 RX6 ∈ lw_tbl := by decide +kernel
theorem tb_a0 : Cond.arrayOver (.object RX0) ∈ lw_tbl := List.mem_of_getElem? (i := 148) (by decide +kernel)
theorem tb_a3 : Cond.arrayOver (.object RX3) ∈ lw_tbl := List.mem_of_getElem? (i := 210) (by decide +kernel)
theorem tb_a4 : Cond.arrayOver (.object RX4) ∈ lw_tbl := List.mem_of_getElem? (i := 86) (by decide +kernel)
theorem tb_l1 : Cond.laysStatic "java/lang/String" "COMPACT_STRINGS" "Z" ∈ lw_tbl := List.mem_of_getElem? (i := 341) (by decide +kernel)
theorem tb_l2 : Cond.laysStatic "jdk/internal/util/Preconditions" "SIOOBE_FORMATTER" "Ljava/util/function/BiFunction;" ∈ lw_tbl := List.mem_of_getElem? (i := 357) (by decide +kernel)
theorem tb_i1 : Cond.initialized "java/lang/String" ∈ lw_tbl := List.mem_of_getElem? (i := 64) (by decide +kernel)
theorem tb_i2 : Cond.initialized "jdk/internal/util/Preconditions" ∈ lw_tbl := List.mem_of_getElem? (i := 66) (by decide +kernel)
theorem tb_nk {i : Nat} (h : i < 8) : Cond.instantiable (Rn i) (Nn i) ∈ ma_tbl := by
  match i, h with
  | 0, _ => exact nk_0
  | 1, _ => exact nk_1
  | 2, _ => exact nk_2
  | 3, _ => exact nk_3
  | 4, _ => exact nk_4
  | 5, _ => exact nk_5
  | 6, _ => exact nk_6
  | 7, _ => exact nk_7
section ENT
variable {s : State} {args : Array Value}
theorem en_prim {ty : FieldType} (h : (Cond.arrayClass ty).before args s = true) : ∃ cA, ArrOfT s cA ty ∧ s.vm.findClass ("[" ++ ty.toString) = some cA := by
  obtain ⟨c, k, comp, h1, h2, h3⟩ := Cond.arrayClass_spec h
  exact ⟨c, fun n z => ⟨fun k h => (by cases h), k, h2, comp, h3⟩, h1⟩
theorem en_obj {C : String} (h : (Cond.arrayOver (.object C)).before args s = true) : ∃ cA, ArrOfT s cA (.object C) ∧ va_RA s cA (.object C) := by
  obtain ⟨comp, c, k, h1, h2, h3, h4, h5⟩ := Cond.arrayOver_spec h
  exact ⟨c, fun n z => ⟨fun k h => (by cases h), k, h3, comp, h4⟩, k, comp, h3, h4, h1, h5⟩
theorem en_K (hts : ∀ w ∈ lw_tbl, w.before args s = true) : ∃ (D : va_G) (cA : Nat → ClassId), va_K D vwCl (ma_tys cA) s := by
  have hma : ∀ w ∈ ma_tbl, w.before args s = true := fun w hw => hts w (List.mem_filter.mp hw).1
  have hC : ∀ i, ∃ q : ClassId × (Nat → Nat), i < 8 → u_Kn s (Rn i) (Tn i) (Nn i) q.1 q.2 := by
    intro i
    by_cases hi : i < 8
    · obtain ⟨cC, iS, h⟩ := u_known hma (ma_in0 i hi) (hma _ (tb_nk hi))
      exact ⟨(cC, iS), fun _ => h⟩
    · obtain ⟨cC, iS, h⟩ := u_known hma (ma_in0 0 (by decide)) (hma _ (tb_nk (i := 0) (by decide)))
      exact ⟨(cC, iS), fun h => absurd h hi⟩
  obtain ⟨fC, hfC⟩ := Classical.axiomOfChoice hC
  obtain ⟨c0, a0, b0⟩ := en_prim (ty := .int) (hma _ na_int)
  obtain ⟨c1, a1, b1⟩ := en_prim (ty := .byte) (hma _ na_byte)
  obtain ⟨c2, a2, b2⟩ := en_prim (ty := .boolean) (hma _ na_boolean)
  obtain ⟨c3, a3, b3⟩ := en_obj (hts _ tb_a0)
  obtain ⟨c4, a4, b4⟩ := en_obj (hts _ tb_a3)
  obtain ⟨c5, a5, b5⟩ := en_obj (hts _ tb_a4)
  refine ⟨(fun i => (fC i).1, fun i => (fC i).2), fun t => match t with | 0 => c0 | 1 => c1 | 2 => c2 | 3 => c3 | 4 => c4 | _ => c5, ?_, ?_⟩
  · intro k q hq
    by_cases hk : k < 8
    · have e : q = (Rn k, Tn k, Nn k) := Option.some.inj (hq.symm.trans (ma_cl hk))
      subst e
      exact hfC k hk
    · rw [List.getElem?_eq_none (by show 8 ≤ k; omega)] at hq
      cases hq
  · intro k q hq
    match k, hq with
    | 0, hq => cases hq; exact ⟨a0, b0⟩
    | 1, hq => cases hq; exact ⟨a1, b1⟩
    | 2, hq => cases hq; exact ⟨a2, b2⟩
    | 3, hq => cases hq; exact ⟨a3, b3⟩
    | 4, hq => cases hq; exact ⟨a4, b4⟩
    | 5, hq => cases hq; exact ⟨a5, b5⟩
    | k + 6, hq => cases hq
theorem en_S {b : Nat} (hts : ∀ w ∈ lw_tbl, w.before args s = true) (hgv : (Jvm.Cond.and given_1 narrow_1).before args s = true) : ∃ G : WG, G.1 = s.heap.size ∧ G.2.1 1000 = b ∧ ma_S G s s.heap := by
  have hg : ∀ c ∈ gvL, c.before args s = true := flat_of_before _ hgv
  obtain ⟨D, cA, hK⟩ := en_K hts
  have hA : ∀ a : Nat, a < s.heap.size → ¬ (fun q : Nat => s.heap.size ≤ q) a := fun a h => Nat.not_le.mpr h
  obtain ⟨adK, adV, hS1, hS2⟩ := vk_Sof (args := args) (s := s) (N := 6) (tm := tmS) (len := ma_len) (byt := ma_byt) (A := fun q => s.heap.size ≤ q) s_ln (fun i hi => hg _ (gv_ex i hi)) (fun i hi => hg _ (gv_co i hi)) (fun i hi => hg _ (gv_ar i hi)) (fun i hi => hg _ (gv_le i hi)) (fun i hi j hj => hg _ (gv_el i hi j hj)) (fun i j hi hj hne => (gv_ne i hi j hj hne).imp (hg _) (hg _)) hA
  have e : ∀ i, i < 6 → (if i = 1000 then b else adK i) = adK i := fun i hi => if_neg (by omega)
  refine ⟨(s.heap.size, (fun k => if k = 1000 then b else adK k), adV, D, cA), rfl, (show (if (1000 : Nat) = 1000 then b else adK 1000) = b from if_pos rfl), hK, ⟨va_AO.of (hts _ tb_a0), va_AO.of (hts _ tb_a3), va_AO.of (hts _ tb_a4)⟩, fun q hq => va_Nw.of rfl (hts _ (tb_nst q hq)), ⟨fun i hi => ?_, fun i j hi hj h => ?_⟩, fun i hi => ?_, va_Zof (hts _ tb_l1) (hts _ tb_i1) (va_eqt (hg _ gv_cs)) hA, va_Zqof (hts _ tb_l2) (hts _ tb_i2) (hg _ gv_sf) hA⟩
  · have h := hS1.1 i hi
    rw [← e i hi] at h
    exact h
  · refine hS1.2 i j hi hj ?_
    have h : (if i = 1000 then b else adK i) = (if j = 1000 then b else adK j) := h
    rw [e i hi, e j hj] at h
    exact h
  · have h6 : i < 6 := hi
    have h2 := hS2 i h6
    have e2 : tmS i = .string RX5 (ma_str[i]).1 := by
      unfold tmS
      rw [List.getD_eq_getElem?_getD, List.getElem?_eq_getElem hi]
      rfl
    rw [e2, ← e i h6] at h2
    exact vk_R.of (hts _ (tb_sr i hi)) h2
end ENT
