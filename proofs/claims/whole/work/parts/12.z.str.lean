/-! STRINGS: length and charAt of the six names -/
theorem tb_lk2 {x : Int32} (c0 : ¬ x = 0) (c1 : ¬ x = 1) : Op.lookupswitch.offset (#[((0 : Int), (28 : Int)), (1, 39)] : Array (Int × Int)).toList 50 x.toInt = 50 := by
  have h0 : x.toInt ≠ 0 := tb_ne c0
  have h1 : x.toInt ≠ 1 := tb_ne c1
  show (if (0 : Int) = x.toInt then (28 : Int) else if (1 : Int) = x.toInt then (39 : Int) else 50) = 50
  rw [if_neg (fun e => h0 e.symm), if_neg (fun e => h1 e.symm)]
/-! Math.min, Math.max -/
def mmin (x y : Int32) : Int32 := if y < x then y else x
def mmax (x y : Int32) : Int32 := if x < y then y else x
theorem mm_nmax : yJ9_max_7cf53 = Lib.Math.max.name := rfl
theorem mm_nmin : yJ9_min_7cf53 = Lib.Math.min.name := rfl
theorem mm_cmax : cJ9_max_7cf53 = Lib.Math.max.code := by decide +kernel
theorem mm_cmin : cJ9_min_7cf53 = Lib.Math.min.code := by decide +kernel
theorem P_mmax {B : ByteArray} {nL : Nat} {o : String} {it : Bool} {d : Nat} {ret : Option FieldType} {X : Option (Nat × (Nat → Int32))} {pc q : Nat} {ls st : List Value} {F : FF} {Q : Option Value → Mem → Prop} {idx : Nat} {x y : Int32} (hd : decode B pc = .ok (.invokestatic idx, 3)) (hf : CS o idx mJ9_max_7cf53 2) (hst : (st.map fun v => v.category).sum ≤ 8) (hq : pc + 3 = q) (h : V B nL o it (d + 1) ret X 95 2845 q ls (.int (mmax x y) :: st) (mem F) Q) : V B nL o it (d + 1) ret X 95 2845 pc ls (.int y :: .int x :: st) (mem F) Q := by
  intro G p l e R s m args below meth c z0 w0 Z C hz hw hr H locs rl hR hL
  subst hq
  have hts := C.2.2.2.2.1
  have hro := C.2.2.2.2.2.2.1
  obtain ⟨⟨-, -, f1, f2, f3⟩, f4⟩ := hf
  have k := h G p l e R s m args below meth c z0 w0 Z C hz hw hr H locs rl hR hL
  have f3' : Cond.code Lib.Math.max.name Lib.Math.max.code 2 (some .int) ∈ ma_tbl := by rw [← mm_cmax]; exact f3
  exact va_mmax C.1 C.2.1 (by rw [C.2.2.1]; exact hL.1.symm) C.2.2.2.1 (hts _ f1) (hts _ f4) (hts _ f2) (hts _ f3') (by omega) (by rw [ma_sum]; omega) hz hw hd k
theorem P_mmin {B : ByteArray} {nL : Nat} {o : String} {it : Bool} {d : Nat} {ret : Option FieldType} {X : Option (Nat × (Nat → Int32))} {pc q : Nat} {ls st : List Value} {F : FF} {Q : Option Value → Mem → Prop} {idx : Nat} {x y : Int32} (hd : decode B pc = .ok (.invokestatic idx, 3)) (hf : CS o idx mJ9_min_7cf53 2) (hst : (st.map fun v => v.category).sum ≤ 8) (hq : pc + 3 = q) (h : V B nL o it (d + 1) ret X 95 2845 q ls (.int (mmin x y) :: st) (mem F) Q) : V B nL o it (d + 1) ret X 95 2845 pc ls (.int y :: .int x :: st) (mem F) Q := by
  intro G p l e R s m args below meth c z0 w0 Z C hz hw hr H locs rl hR hL
  subst hq
  have hts := C.2.2.2.2.1
  have hro := C.2.2.2.2.2.2.1
  obtain ⟨⟨-, -, f1, f2, f3⟩, f4⟩ := hf
  have k := h G p l e R s m args below meth c z0 w0 Z C hz hw hr H locs rl hR hL
  have f3' : Cond.code Lib.Math.min.name Lib.Math.min.code 2 (some .int) ∈ ma_tbl := by rw [← mm_cmin]; exact f3
  exact va_mmin C.1 C.2.1 (by rw [C.2.2.1]; exact hL.1.symm) C.2.2.2.1 (hts _ f1) (hts _ f4) (hts _ f2) (hts _ f3') (by omega) (by rw [ma_sum]; omega) hz hw hd k
section UR
variable {B : ByteArray} {nL : Nat} {o : String} {it : Bool} {d : Nat} {ret : Option FieldType} {X : Option (Nat × (Nat → Int32))} {zm wm pc q : Nat} {ls st : List Value} {M : Mem} {F : FF} {Q : Option Value → Mem → Prop}
theorem U_irem {x y : Int32} (hd : decode B pc = .ok (.irem, 1)) (hne : ¬ y = 0) (hq : pc + 1 = q) (h : V B nL o it d ret X zm wm q ls (.int (irem x y) :: st) M Q) : V B nL o it d ret X zm wm pc ls (.int y :: .int x :: st) M Q := V_irem hd hne hq h
theorem U_lrem {x y : Int64} (hd : decode B pc = .ok (.lrem, 1)) (hne : ¬ y = 0) (hq : pc + 1 = q) (h : V B nL o it d ret X zm wm q ls (.long (lrem x y) :: st) M Q) : V B nL o it d ret X zm wm pc ls (.long y :: .long x :: st) M Q := V_lrem hd hne hq h
theorem U_iushr {x y : Int32} (hd : decode B pc = .ok (.iushr, 1)) (hq : pc + 1 = q) (h : V B nL o it d ret X zm wm q ls (.int (iushr x y) :: st) M Q) : V B nL o it d ret X zm wm pc ls (.int y :: .int x :: st) M Q := V_iushr hd hq h
theorem V_midI {st0 : List Value} (x : Int32) (st : List Value) (h1 : ∀ y, y = x → V B nL o it d ret X zm wm q ls (.int y :: st) (mem F) Q → V B nL o it d ret X zm wm pc ls st0 (mem F) Q) (h2 : V B nL o it d ret X zm wm q ls (.int x :: st) (mem F) Q) : V B nL o it d ret X zm wm pc ls st0 (mem F) Q := h1 x rfl h2
theorem V_midJ {st0 : List Value} (x : Int64) (st : List Value) (h1 : ∀ y, y = x → V B nL o it d ret X zm wm q ls (.long y :: st) (mem F) Q → V B nL o it d ret X zm wm pc ls st0 (mem F) Q) (h2 : V B nL o it d ret X zm wm q ls (.long x :: st) (mem F) Q) : V B nL o it d ret X zm wm pc ls st0 (mem F) Q := h1 x rfl h2
end UR
/-! STRINGS: length and charAt of the six names, walked -/
/-- a contract with given arguments, in a memory that stays -/
def SM (d : Nat) (y : MT) (G : WG) (As : List Value) (M : Mem) (r : Option Value) : Prop := ∀ l : Launch, Met l y.1 (.code y.1 y.2.1 y.2.2.1 y.2.2.2 :: ma_tbl) { frames := d, cells := 0, slots := 0, locals := 36 * d } (va_Pc As (fun U => ma_W G M U ∧ ma_S G U U.heap)) (ma_Q G r M) 0 0 (ma_A G)
theorem SM_of {d : Nat} {y : MT} {G : WG} {As : List Value} {M : Mem} {v : Option Int32} (hy : plainName y.1.cls = true)
    (h : ∀ (p : Program) (l : Launch) (e : Env) (s : State) (m : MethodId) (below : List Frame) (meth : Method) (c : Code) (Z : State → Prop),
      ma_VC y.2.1 y.2.2.1 y.1.cls false d y.2.2.2 none G p { frames := d, cells := 0, slots := 0, locals := 36 * d } s m As.toArray meth c →
      (∀ (H' : Heap) (locs' : List Loc) (pc' : Nat) (rl' : Array Slot), ma_R G s M.1.1 M.1.2 M H' locs' → ma_VR y.2.1 y.2.2.2 pc' (v.map .int) → W p l e { frames := d, cells := 0, slots := 0, locals := 36 * d } s m As.toArray below meth c H' locs' 0 0 Z (F0 m pc' rl' ((v.map Value.int).toList))) →
      ma_R G s M.1.1 M.1.2 M s.heap [] → W p l e { frames := d, cells := 0, slots := 0, locals := 36 * d } s m As.toArray below meth c s.heap [] 0 0 Z (F0 m 0 ((lg_sl As ++ List.replicate (y.2.2.1 - (lg_sl As).length) Slot.unset).toArray) [])) : SM d y G As M (v.map .int) := by
  intro l
  refine Met.ofW (cc := y.2.1) (maxL := y.2.2.1) (ret := y.2.2.2) hy rfl ?_
  intro p e s m args' below meth c s₁ Bd hml hv
  obtain ⟨rfl, ⟨hW1, hW2, hW3⟩, hS⟩ := hv
  have hts := atoms_spec (ws := .code y.1 y.2.1 y.2.2.1 y.2.2.2 :: ma_tbl) Bd.pre
  have hown : s.vm.findClass y.1.cls = some m.cls := findClass_of_methodNamed Bd.named
  have hlocks := Bd.notSynchronized
  rw [lg_entry_eq]
  refine h p l e s m below meth c _ ⟨Bd.exec, Bd.bytes, hml, hown, fun w hw => hts w (List.mem_cons_of_mem _ hw), hS, ⟨Nat.le_refl _, Nat.le_refl _⟩, Bd.returns, hlocks, (fun e => by cases e), (by rw [hW1]; exact Nat.le_add_right _ _), (fun _ e => by cases e)⟩ (fun H' locs' pc' rl' hR hV => ?_) ⟨Nat.le_refl _, Nat.le_refl _, hW1, hW2, hW3, va_S.rf⟩
  obtain ⟨g1, g2, g3, g4, g5, g6⟩ := hR
  match v, hV with
  | none, hV => exact W.vret Bd.exec Bd.bytes (Bd.returns.trans hV.1) (fun t ht hWm => ⟨⟨rfl, by rw [ht]; exact g3, by rw [ht]; exact g4, g5⟩, g6.F ht⟩) g6.2.2 hV.2 hlocks
  | some v, hV =>
    obtain ⟨⟨ty, e1, e2⟩, e3⟩ := hV
    exact W.zret Bd.exec Bd.bytes (Bd.returns.trans e1) e2 (fun t ht hWm => ⟨⟨rfl, by rw [ht]; exact g3, by rw [ht]; exact g4, g5⟩, g6.F ht⟩) g6.2.2 e3 hlocks
section SMC
variable {G : WG} {p : Program} {l : Launch} {e : Env} {R : Room} {s : State} {m : MethodId} {args : Array Value} {below : List Frame} {meth : Method} {c : Code} {z0 w0 : Nat} {Z : State → Prop} {H : Heap} {locs : List Loc} {rl : Array Slot} {M : Mem} {B : ByteArray} {nL : Nat} {o : String} {it : Bool} {d : Nat} {ret : Option FieldType} {X : Option (Nat × (Nat → Int32))} {pc : Nat} {st : List Value}
theorem sm_pre {As : List Value} (hR : ma_R G s z0 w0 M H locs) (hS : ma_S G s s.heap) : PreS s H (va_Pc As (fun U => ma_W G M U ∧ ma_S G U U.heap)) As := by
  obtain ⟨h1, h2, h3, h4, h5, h6⟩ := hR
  refine ⟨fun a U g mk q => ⟨q.1, q.2.1, ma_S.same q.2.2 rfl⟩, fun U hU hW => ⟨rfl, ⟨by rw [hU]; exact h3, by rw [hU]; exact h4, h5⟩, hS.warm hW (fun x g1 g2 => by rw [hU]; exact h6.2.1 x g1 g2)⟩⟩
theorem sm_S {idx n : Nat} {y : MT} {As : List Value} {r : Option Value} (C : ma_VC B nL o it (d + 1) ret X G p R s m args meth c) (hd : decode B pc = .ok (.invokestatic idx, 3)) (hf : CS o idx y n) (hM : SM d y G As M r) (hn : As.length = n) (hst : (st.map fun v => v.category).sum ≤ 8) (hz : M.1.1 - z0 ≤ R.cells) (hw : M.1.2 - w0 ≤ R.slots) (hR : ma_R G s z0 w0 M H locs) (hrl : rl.size = nL)
    (k : ∀ (H1 : Heap) (locs1 : List Loc), ma_R G s z0 w0 M H1 locs1 → W p l e R s m args below meth c H1 locs1 (M.1.1 - z0) (M.1.2 - w0) Z (F0 m (pc + 3) rl ((r.toList ++ st).map (ma_tv G)))) : W p l e R s m args below meth c H locs (M.1.1 - z0) (M.1.2 - w0) Z (F0 m pc rl (As.reverse ++ st.map (ma_tv G))) := by
  have hts := C.2.2.2.2.1
  have hS := C.2.2.2.2.2.1
  refine ma_after (r := r) (M' := M) hR (Nat.le_refl _) (Nat.le_refl _) (av := As.toArray) ?_ k
  rw [Nat.sub_self, Nat.sub_self]
  exact va_runS (As := As) ⟨C.1, C.2.1, C.2.2.1, C.2.2.2.1, hts⟩ (hM l) ⟨ma_callP hts hf.1 C.2.2.2.2.2.2.1, hts _ hf.2⟩ (sm_pre hR hS) rfl hn hrl rfl (lv_room (by rw [ma_sum]; exact hst)) hd ⟨hz, hw⟩
theorem sm_V {idx n i : Nat} {y : MT} {As : List Value} {r : Option Value} (C : ma_VC B nL o it (d + 1) ret X G p R s m args meth c) (hd : decode B pc = .ok (.invokevirtual idx, 3)) (hf : CV o idx y n) (hcl : y.1.cls = "java/lang/String") (hi : i < 6) (hM : SM d y G (.ref (G.2.1 i) :: As) M r) (hn : As.length = n) (hst : (st.map fun v => v.category).sum ≤ 8) (hz : M.1.1 - z0 ≤ R.cells) (hw : M.1.2 - w0 ≤ R.slots) (hR : ma_R G s z0 w0 M H locs) (hrl : rl.size = nL)
    (k : ∀ (H1 : Heap) (locs1 : List Loc), ma_R G s z0 w0 M H1 locs1 → W p l e R s m args below meth c H1 locs1 (M.1.1 - z0) (M.1.2 - w0) Z (F0 m (pc + 3) rl ((r.toList ++ st).map (ma_tv G)))) : W p l e R s m args below meth c H locs (M.1.1 - z0) (M.1.2 - w0) Z (F0 m pc rl (As.reverse ++ .ref (G.2.1 i) :: st.map (ma_tv G))) := by
  have hts := C.2.2.2.2.1
  have hS := C.2.2.2.2.2.1
  have hp := sm_pre (As := .ref (G.2.1 i) :: As) hR hS
  have h6 := hR.2.2.2.2.2
  refine ma_after (r := r) (M' := M) hR (Nat.le_refl _) (Nat.le_refl _) (av := (Value.ref (G.2.1 i) :: As).toArray) ?_ k
  rw [Nat.sub_self, Nat.sub_self]
  exact va_runV (C := y.1.cls) (b := G.2.1 i) (As := As) ⟨C.1, C.2.1, C.2.2.1, C.2.2.2.1, hts⟩ (hM l) ⟨ma_callP hts hf.1 C.2.2.2.2.2.2.1, hts _ hf.2.1, hts _ hf.2.2⟩ ⟨hp.1, by rw [hcl]; exact vk_recv hS.2.2.2.1 hi h6, hp.2⟩ rfl hn hrl rfl (lv_room (by rw [ma_sum]; exact hst)) hd ⟨hz, hw⟩
end SMC
theorem cl_J0_335 : CV RJ0 335 mJ0_coder_7d493 0 := ⟨⟨⟨by decide +kernel, by decide +kernel, by decide +kernel⟩, by decide, ma_mem 336 (by decide +kernel) rfl, ma_mem 64 (by decide +kernel) rfl, ma_mem 339 (by decide +kernel) rfl⟩, ma_mem 337 (by decide +kernel) rfl, ma_mem 338 (by decide +kernel) rfl⟩
theorem cl_J0_492 : CV RJ0 492 mJ0_isLatin1_aae02 0 := ⟨⟨⟨by decide +kernel, by decide +kernel, by decide +kernel⟩, by decide, ma_mem 346 (by decide +kernel) rfl, ma_mem 64 (by decide +kernel) rfl, ma_mem 349 (by decide +kernel) rfl⟩, ma_mem 347 (by decide +kernel) rfl, ma_mem 348 (by decide +kernel) rfl⟩
theorem cl_J0_495 : CS RJ0 495 mJ1_charAt_3b067 2 := ⟨⟨⟨by decide +kernel, by decide +kernel, by decide +kernel⟩, by decide, ma_mem 350 (by decide +kernel) rfl, ma_mem 65 (by decide +kernel) rfl, ma_mem 352 (by decide +kernel) rfl⟩, ma_mem 351 (by decide +kernel) rfl⟩
theorem cl_J1_9 : CS RJ1 9 mJ0_checkIndex_df160 2 := ⟨⟨⟨by decide +kernel, by decide +kernel, by decide +kernel⟩, by decide, ma_mem 353 (by decide +kernel) rfl, ma_mem 64 (by decide +kernel) rfl, ma_mem 355 (by decide +kernel) rfl⟩, ma_mem 354 (by decide +kernel) rfl⟩
theorem cl_J0_1059 : CS RJ0 1059 mJ3_checkIndex_8e157 3 := ⟨⟨⟨by decide +kernel, by decide +kernel, by decide +kernel⟩, by decide, ma_mem 358 (by decide +kernel) rfl, ma_mem 66 (by decide +kernel) rfl, ma_mem 360 (by decide +kernel) rfl⟩, ma_mem 359 (by decide +kernel) rfl⟩
theorem fl_J0_38 : Cond.fieldLink RJ0 38 "java/lang/String" "COMPACT_STRINGS" "Z" ∈ ma_tbl := ma_mem 340 (by decide +kernel) rfl
theorem fl_J0_9 : Cond.fieldLink RJ0 9 "java/lang/String" "value" "[B" ∈ ma_tbl := ma_mem 1210 (by decide +kernel) rfl
theorem fl_J0_15 : Cond.fieldLink RJ0 15 "java/lang/String" "coder" "B" ∈ ma_tbl := ma_mem 1211 (by decide +kernel) rfl
theorem fl_J0_1053 : Cond.fieldLink RJ0 1053 "jdk/internal/util/Preconditions" "SIOOBE_FORMATTER" "Ljava/util/function/BiFunction;" ∈ ma_tbl := ma_mem 356 (by decide +kernel) rfl
theorem s_pre {d k n : Nat} {G : WG} {M : Mem} {v : Value} (hv : v = .null ∨ ∃ t, v = .ref t) (hk : k < n) (hn : n < 2 ^ 31) : SM d mJ3_checkIndex_8e157 G [.int (nI k), .int (nI n), v] M (some (.int (nI k))) := by
  refine SM_of (v := some (nI k)) (by decide) fun p l e s m below meth c Z C hr hR => ?_
  have e0 : ((lg_sl [.int (nI k), .int (nI n), v] ++ List.replicate (3 - (lg_sl [.int (nI k), .int (nI n), v]).length) Slot.unset).toArray) = #[.val (.int (nI k)), .val (.int (nI n)), .val v] := by
    rcases hv with rfl | ⟨t, rfl⟩ <;> rfl
  show W _ _ _ _ _ _ _ _ _ _ _ _ _ _ _ (F0 m 0 ((lg_sl [.int (nI k), .int (nI n), v] ++ List.replicate (3 - (lg_sl [.int (nI k), .int (nI n), v]).length) Slot.unset).toArray) [])
  rw [e0]
  refine lv_iload_n C.1 C.2.1 dJ3_checkIndex_8e157_0 rfl rfl ?_
  refine lv_if_lt (tgt := 9) C.1 C.2.1 dJ3_checkIndex_8e157_1 rfl (fun h => absurd h (nI_pos (by omega))) fun _ => ?_
  refine lv_iload_n C.1 C.2.1 dJ3_checkIndex_8e157_4 rfl rfl ?_
  refine lv_iload_n C.1 C.2.1 dJ3_checkIndex_8e157_5 rfl rfl ?_
  refine lv_icmp_lt (tgt := 16) C.1 C.2.1 dJ3_checkIndex_8e157_6 rfl (fun _ => ?_) fun h => absurd (show nI k < nI n by rw [Int32.lt_iff_toInt_lt, nI_toInt (by omega), nI_toInt hn]; omega) h
  refine lv_iload_n C.1 C.2.1 dJ3_checkIndex_8e157_16 rfl rfl ?_
  exact hr _ _ 17 _ hR ⟨⟨_, rfl, rfl⟩, dJ3_checkIndex_8e157_17⟩
theorem s_chk {d k n : Nat} {G : WG} {M : Mem} (hk : k < n) (hn : n < 2 ^ 31) : SM (d + 1) mJ0_checkIndex_df160 G [.int (nI k), .int (nI n)] M none := by
  refine SM_of (v := none) (by decide) fun p l e s m below meth c Z C hr hR => ?_
  have hS := C.2.2.2.2.2.1
  have hts := C.2.2.2.2.1
  refine lv_iload_n (x := nI k) C.1 C.2.1 dJ0_checkIndex_df160_0 rfl rfl ?_
  refine lv_iload_n (x := nI n) C.1 C.2.1 dJ0_checkIndex_df160_1 rfl rfl ?_
  have key : ∀ v : Value, (v = .null ∨ ∃ t, v = .ref t) → va_Z "jdk/internal/util/Preconditions" "SIOOBE_FORMATTER" "Ljava/util/function/BiFunction;" v (ma_A G) s s.heap → W p l e { frames := d + 1, cells := 0, slots := 0, locals := 36 * (d + 1) } s m [Value.int (nI k), Value.int (nI n)].toArray below meth c s.heap [] 0 0 Z (F0 m 2 ((lg_sl [.int (nI k), .int (nI n)] ++ List.replicate (2 - (lg_sl [.int (nI k), .int (nI n)]).length) Slot.unset).toArray) [.int (nI n), .int (nI k)]) := by
    intro v hv hZ
    refine va_gets C.1 C.2.1 hZ hR.2.2.2.2.2 C.2.2.2.1 (hts _ fl_J0_1053) (fun _ h => h) dJ0_checkIndex_df160_2 ?_
    have k0 := sm_S (l := l) (e := e) (below := below) (Z := Z) (z0 := M.1.1) (w0 := M.1.2) (st := []) (rl := (lg_sl [.int (nI k), .int (nI n)] ++ List.replicate (2 - (lg_sl [.int (nI k), .int (nI n)]).length) Slot.unset).toArray) C dJ0_checkIndex_df160_5 cl_J0_1059 (s_pre (d := d) (G := G) (M := M) hv hk hn) rfl (by decide) (by simp) (by simp) hR rfl (fun H1 locs1 hR1 => by
      rw [Nat.sub_self, Nat.sub_self]
      refine lv_pop C.1 C.2.1 dJ0_checkIndex_df160_8 rfl ?_
      exact hr _ _ 9 _ hR1 ⟨rfl, dJ0_checkIndex_df160_9⟩)
    rw [Nat.sub_self, Nat.sub_self] at k0
    exact k0
  rcases hS.2.2.2.2.2.2 with hZ | ⟨t, hZ⟩
  · exact key .null (Or.inl rfl) hZ
  · exact key (.ref t) (Or.inr ⟨t, rfl⟩) hZ
theorem s_ch : ∀ i, i < 6 → ∀ k, k < ma_len.getD i 0 → ((((ma_byt.getD i []).getD k 0 &&& 255) : Int32).toUInt32 % 65536).toInt32 = (ma_byt.getD i []).getD k 0 ∧ narrow .char (.int ((ma_byt.getD i []).getD k 0)) = .int ((ma_byt.getD i []).getD k 0) := by decide +kernel
theorem s_ln : ∀ i, i < 6 → ma_len.getD i 0 < 2 ^ 31 := by decide +kernel
theorem s_lat {d i k : Nat} {G : WG} {M : Mem} (hi : i < 6) (hk : k < ma_len.getD i 0) : SM (d + 2) mJ1_charAt_3b067 G [.ref (G.2.2.1 i), .int (nI k)] M (some (.int ((ma_byt.getD i []).getD k 0))) := by
  refine SM_of (v := some ((ma_byt.getD i []).getD k 0)) (by decide) fun p l e s m below meth c Z C hr hR => ?_
  have hS := C.2.2.2.2.2.1
  have hts := C.2.2.2.2.1
  have hT := (hS.2.2.2.1.1 i hi).2.2.2
  have hn := s_ln i hi
  obtain ⟨hc1, hc2⟩ := s_ch i hi k hk
  refine lv_iload_n (x := nI k) C.1 C.2.1 dJ1_charAt_3b067_0 rfl rfl ?_
  refine lv_aload_n (x := G.2.2.1 i) C.1 C.2.1 dJ1_charAt_3b067_1 rfl rfl ?_
  refine va_tlen (v := nI (ma_len.getD i 0)) C.1 C.2.1 hT hR.2.2.2.2.2 rfl dJ1_charAt_3b067_2 ?_
  have k0 := sm_S (l := l) (e := e) (below := below) (Z := Z) (z0 := M.1.1) (w0 := M.1.2) (st := []) (rl := (lg_sl [.ref (G.2.2.1 i), .int (nI k)] ++ List.replicate (2 - (lg_sl [.ref (G.2.2.1 i), .int (nI k)]).length) Slot.unset).toArray) C dJ1_charAt_3b067_3 cl_J1_9 (s_chk (d := d) (G := G) (M := M) hk hn) rfl (by decide) (by simp) (by simp) hR rfl (fun H1 locs1 hR1 => by
    rw [Nat.sub_self, Nat.sub_self]
    refine lv_aload_n (x := G.2.2.1 i) C.1 C.2.1 dJ1_charAt_3b067_6 rfl rfl ?_
    refine lv_iload_n (x := nI k) C.1 C.2.1 dJ1_charAt_3b067_7 rfl rfl ?_
    refine va_tb (v := .int ((ma_byt.getD i []).getD k 0)) C.1 C.2.1 hT hR1.2.2.2.2.2 (vp_in_nI hk hn) (by rw [nI_clamp (by omega)]) dJ1_charAt_3b067_8 ?_
    refine lv_sipush (v := 255) C.1 C.2.1 dJ1_charAt_3b067_9 (by decide) ?_
    refine lv_iand C.1 C.2.1 dJ1_charAt_3b067_12 ?_
    refine lv_i2c C.1 C.2.1 dJ1_charAt_3b067_13 hc1 ?_
    exact hr _ _ 14 _ hR1 ⟨⟨_, rfl, hc2⟩, dJ1_charAt_3b067_14⟩)
  rw [Nat.sub_self, Nat.sub_self] at k0
  exact k0
theorem s_isl {d i : Nat} {G : WG} {M : Mem} (hi : i < 6) : SM d mJ0_isLatin1_aae02 G [.ref (G.2.1 i)] M (some (.int 1)) := by
  refine SM_of (v := some 1) (by decide) fun p l e s m below meth c Z C hr hR => ?_
  have hS := C.2.2.2.2.2.1
  have hts := C.2.2.2.2.1
  have hT := hS.2.2.2.1.1 i hi
  refine va_gets C.1 C.2.1 hS.2.2.2.2.2.1 hR.2.2.2.2.2 C.2.2.2.1 (hts _ fl_J0_38) (fun _ h => h) dJ0_isLatin1_aae02_0 ?_
  refine lv_if_eq (tgt := 17) C.1 C.2.1 dJ0_isLatin1_aae02_3 rfl (fun h => absurd h (by decide)) fun _ => ?_
  refine lv_aload_n (x := G.2.1 i) C.1 C.2.1 dJ0_isLatin1_aae02_6 rfl rfl ?_
  refine vk_getf C.1 C.2.1 hT.2.1 hR.2.2.2.2.2 C.2.2.2.1 (hts _ fl_J0_15) (fun _ h => h) dJ0_isLatin1_aae02_7 ?_
  refine lv_if_ne (tgt := 17) C.1 C.2.1 dJ0_isLatin1_aae02_10 rfl (fun h => absurd rfl h) fun _ => ?_
  refine lv_iconst (v := 1) C.1 C.2.1 dJ0_isLatin1_aae02_13 (by decide) ?_
  refine lv_goto (tgt := 18) C.1 C.2.1 dJ0_isLatin1_aae02_14 rfl ?_
  exact hr _ _ 18 _ hR ⟨⟨_, rfl, rfl⟩, dJ0_isLatin1_aae02_18⟩
theorem s_cod {d i : Nat} {G : WG} {M : Mem} (hi : i < 6) : SM d mJ0_coder_7d493 G [.ref (G.2.1 i)] M (some (.int 0)) := by
  refine SM_of (v := some 0) (by decide) fun p l e s m below meth c Z C hr hR => ?_
  have hS := C.2.2.2.2.2.1
  have hts := C.2.2.2.2.1
  have hT := hS.2.2.2.1.1 i hi
  refine va_gets C.1 C.2.1 hS.2.2.2.2.2.1 hR.2.2.2.2.2 C.2.2.2.1 (hts _ fl_J0_38) (fun _ h => h) dJ0_coder_7d493_0 ?_
  refine lv_if_eq (tgt := 13) C.1 C.2.1 dJ0_coder_7d493_3 rfl (fun h => absurd h (by decide)) fun _ => ?_
  refine lv_aload_n (x := G.2.1 i) C.1 C.2.1 dJ0_coder_7d493_6 rfl rfl ?_
  refine vk_getf C.1 C.2.1 hT.2.1 hR.2.2.2.2.2 C.2.2.2.1 (hts _ fl_J0_15) (fun _ h => h) dJ0_coder_7d493_7 ?_
  refine lv_goto (tgt := 14) C.1 C.2.1 dJ0_coder_7d493_10 rfl ?_
  exact hr _ _ 14 _ hR ⟨⟨_, rfl, rfl⟩, dJ0_coder_7d493_14⟩
theorem s_len {d i : Nat} {G : WG} {M : Mem} (hi : i < 6) : SM (d + 1) mJ0_length_8abf5 G [.ref (G.2.1 i)] M (some (.int (nI (ma_len.getD i 0)))) := by
  refine SM_of (v := some (nI (ma_len.getD i 0))) (by decide) fun p l e s m below meth c Z C hr hR => ?_
  have hS := C.2.2.2.2.2.1
  have hts := C.2.2.2.2.1
  have hT := hS.2.2.2.1.1 i hi
  refine lv_aload_n (x := G.2.1 i) C.1 C.2.1 dJ0_length_8abf5_0 rfl rfl ?_
  refine vk_getf C.1 C.2.1 hT.2.2.1 hR.2.2.2.2.2 C.2.2.2.1 (hts _ fl_J0_9) (fun _ h => h) dJ0_length_8abf5_1 ?_
  refine va_tlen (v := nI (ma_len.getD i 0)) C.1 C.2.1 hT.2.2.2 hR.2.2.2.2.2 rfl dJ0_length_8abf5_4 ?_
  refine lv_aload_n (x := G.2.1 i) C.1 C.2.1 dJ0_length_8abf5_5 rfl rfl ?_
  have k0 := sm_V (l := l) (e := e) (below := below) (Z := Z) (z0 := M.1.1) (w0 := M.1.2) (st := [.int (nI (ma_len.getD i 0))]) (As := []) (rl := (lg_sl [.ref (G.2.1 i)] ++ List.replicate (1 - (lg_sl [.ref (G.2.1 i)]).length) Slot.unset).toArray) C dJ0_length_8abf5_6 cl_J0_335 rfl hi (s_cod (d := d) (G := G) (M := M) hi) rfl (Nat.le_of_ble_eq_true rfl) (by simp) (by simp) hR rfl (fun H1 locs1 hR1 => by
    rw [Nat.sub_self, Nat.sub_self]
    refine lv_ishr C.1 C.2.1 dJ0_length_8abf5_9 ?_
    rw [show nI (ma_len.getD i 0) >>> ((0 : Int32) &&& 31) = nI (ma_len.getD i 0) by simp]
    exact hr _ _ 10 _ hR1 ⟨⟨_, rfl, rfl⟩, dJ0_length_8abf5_10⟩)
  rw [Nat.sub_self, Nat.sub_self] at k0
  exact k0
theorem s_chr {d i k : Nat} {G : WG} {M : Mem} (hi : i < 6) (hk : k < ma_len.getD i 0) : SM (d + 3) mJ0_charAt_5068e G [.ref (G.2.1 i), .int (nI k)] M (some (.int ((ma_byt.getD i []).getD k 0))) := by
  refine SM_of (v := some ((ma_byt.getD i []).getD k 0)) (by decide) fun p l e s m below meth c Z C hr hR => ?_
  have hS := C.2.2.2.2.2.1
  have hts := C.2.2.2.2.1
  have hT := hS.2.2.2.1.1 i hi
  obtain ⟨hc1, hc2⟩ := s_ch i hi k hk
  refine lv_aload_n (x := G.2.1 i) C.1 C.2.1 dJ0_charAt_5068e_0 rfl rfl ?_
  have k0 := sm_V (l := l) (e := e) (below := below) (Z := Z) (z0 := M.1.1) (w0 := M.1.2) (st := []) (As := []) (rl := (lg_sl [.ref (G.2.1 i), .int (nI k)] ++ List.replicate (2 - (lg_sl [.ref (G.2.1 i), .int (nI k)]).length) Slot.unset).toArray) C dJ0_charAt_5068e_1 cl_J0_492 rfl hi (s_isl (d := d + 2) (G := G) (M := M) hi) rfl (Nat.le_of_ble_eq_true rfl) (by simp) (by simp) hR rfl (fun H1 locs1 hR1 => by
    refine lv_if_eq (tgt := 16) C.1 C.2.1 dJ0_charAt_5068e_4 rfl (fun h => absurd h (by decide)) fun _ => ?_
    refine lv_aload_n (x := G.2.1 i) C.1 C.2.1 dJ0_charAt_5068e_7 rfl rfl ?_
    refine vk_getf C.1 C.2.1 hT.2.2.1 hR1.2.2.2.2.2 C.2.2.2.1 (hts _ fl_J0_9) (fun _ h => h) dJ0_charAt_5068e_8 ?_
    refine lv_iload_n (x := nI k) C.1 C.2.1 dJ0_charAt_5068e_11 rfl rfl ?_
    exact sm_S (st := []) C dJ0_charAt_5068e_12 cl_J0_495 (s_lat (d := d) (G := G) (M := M) hi hk) rfl (by decide) (by simp) (by simp) hR1 rfl (fun H2 locs2 hR2 => by
      rw [Nat.sub_self, Nat.sub_self]
      exact hr _ _ 15 _ hR2 ⟨⟨_, rfl, hc2⟩, dJ0_charAt_5068e_15⟩))
  rw [Nat.sub_self, Nat.sub_self] at k0
  exact k0
section STR2
variable {nL : Nat} {it : Bool} {d : Nat} {ret : Option FieldType} {X : Option (Nat × (Nat → Int32))} {pc q : Nat} {ls st : List Value} {F : FF} {Q : Option Value → Mem → Prop} {β : Type} {res : β}
theorem A_sLen {B : ByteArray} {idx : Nat} {s : UInt32} {k : Int32 → Option β} (hf : CV RX5 idx mJ0_length_8abf5 0) (hd : decode B pc = .ok (.invokevirtual idx, 3)) (hst : (st.map fun v => v.category).sum ≤ 8) (hq : pc + 3 = q) (h : sLen s k = some res) (hk : ∀ v, k v = some res → V B nL RX5 it (d + 5) ret X 95 2845 q ls (.int v :: st) (mem F) Q) : V B nL RX5 it (d + 5) ret X 95 2845 pc ls (.float s :: st) (mem F) Q := by
  unfold sLen at h
  by_cases hs : s.toNat < 6
  · rw [if_pos hs] at h
    have k1 := hk _ h
    intro G p l e R s' m args below meth c z0 w0 Z C hz hw hr H locs rl hR hL
    subst hq
    exact sm_V (As := []) C hd hf rfl hs (s_len (d := d + 3) hs) rfl hst hz hw hR hL.1 (fun H1 locs1 hR1 => k1 G p l e R s' m args below meth c z0 w0 Z C hz hw hr H1 locs1 rl hR1 hL)
  · rw [if_neg hs] at h
    cases h
theorem A_sAt {B : ByteArray} {idx : Nat} {s : UInt32} {i : Int32} {k : Int32 → Option β} (hf : CV RX5 idx mJ0_charAt_5068e 1) (hd : decode B pc = .ok (.invokevirtual idx, 3)) (hst : (st.map fun v => v.category).sum ≤ 8) (hq : pc + 3 = q) (h : sAt s i k = some res) (hk : ∀ v, k v = some res → V B nL RX5 it (d + 5) ret X 95 2845 q ls (.int v :: st) (mem F) Q) : V B nL RX5 it (d + 5) ret X 95 2845 pc ls (.int i :: .float s :: st) (mem F) Q := by
  unfold sAt at h
  by_cases hs : s.toNat < 6 ∧ 0 ≤ i.toInt ∧ i.toInt < ((ma_len.getD s.toNat 0 : Nat) : Int)
  · rw [if_pos hs] at h
    obtain ⟨h6, h0, h1⟩ := hs
    have hn := s_ln s.toNat h6
    have k1 := hk _ h
    have hc : ix i = i.toInt.toNat := rfl
    have hi : i = nI (ix i) := by
      apply Int32.toInt_inj.mp
      rw [nI_toInt (by omega)]
      omega
    have hix : ix i < ma_len.getD s.toNat 0 := by omega
    intro G p l e R s' m args below meth c z0 w0 Z C hz hw hr H locs rl hR hL
    subst hq
    have k2 := sm_V (l := l) (e := e) (below := below) (Z := Z) (z0 := z0) (w0 := w0) (st := st) (rl := rl) (As := [.int (nI (ix i))]) C hd hf rfl h6 (s_chr (d := d + 1) h6 hix) rfl hst hz hw hR hL.1 (fun H1 locs1 hR1 => k1 G p l e R s' m args below meth c z0 w0 Z C hz hw hr H1 locs1 rl hR1 hL)
    rw [← hi] at k2
    exact k2
  · rw [if_neg hs] at h
    cases h
end STR2
