/-! NEW CELLS, CALLS, THE ENTRY -/
def ma_df (ci : Nat) : List Value := (List.range (Nn ci)).map fun j => defaultValue (tyn ci j)
/-- a method of the tables by its words: a call from class o at entry idx, n arguments -/
def CB (o : String) (idx : Nat) (y : MT) (n : Nat) : Prop :=
  (y.1.cls ≠ "java/lang/invoke/MethodHandle" ∧ y.1.cls ≠ "java/lang/invoke/VarHandle" ∧ (parseMethodDescriptor y.1.desc).map (fun d => d.parameters.length) = some n) ∧ y.2.2.1 ≤ 17 ∧ Cond.methodLink o idx y.1 ∈ ma_tbl ∧ Cond.initialized y.1.cls ∈ ma_tbl ∧ Cond.code y.1 y.2.1 y.2.2.1 y.2.2.2 ∈ ma_tbl
def CV (o : String) (idx : Nat) (y : MT) (n : Nat) : Prop := CB o idx y n ∧ Cond.instanceMethod y.1 ∈ ma_tbl ∧ Cond.selects y.1.cls y.1 y.1 ∈ ma_tbl
def CS (o : String) (idx : Nat) (y : MT) (n : Nat) : Prop := CB o idx y n ∧ Cond.static y.1 ∈ ma_tbl
def CI (o : String) (idx : Nat) (y : MT) (n : Nat) : Prop := CB o idx y n ∧ y.1.name = "<init>" ∧ y.2.2.2 = none ∧ Cond.instanceMethod y.1 ∈ ma_tbl
def CN (o : String) (idx : Nat) (y : MT) (n : Nat) : Prop := (y.1.cls ≠ "java/lang/invoke/MethodHandle" ∧ y.1.cls ≠ "java/lang/invoke/VarHandle" ∧ (parseMethodDescriptor y.1.desc).map (fun d => d.parameters.length) = some n) ∧ y.2.2.1 ≤ 17 ∧ (o = RX6 ∧ (idx, y.1) ∈ ma_nest) ∧ Cond.initialized y.1.cls ∈ ma_tbl ∧ Cond.code y.1 y.2.1 y.2.2.1 y.2.2.2 ∈ ma_tbl ∧ y.1.name = "<init>" ∧ y.2.2.2 = none ∧ Cond.instanceMethod y.1 ∈ ma_tbl
section CALLS
variable {B : ByteArray} {nL : Nat} {o : String} {it : Bool} {d : Nat} {ret : Option FieldType} {X : Option (Nat × (Nat → Int32))} {zm wm pc q : Nat} {ls st : List Value} {M : Mem} {Q : Option Value → Mem → Prop}
theorem V_new {idx ci : Nat} (hd : decode B pc = .ok (.new idx, 3)) (hci : ci < 8) (hl : Cond.classLink o idx (Rn ci) ∈ ma_tbl) (hins : Cond.instantiable (Rn ci) (Nn ci) ∈ ma_tbl) (hini : Cond.initialized (Rn ci) ∈ ma_tbl) (hfs : (ma_df ci).all (fun v => v != .ref 0) = true) (hz1 : M.1.1 + 1 ≤ zm) (hw1 : M.1.2 + Nn ci ≤ wm) (hq : pc + 3 = q) (h : V B nL o it d ret X zm wm q ls (.ref M.1.1 :: st) (ma_new M (Nn ci) (.inr (ci, ma_df ci))) Q) (htv : ∀ G, (ma_df ci).map (ma_tv G) = ma_df ci) : V B nL o it d ret X zm wm pc ls st M Q := by
  intro G p l e R s m args below meth c z0 w0 Z C hz hw hr H locs rl hR hL
  subst hq
  obtain ⟨h1, h2, h3, h4, h5, h6⟩ := id hR
  have hK := C.2.2.2.2.2.1.1
  have hts := C.2.2.2.2.1
  have hclq := ma_cl hci
  have hKn := hK.1 ci _ hclq
  refine W.newcK C.1 C.2.1 C.2.2.2.1 (hts _ hl) (hts _ hins) (hts _ hini) rfl hd (by omega) (by omega) hKn.2.1 rfl fun H1 kC hkC e1 z1 o1 => ?_
  have hfs2 : ∀ j, j < Nn ci → defaultValue (tyn ci j) = vp_V (ma_df ci) j := fun j hj => by
    simp [vp_V, ma_df, hj]
  have k := h G p l e R s m args below meth c z0 w0 Z C hz hw hr H1 locs rl (hR.new (n := Nn ci) (c := .inr (ci, ma_df ci)) z1 o1 (by rw [ma_te_o, htv G]; exact ⟨_, hclq, (u_born (tyn ci) hts (ma_in0 ci hci) hKn hkC e1 (ma_tyn hci)).to hfs2⟩)) hL
  have e2 : (ma_new M (Nn ci) (.inr (ci, ma_df ci))).1.1 - z0 = M.1.1 - z0 + 1 := by show M.1.1 + 1 - z0 = _; omega
  have e3 : (ma_new M (Nn ci) (.inr (ci, ma_df ci))).1.2 - w0 = M.1.2 - w0 + Nn ci := by show M.1.2 + Nn ci - w0 = _; omega
  rw [e2, e3] at k
  have e4 : (List.map (ma_tv G) (.ref M.1.1 :: st)) = .ref H.size :: st.map (ma_tv G) := by rw [h3]; rfl
  rw [e4] at k
  exact k
theorem V_newa {at0 : ArrayType} {t N : Nat} {ty : FieldType} {n : Int32} (hd : decode B pc = .ok (.newarray at0, 2)) (hty : newarray.typeOf at0 = ty) (ht : (t = 0 ∧ ty = .int) ∨ (t = 1 ∧ ty = .byte) ∨ (t = 2 ∧ ty = .boolean)) (hm : Cond.arrayClass ty ∈ ma_tbl) (hn : n = nI N) (hN : N < 2 ^ 20) (hz1 : M.1.1 + 1 ≤ zm) (hw1 : M.1.2 + N ≤ wm) (hq : pc + 2 = q) (h : V B nL o it d ret X zm wm q ls (.ref M.1.1 :: st) (ma_new M N (.inl (t, N, .inl (fun _ => 0)))) Q) : V B nL o it d ret X zm wm pc ls (.int n :: st) M Q := by
  intro G p l e R s m args below meth c z0 w0 Z C hz hw hr H locs rl hR hL
  subst hq
  subst hn
  subst hty
  obtain ⟨h1, h2, h3, h4, h5, h6⟩ := id hR
  have hK := C.2.2.2.2.2.1.1
  have hts := C.2.2.2.2.1
  refine va_newaK C.1 C.2.1 (hts _ hm) rfl hd rfl (nI_pos (by omega)) (nI_clamp (by omega)) (by
    have : componentBytes (newarray.typeOf at0) ≤ 8 := by cases at0 <;> decide
    have := Nat.mul_le_mul (Nat.le_of_lt hN) this
    omega) (by omega) (by omega) rfl fun H1 cA e1 z1 o1 hAr hNm => ?_
  have hcell : cA = G.2.2.2.2 t ∧ (fun _ : Nat => defaultValue (newarray.typeOf at0)) = fun _ => Value.int 0 := by
    rcases ht with ⟨rfl, e⟩ | ⟨rfl, e⟩ | ⟨rfl, e⟩
    · have g := (hK.2 0 _ rfl).2
      rw [e] at hNm ⊢
      exact ⟨Option.some.inj (hNm.symm.trans g), rfl⟩
    · have g := (hK.2 1 _ rfl).2
      rw [e] at hNm ⊢
      exact ⟨Option.some.inj (hNm.symm.trans g), rfl⟩
    · have g := (hK.2 2 _ rfl).2
      rw [e] at hNm ⊢
      exact ⟨Option.some.inj (hNm.symm.trans g), rfl⟩
  rw [hcell.1, hcell.2] at e1
  have k := h G p l e R s m args below meth c z0 w0 Z C hz hw hr H1 locs rl (hR.new (n := N) (c := .inl (t, N, .inl (fun _ => 0))) z1 o1 e1) hL
  have e2 : (ma_new M N (.inl (t, N, .inl (fun _ => 0)))).1.1 - z0 = M.1.1 - z0 + 1 := by show M.1.1 + 1 - z0 = _; omega
  have e3 : (ma_new M N (.inl (t, N, .inl (fun _ => 0)))).1.2 - w0 = M.1.2 - w0 + N := by show M.1.2 + N - w0 = _; omega
  rw [e2, e3] at k
  have e4 : (List.map (ma_tv G) (.ref M.1.1 :: st)) = .ref H.size :: st.map (ma_tv G) := by rw [h3]; rfl
  rw [e4] at k
  exact k
theorem V_anew {idx ci t N : Nat} {n : Int32} (hd : decode B pc = .ok (.anewarray idx, 3)) (ht : (t = 3 ∧ ci = 0) ∨ (t = 4 ∧ ci = 3) ∨ (t = 5 ∧ ci = 4)) (hl : Cond.classLink o idx (Rn ci) ∈ ma_tbl) (hn : n = nI N) (hN : N < 2 ^ 20) (hz1 : M.1.1 + 1 ≤ zm) (hw1 : M.1.2 + N ≤ wm) (hq : pc + 3 = q) (h : V B nL o it d ret X zm wm q ls (.ref M.1.1 :: st) (ma_new M N (.inl (t, N, .inr (fun _ => none)))) Q) : V B nL o it d ret X zm wm pc ls (.int n :: st) M Q := by
  intro G p l e R s m args below meth c z0 w0 Z C hz hw hr H locs rl hR hL
  subst hq
  subst hn
  obtain ⟨h1, h2, h3, h4, h5, h6⟩ := id hR
  have hK := C.2.2.2.2.2.1.1
  have hts := C.2.2.2.2.1
  have hao := C.2.2.2.2.2.1.2.1
  have hov : va_AO (Rn ci) s := by
    rcases ht with ⟨-, rfl⟩ | ⟨-, rfl⟩ | ⟨-, rfl⟩
    · exact hao.1
    · exact hao.2.1
    · exact hao.2.2
  have hcl : (nI N).toNatClampNeg = N := nI_clamp (by omega)
  refine W.anew C.1 C.2.1 C.2.2.2.1 (hts _ hl) (va_AO.use hov) rfl hd rfl (nI_pos (by omega)) (by rw [hcl]; omega) (by omega) (by rw [hcl]; omega) fun cA kA comp f1 f2 f3 f4 => ?_
  rw [hcl]
  generalize hH1 : H.push ({ cls := cA, slots := Array.replicate N .null, vm := .none } : Cell) = H1
  have z1 : H1.size = H.size + 1 := by rw [← hH1, Array.size_push]
  have e1 : H1[H.size]? = some (arrV cA N (fun _ => .null)) := by rw [← hH1, Array.getElem?_push_size, ← arrV_new]
  have o1 : ∀ q : Nat, q < H.size → H1[q]? = H[q]? := fun q hq => by rw [← hH1, Array.getElem?_push, if_neg (Nat.ne_of_lt hq)]
  have hcell : cA = G.2.2.2.2 t := by
    rcases ht with ⟨rfl, rfl⟩ | ⟨rfl, rfl⟩ | ⟨rfl, rfl⟩
    · obtain ⟨_, _, -, -, -, g⟩ := (hK.2 3 _ rfl).2
      exact Option.some.inj (f1.symm.trans g)
    · obtain ⟨_, _, -, -, -, g⟩ := (hK.2 4 _ rfl).2
      exact Option.some.inj (f1.symm.trans g)
    · obtain ⟨_, _, -, -, -, g⟩ := (hK.2 5 _ rfl).2
      exact Option.some.inj (f1.symm.trans g)
  rw [hcell] at e1
  have k := h G p l e R s m args below meth c z0 w0 Z C hz hw hr H1 locs rl (hR.new (n := N) (c := .inl (t, N, .inr (fun _ => none))) z1 o1 e1) hL
  have e2 : (ma_new M N (.inl (t, N, .inr (fun _ => none)))).1.1 - z0 = M.1.1 - z0 + 1 := by show M.1.1 + 1 - z0 = _; omega
  have e3 : (ma_new M N (.inl (t, N, .inr (fun _ => none)))).1.2 - w0 = M.1.2 - w0 + N := by show M.1.2 + N - w0 = _; omega
  rw [e2, e3] at k
  have e4 : (List.map (ma_tv G) (.ref M.1.1 :: st)) = .ref H.size :: st.map (ma_tv G) := by rw [h3]; rfl
  rw [e4] at k
  exact k
theorem V_aast {a b n j t ci : Nat} {fs : List Value} {f : Nat → Option Nat} {i : Int32} (hd : decode B pc = .ok (.aastore, 1)) (hc : M.2 a = some (.inl (t, n, .inr f))) (hb : M.2 b = some (.inr (ci, fs))) (ht : (t = 3 ∧ ci = 0) ∨ (t = 4 ∧ ci = 3) ∨ (t = 5 ∧ ci = 4)) (hi : i = nI j) (hj : j < n) (hn : n < 2 ^ 31) (hq : pc + 1 = q) (h : V B nL o it d ret X zm wm q ls st (ma_put M a (.inl (t, n, .inr (va_up f j (some b))))) Q) : V B nL o it d ret X zm wm pc ls (.ref b :: .int i :: .ref a :: st) M Q := by
  intro G p l e R s m args below meth c z0 w0 Z C hz hw hr H locs rl hR hL
  subst hq
  subst hi
  obtain ⟨h1, h2, h3, h4, h5, h6⟩ := id hR
  have hK := C.2.2.2.2.2.1.1
  have he := ma_lm_get (G := G) hc h5
  have heb := ma_lm_get (G := G) hb h5
  have hci : ci < 8 := by omega
  have hclq := ma_cl hci
  have ht2 : (ma_tys G.2.2.2.2)[t]? = some (G.2.2.2.2 t, .object (Rn ci)) := by
    rcases ht with ⟨rfl, rfl⟩ | ⟨rfl, rfl⟩ | ⟨rfl, rfl⟩ <;> rfl
  obtain ⟨r', hr', cellV, g1, g2, g3, -⟩ := h4 b _ heb
  have hcls := (hK.1 ci _ hclq).2
  obtain ⟨kA, comp, k1, k2, k3, -⟩ := (hK.2 t _ ht2).2
  have hcomp : comp = G.2.2.2.1.1 ci := Option.some.inj (k3.symm.trans hcls.1)
  subst hcomp
  obtain ⟨kC, hkC, -⟩ := hcls.2
  refine W.aast C.1 C.2.1 (h4 a _ he) (fun q h => by cases h) (fun h => by cases h) k1 k2 rfl hkC ⟨nI_pos (by omega), by show _ < (arrV _ _ _).slots.size; rw [arrV_size, nI_clamp (by omega)]; exact hj⟩ g1 (fun q h => by rw [g3] at h; cases h) (by rw [g2]; exact hkC) (by rw [g2]; exact va_assign hcls) rfl rfl hd fun H1 e1 z1 oq => ?_
  rw [nI_clamp (n := j) (by omega)] at e1 ⊢
  have ecell : (vp_cell (G.2.2.2.2 t) (n, .inr (.inr (.inr (.inr (fun j => (f j).map (fun k => G.1 + k))))))).setSlot j (.ref (G.1 + b)) = vp_cell (G.2.2.2.2 t) (n, .inr (.inr (.inr (.inr (fun j' => (va_up f j (some b) j').map (fun k => G.1 + k)))))) := by
    rw [vp_cell_q, vp_cell_q, arrV_store]
    congr 1
    funext x
    by_cases hx : x = j
    · subst hx
      simp [updV, va_up, va_rf]
    · simp [updV, va_up, hx]
  have e2 := e1.trans (congrArg some ecell)
  exact h G p l e R s m args below meth c z0 w0 Z C hz hw hr H1 _ rl (hR.put (c := .inl (t, n, .inr (va_up f j (some b)))) (h5 a _ hc) rfl (h4.set ma_lm_D he e2 oq) (h6.put z1 oq (Nat.le_add_right _ _)) z1) hL
theorem V_objInit {idx a : Nat} (hd : decode B pc = .ok (.invokespecial idx, 3)) (hl : Cond.methodLink o idx Lib.objectInit ∈ ma_tbl) (h1 : Cond.instanceMethod Lib.objectInit ∈ ma_tbl) (h2 : Cond.code Lib.objectInit ⟨#[0xb1]⟩ 1 none ∈ ma_tbl) (hst : (st.map fun v => v.category).sum ≤ 8) (hq : pc + 3 = q) (h : V B nL o it (d + 1) ret X zm wm q ls st M Q) : V B nL o it (d + 1) ret X zm wm pc ls (.ref a :: st) M Q := by
  intro G p l e R s m args below meth c z0 w0 Z C hz hw hr H locs rl hR hL
  subst hq
  have hts := C.2.2.2.2.1
  have hro := C.2.2.2.2.2.2.1
  exact W.objInit C.1 C.2.1 C.2.2.2.1 (hts _ hl) (hts _ h1) (hts _ h2) rfl (by rw [C.2.2.1]; exact hL.1) rfl hd (by omega) (by
    have e1 := ma_sum G st
    show 2 * 0 + _ + 12 ≤ _
    omega) (h G p l e R s m args below meth c z0 w0 Z C hz hw hr H locs rl hR hL)
/-- behind a call -/
theorem ma_after {G : WG} {p : Program} {l : Launch} {e : Env} {R : Room} {s : State} {m : MethodId} {args : Array Value} {below : List Frame} {meth : Method} {c : Code} {z0 w0 : Nat} {Z : State → Prop} {H : Heap} {locs : List Loc} {rl : Array Slot} {M' : Mem} {r : Option Value} {av : Array Value} {st0 : List Value}
    (hR : ma_R G s z0 w0 M H locs) (hz2 : M.1.1 ≤ M'.1.1) (hw2 : M.1.2 ≤ M'.1.2)
    (hrun : va_Run p l e R s m args below meth c H locs (M.1.1 - z0) (M.1.2 - w0) (M'.1.1 - M.1.1) (M'.1.2 - M.1.2) (F0 m pc rl st0) (st.map (ma_tv G)) (ma_Q G r M' av) (ma_A G))
    (k : ∀ (H1 : Heap) (locs1 : List Loc), ma_R G s z0 w0 M' H1 locs1 → W p l e R s m args below meth c H1 locs1 (M'.1.1 - z0) (M'.1.2 - w0) Z (F0 m (pc + 3) rl ((r.toList ++ st).map (ma_tv G)))) : W p l e R s m args below meth c H locs (M.1.1 - z0) (M.1.2 - w0) Z (F0 m pc rl st0) := by
  intro T hT Y
  obtain ⟨h1, h2, h3, h4, h5, h6⟩ := hR
  obtain ⟨v, st₀, t, T', L, e0, Y', hL', e1, e2, ⟨⟨hv, hsz, hP, hwf⟩, hF⟩, hgo⟩ := hrun T hT Y
  have hv' : v = r.map (ma_tv G) := by cases hv; rfl
  subst hv'
  obtain ⟨f1, f2⟩ := hF
  rw [e0] at f1 f2
  have c1 : M.1.1 - z0 + (M'.1.1 - M.1.1) = M'.1.1 - z0 := by omega
  have c2 : M.1.2 - w0 + (M'.1.2 - M.1.2) = M'.1.2 - w0 := by omega
  rw [c1, c2] at Y'
  have kk := k T'.heap (locs ++ L) ⟨Nat.le_trans h1 hz2, Nat.le_trans h2 hw2, by rw [e1]; exact hsz, by rw [e1]; exact hP, hwf, ⟨Nat.le_trans h6.1 (by rw [e1]; exact f1), fun x g1 g2 => by rw [e1, f2 x (Nat.lt_of_lt_of_le g1 h6.1) g2]; exact h6.2.1 x g1 g2, fun x hx => by
    rcases List.mem_append.mp hx with hx | hx
    · exact h6.2.2 x hx
    · exact hL' x hx⟩⟩
  have e3 : (r.toList ++ st).map (ma_tv G) = (r.map (ma_tv G)).toList ++ st.map (ma_tv G) := by cases r <;> rfl
  rw [e3] at kk
  obtain ⟨t2, a1, b1⟩ := kk T' rfl Y'
  exact ⟨t2, hgo t2 a1, b1⟩
theorem ma_pre {G : WG} {s : State} {z0 w0 : Nat} {H : Heap} {locs : List Loc} {As : List Value} (hR : ma_R G s z0 w0 M H locs) (hS : ma_S G s s.heap) : PreS s H (va_Pc (As.map (ma_tv G)) (fun U => ma_W G M U ∧ ma_S G U U.heap)) (As.map (ma_tv G)) := by
  obtain ⟨h1, h2, h3, h4, h5, h6⟩ := hR
  refine ⟨fun a U g mk q => ⟨q.1, q.2.1, ma_S.same q.2.2 rfl⟩, fun U hU hW => ⟨rfl, ⟨by rw [hU]; exact h3, by rw [hU]; exact h4, h5⟩, hS.warm hW (fun x g1 g2 => by rw [hU]; exact h6.2.1 x g1 g2)⟩⟩
theorem ma_callB {G : WG} {R : Room} {s : State} {args : Array Value} {idx n : Nat} {y : MT} {M' : Mem} (hts : ∀ w ∈ ma_tbl, w.before args s = true) (hc : CB o idx y n) (hro : d + 1 ≤ R.frames ∧ 36 * (d + 1) ≤ R.locals) : CallB R s args o idx y.1 y.2.1 y.2.2.1 y.2.2.2 (.code y.1 y.2.1 y.2.2.1 y.2.2.2 :: ma_tbl) { frames := d, cells := M'.1.1 - M.1.1, slots := M'.1.2 - M.1.2, locals := 36 * d } (M'.1.1 - M.1.1) (M'.1.2 - M.1.2) n :=
  callB_of n hts (ma_good hc.2.2.2.2) rfl rfl rfl (hts _ hc.2.2.2.1) (hts _ hc.2.2.1) hc.1 ⟨hro.1, by show 8 + (y.2.2.1 + 11) + 36 * d ≤ R.locals; have := hc.2.1; have := hro.2; omega⟩
theorem V_callV {idx n ci a : Nat} {y : MT} {As fs st0 : List Value} {r : Option Value} {M' : Mem} (hd : decode B pc = .ok (.invokevirtual idx, 3)) (hf : CV o idx y n) (hc : M.2 a = some (.inr (ci, fs))) (hci : ci < 8) (hcl : Rn ci = y.1.cls) (hM : Cl d y (.ref a :: As) M r M') (hn : As.length = n) (hs : st0 = As.reverse ++ .ref a :: st) (hst : (st.map fun v => v.category).sum ≤ 8) (hz1 : M'.1.1 ≤ zm) (hw1 : M'.1.2 ≤ wm) (hq : pc + 3 = q) (h : V B nL o it (d + 1) ret X zm wm q ls (r.toList ++ st) M' Q) : V B nL o it (d + 1) ret X zm wm pc ls st0 M Q := by
  intro G p l e R s m args below meth c z0 w0 Z C hz hw hr H locs rl hR hL
  subst hq
  subst hs
  have hts := C.2.2.2.2.1
  have hS := C.2.2.2.2.2.1
  obtain ⟨g1, g2, g3, g4, g5, g6⟩ := id hR
  have hm1 := hM.1
  have hm2 := hM.2.1
  have hp := ma_pre (As := .ref a :: As) hR hS
  refine ma_after (r := r) (M' := M') hR hM.1 hM.2.1 (av := ((Value.ref a :: As).map (ma_tv G)).toArray) ?_ (fun H1 locs1 hR1 => h G p l e R s m args below meth c z0 w0 Z C hz hw hr H1 locs1 rl hR1 hL)
  exact va_runV (C := y.1.cls) (b := G.1 + a) (As := As.map (ma_tv G)) ⟨C.1, C.2.1, C.2.2.1, C.2.2.2.1, hts⟩ (hM.2.2 l G) ⟨ma_callB (G := G) hts hf.1 C.2.2.2.2.2.2.1, hts _ hf.2.1, hts _ hf.2.2⟩ ⟨hp.1, by rw [← hcl]; exact va_recv hS.1 g4 (ma_cl hci) (ma_lm_get hc g5), hp.2⟩ rfl (by rw [List.length_map]; exact hn) hL.1 (by simp [ma_tv]) (lv_room (by rw [ma_sum]; exact hst)) hd ⟨by omega, by omega⟩
theorem V_callS {idx n : Nat} {y : MT} {As st0 : List Value} {r : Option Value} {M' : Mem} (hd : decode B pc = .ok (.invokestatic idx, 3)) (hf : CS o idx y n) (hM : Cl d y As M r M') (hn : As.length = n) (hs : st0 = As.reverse ++ st) (hst : (st.map fun v => v.category).sum ≤ 8) (hz1 : M'.1.1 ≤ zm) (hw1 : M'.1.2 ≤ wm) (hq : pc + 3 = q) (h : V B nL o it (d + 1) ret X zm wm q ls (r.toList ++ st) M' Q) : V B nL o it (d + 1) ret X zm wm pc ls st0 M Q := by
  intro G p l e R s m args below meth c z0 w0 Z C hz hw hr H locs rl hR hL
  subst hq
  subst hs
  have hts := C.2.2.2.2.1
  have hS := C.2.2.2.2.2.1
  obtain ⟨g1, g2, g3, g4, g5, g6⟩ := id hR
  have hm1 := hM.1
  have hm2 := hM.2.1
  refine ma_after (r := r) (M' := M') hR hM.1 hM.2.1 (av := (As.map (ma_tv G)).toArray) ?_ (fun H1 locs1 hR1 => h G p l e R s m args below meth c z0 w0 Z C hz hw hr H1 locs1 rl hR1 hL)
  exact va_runS (As := As.map (ma_tv G)) ⟨C.1, C.2.1, C.2.2.1, C.2.2.2.1, hts⟩ (hM.2.2 l G) ⟨ma_callB (G := G) hts hf.1 C.2.2.2.2.2.2.1, hts _ hf.2⟩ (ma_pre hR hS) rfl (by rw [List.length_map]; exact hn) hL.1 (by simp) (lv_room (by rw [ma_sum]; exact hst)) hd ⟨by omega, by omega⟩
theorem V_callI {idx n a : Nat} {y : MT} {As st0 : List Value} {M' : Mem} (hd : decode B pc = .ok (.invokespecial idx, 3)) (hf : CI o idx y n) (hM : Cl d y (.ref a :: As) M none M') (hn : As.length = n) (hs : st0 = As.reverse ++ .ref a :: st) (hst : (st.map fun v => v.category).sum ≤ 8) (hz1 : M'.1.1 ≤ zm) (hw1 : M'.1.2 ≤ wm) (hq : pc + 3 = q) (h : V B nL o it (d + 1) ret X zm wm q ls st M' Q) : V B nL o it (d + 1) ret X zm wm pc ls st0 M Q := by
  intro G p l e R s m args below meth c z0 w0 Z C hz hw hr H locs rl hR hL
  subst hq
  subst hs
  have hts := C.2.2.2.2.1
  have hS := C.2.2.2.2.2.1
  obtain ⟨g1, g2, g3, g4, g5, g6⟩ := id hR
  have hm1 := hM.1
  have hm2 := hM.2.1
  obtain ⟨⟨y1, y2, y3, y4⟩, hyy⟩ : ∃ z : MT, y = z := ⟨y, rfl⟩
  subst hyy
  obtain ⟨hf1, hf2, hf3, hf4⟩ := hf
  cases (show y4 = none from hf3)
  refine ma_after (r := none) (M' := M') hR hM.1 hM.2.1 (av := ((Value.ref a :: As).map (ma_tv G)).toArray) ?_ (fun H1 locs1 hR1 => h G p l e R s m args below meth c z0 w0 Z C hz hw hr H1 locs1 rl hR1 hL)
  exact va_runI (b := G.1 + a) (As := As.map (ma_tv G)) ⟨C.1, C.2.1, C.2.2.1, C.2.2.2.1, hts⟩ (hM.2.2 l G) ⟨ma_callB (G := G) hts hf1 C.2.2.2.2.2.2.1, hf2, hts _ hf4⟩ (ma_pre (As := .ref a :: As) hR hS) rfl (by rw [List.length_map]; exact hn) hL.1 (by simp [ma_tv]) (lv_room (by rw [ma_sum]; exact hst)) hd ⟨by omega, by omega⟩
theorem V_callN {idx n a : Nat} {y : MT} {As st0 : List Value} {M' : Mem} (hd : decode B pc = .ok (.invokespecial idx, 3)) (hf : CN o idx y n) (hM : Cl d y (.ref a :: As) M none M') (hn : As.length = n) (hs : st0 = As.reverse ++ .ref a :: st) (hst : (st.map fun v => v.category).sum ≤ 8) (hz1 : M'.1.1 ≤ zm) (hw1 : M'.1.2 ≤ wm) (hq : pc + 3 = q) (h : V B nL o it (d + 1) ret X zm wm q ls st M' Q) : V B nL o it (d + 1) ret X zm wm pc ls st0 M Q := by
  intro G p l e R s m args below meth c z0 w0 Z C hz hw hr H locs rl hR hL
  subst hq
  subst hs
  have hts := C.2.2.2.2.1
  have hS := C.2.2.2.2.2.1
  obtain ⟨g1, g2, g3, g4, g5, g6⟩ := id hR
  have hm1 := hM.1
  have hm2 := hM.2.1
  obtain ⟨⟨y1, y2, y3, y4⟩, hyy⟩ : ∃ z : MT, y = z := ⟨y, rfl⟩
  subst hyy
  obtain ⟨hf1, hf2, ⟨hf3, hf4⟩, hf5, hf6, hf7, hf8, hf9⟩ := hf
  subst hf3
  cases (show y4 = none from hf8)
  have hro := C.2.2.2.2.2.2.1
  refine ma_after (r := none) (M' := M') hR hM.1 hM.2.1 (av := ((Value.ref a :: As).map (ma_tv G)).toArray) ?_ (fun H1 locs1 hR1 => h G p l e R s m args below meth c z0 w0 Z C hz hw hr H1 locs1 rl hR1 hL)
  exact va_runIN (b := G.1 + a) (As := As.map (ma_tv G)) ⟨C.1, C.2.1, C.2.2.1, C.2.2.2.1, hts⟩ (hM.2.2 l G) ⟨va_cnB n hts (ma_good hf6) rfl rfl rfl (hS.2.2.1 _ hf4) (hts _ hf5) hf1 ⟨hro.1, by show 8 + (y3 + 11) + 36 * d ≤ R.locals; have h9 : y3 ≤ 17 := hf2; have := hro.2; omega⟩, hf7, hts _ hf9⟩ (ma_pre (As := .ref a :: As) hR hS) rfl (by rw [List.length_map]; exact hn) hL.1 (by simp [ma_tv]) (lv_room (by rw [ma_sum]; exact hst)) hd ⟨by omega, by omega⟩
theorem V_sld {L j : Nat} {xs : Nat → Int32} {i : Int32} (hX : X = some (L, xs)) (hd : decode B pc = .ok (.iaload, 1)) (hi : i = nI j) (hj : j < L) (hn : L < 2 ^ 31) (hq : pc + 1 = q) (h : V B nL o it d ret X zm wm q ls (.int (xs j) :: st) M Q) : V B nL o it d ret X zm wm pc ls (.int i :: .float 1000 :: st) M Q := by
  intro G p l e R s m args below meth c z0 w0 Z C hz hw hr H locs rl hR hL
  subst hq
  subst hi
  obtain ⟨h1, h2, h3, h4, h5, h6⟩ := id hR
  obtain ⟨hx, hb⟩ := C.2.2.2.2.2.2.2.2.2.2.2 _ hX
  have hG := C.2.2.2.2.2.2.2.2.2.2.1
  have k := h G p l e R s m args below meth c z0 w0 Z C hz hw hr H locs rl hR hL
  rw [← nI_clamp (n := j) (by omega)] at k
  exact va_sld (A := ma_A G) (b := G.2.1 1000) C.1 C.2.1 hx (by omega) (by show ¬ G.1 ≤ _; omega) h6 (vp_in_nI hj hn) hd k
theorem V_slen {L : Nat} {xs : Nat → Int32} (hX : X = some (L, xs)) (hd : decode B pc = .ok (.arraylength, 1)) (hq : pc + 1 = q) (h : V B nL o it d ret X zm wm q ls (.int (nI L) :: st) M Q) : V B nL o it d ret X zm wm pc ls (.float 1000 :: st) M Q := by
  intro G p l e R s m args below meth c z0 w0 Z C hz hw hr H locs rl hR hL
  subst hq
  obtain ⟨h1, h2, h3, h4, h5, h6⟩ := id hR
  obtain ⟨hx, hb⟩ := C.2.2.2.2.2.2.2.2.2.2.2 _ hX
  have hG := C.2.2.2.2.2.2.2.2.2.2.1
  exact va_slen (A := ma_A G) (b := G.2.1 1000) C.1 C.2.1 hx (by omega) (by show ¬ G.1 ≤ _; omega) h6 hd (h G p l e R s m args below meth c z0 w0 Z C hz hw hr H locs rl hR hL)
end CALLS
