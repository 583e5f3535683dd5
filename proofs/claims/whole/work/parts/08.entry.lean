/-! THE ENTRY: a walk from pc 0 gives the contract -/
def ma_fl (args : List Value) : List Value := args.flatMap fun v => if v.category = 2 then [v, .null] else [v]
def ma_ent (nL : Nat) (args : List Value) : List Value := ma_fl args ++ List.replicate (nL - (ma_fl args).length) .null
theorem ma_fl_len (G : WG) : ∀ args : List Value, (lg_sl (args.map (ma_tv G))).length = (ma_fl args).length
  | [] => rfl
  | v :: args => by
    have ih := ma_fl_len G args
    simp only [lg_sl, ma_fl, List.map_cons, List.flatMap_cons, List.length_append, ma_cat] at ih ⊢
    by_cases hc : v.category = 2
    · simp only [hc, if_true, List.length_cons, List.length_nil]
      omega
    · simp only [hc, if_false, List.length_cons, List.length_nil]
      omega
theorem ma_fl_at (G : WG) : ∀ (args : List Value) (i : Nat) (v : Value), (ma_fl args)[i]? = some v → v ≠ .null → (lg_sl (args.map (ma_tv G)))[i]? = some (.val (ma_tv G v))
  | [], i, v => by simp [ma_fl]
  | a :: args, i, v => by
    have ih := ma_fl_at G args
    intro h hv
    have e1 : ma_fl (a :: args) = (if a.category = 2 then [a, .null] else [a]) ++ ma_fl args := by simp [ma_fl]
    have e2 : lg_sl ((a :: args).map (ma_tv G)) = (if a.category = 2 then [.val (ma_tv G a), .second] else [.val (ma_tv G a)]) ++ lg_sl (args.map (ma_tv G)) := by simp [lg_sl, ma_cat]
    rw [e1] at h
    rw [e2]
    by_cases hc : a.category = 2
    · rw [if_pos hc] at h ⊢
      match i with
      | 0 =>
        simp at h
        simp [h]
      | 1 =>
        simp at h
        exact absurd h.symm hv
      | i + 2 =>
        simp at h
        simpa using ih i v h hv
    · rw [if_neg hc] at h ⊢
      match i with
      | 0 =>
        simp at h
        simp [h]
      | i + 1 =>
        simp at h
        simpa using ih i v h hv
theorem ma_L_ent {G : WG} {nL : Nat} {args : List Value} (hfit : (ma_fl args).length ≤ nL) : ma_L G nL (ma_ent nL args) ((lg_sl (args.map (ma_tv G)) ++ List.replicate (nL - (lg_sl (args.map (ma_tv G))).length) Slot.unset).toArray) := by
  have hl := lv_entry (args.map (ma_tv G)) (n := nL) (by rw [ma_fl_len]; exact hfit)
  refine ⟨hl.1, hl.2.1, ?_, fun i v h hv => ?_⟩
  · simp [ma_ent]
    omega
  · simp only [List.getElem?_toArray]
    by_cases hi : i < (ma_fl args).length
    · rw [List.getElem?_append_left (by rw [ma_fl_len]; exact hi)]
      rw [ma_ent, List.getElem?_append_left hi] at h
      exact ma_fl_at G args i v h hv
    · rw [ma_ent, List.getElem?_append_right (by omega)] at h
      have := List.getElem?_eq_some_iff.mp h
      obtain ⟨h1, h2⟩ := this
      simp at h2
      exact absurd h2.symm hv
theorem Cl_of_V {d : Nat} {y : MT} {it : Bool} {args : List Value} {M M' : Mem} {r : Option Value} (hy : plainName y.1.cls = true) (hit : it = true → y.1.name = "<init>") (hfit : (ma_fl args).length ≤ y.2.2.1) (hz : M.1.1 ≤ M'.1.1) (hw : M.1.2 ≤ M'.1.2)
    (h : V y.2.1 y.2.2.1 y.1.cls it d y.2.2.2 none M'.1.1 M'.1.2 0 (ma_ent y.2.2.1 args) [] M (fun r' M'' => r' = r ∧ M'' = M')) : Cl d y args M r M' := by
  refine ⟨hz, hw, fun l G => ?_⟩
  refine Met.ofW (cc := y.2.1) (maxL := y.2.2.1) (ret := y.2.2.2) hy rfl ?_
  intro p e s m args' below meth c s₁ Bd hml hv
  obtain ⟨rfl, ⟨hW1, hW2, hW3⟩, hS⟩ := hv
  have hts := atoms_spec (ws := .code y.1 y.2.1 y.2.2.1 y.2.2.2 :: ma_tbl) Bd.pre
  have hown : s.vm.findClass y.1.cls = some m.cls := findClass_of_methodNamed Bd.named
  have hlocks := Bd.notSynchronized
  have hname : meth.name = y.1.name := (name_of_methodNamed Bd.named Bd.method).1
  rw [lg_entry_eq]
  have key := h G p l e { frames := d, cells := M'.1.1 - M.1.1, slots := M'.1.2 - M.1.2, locals := 36 * d } s m ((args.map (ma_tv G)).toArray) below meth c M.1.1 M.1.2 (MQ below (ma_Q G r M') ((args.map (ma_tv G)).toArray) s (M'.1.1 - M.1.1) (M'.1.2 - M.1.2) (ma_A G))
    ⟨Bd.exec, Bd.bytes, hml, hown, fun w hw => hts w (List.mem_cons_of_mem _ hw), hS, ⟨Nat.le_refl _, Nat.le_refl _⟩, Bd.returns, hlocks, fun e => hname.trans (hit e), by rw [hW1]; exact Nat.le_add_right _ _, fun _ e => by cases e⟩ (Nat.le_refl _) (Nat.le_refl _)
    (fun r' M2 H' locs' pc' rl' hR hQ hV => by
      obtain ⟨rfl, rfl⟩ := hQ
      obtain ⟨g1, g2, g3, g4, g5, g6⟩ := hR
      match r', hV with
      | none, hV => exact W.vret Bd.exec Bd.bytes (Bd.returns.trans hV.1) (fun t ht hWm => ⟨⟨rfl, by rw [ht]; exact g3, by rw [ht]; exact g4, g5⟩, g6.F ht⟩) g6.2.2 hV.2 hlocks
      | some (.int v), hV =>
        obtain ⟨⟨ty, e1, e2⟩, e3⟩ := hV
        exact W.zret Bd.exec Bd.bytes (Bd.returns.trans e1) e2 (fun t ht hWm => ⟨⟨rfl, by rw [ht]; exact g3, by rw [ht]; exact g4, g5⟩, g6.F ht⟩) g6.2.2 e3 hlocks
      | some (.long v), hV => exact W.lret Bd.exec Bd.bytes (Bd.returns.trans hV.1) (fun t ht hWm => ⟨⟨rfl, by rw [ht]; exact g3, by rw [ht]; exact g4, g5⟩, g6.F ht⟩) g6.2.2 hV.2 hlocks)
    s.heap [] _ ⟨Nat.le_refl _, Nat.le_refl _, hW1, hW2, hW3, va_S.rf⟩ (ma_L_ent hfit)
  rw [Nat.sub_self, Nat.sub_self] at key
  exact key
/-- System.arraycopy of rows of ints -/
theorem V_copy {B : ByteArray} {nL : Nat} {o : String} {it : Bool} {d : Nat} {ret : Option FieldType} {X : Option (Nat × (Nat → Int32))} {zm wm pc q : Nat} {ls st : List Value} {M : Mem} {Q : Option Value → Mem → Prop} {idx a0 a n0 n1 N : Nat} {f g : Nat → Int32} {n sp dp : Int32} (hd : decode B pc = .ok (.invokestatic idx, 3)) (hl : Cond.methodLink o idx arraycopyName ∈ ma_tbl) (hl2 : Cond.native arraycopyName ∈ ma_tbl) (hl3 : Cond.static arraycopyName ∈ ma_tbl) (hl4 : Cond.initialized "java/lang/System" ∈ ma_tbl)
    (hc0 : M.2 a0 = some (.inl (0, n0, .inl f))) (hc1 : M.2 a = some (.inl (0, n1, .inl g))) (hsp : sp = 0) (hdp : dp = 0) (hn : n = nI N) (hN : N ≤ n0 ∧ N ≤ n1 ∧ N < 2 ^ 31) (hst : st = []) (hq : pc + 3 = q) (h : V B nL o it (d + 1) ret X zm wm q ls [] (ma_put M a (.inl (0, n1, .inl (va_cpy f g 0 0 N)))) Q) : V B nL o it (d + 1) ret X zm wm pc ls (.int n :: .int dp :: .ref a :: .int sp :: .ref a0 :: st) M Q := by
  intro G p l e R s m args below meth c z0 w0 Z C hz hw hr H locs rl hR hL
  subst hq
  subst hst
  subst hsp
  subst hdp
  subst hn
  obtain ⟨h1, h2, h3, h4, h5, h6⟩ := id hR
  have hK := C.2.2.2.2.2.1.1
  have hts := C.2.2.2.2.1
  have hro := C.2.2.2.2.2.2.1
  have he0 := ma_lm_get (G := G) hc0 h5
  have he1 := ma_lm_get (G := G) hc1 h5
  have hcl : (nI N).toNatClampNeg = N := nI_clamp (by omega)
  have hcl0 : (0 : Int32).toNatClampNeg = 0 := by decide
  intro T hT Y
  have hb0 : H[G.1 + a0]? = some (vp_cell (G.2.2.2.2 0) (n0, .inl f)) := h4 a0 _ he0
  have hb1 : H[G.1 + a]? = some (vp_cell (G.2.2.2.2 0) (n1, .inl g)) := h4 a _ he1
  obtain ⟨-, k0, hk0, cm0, hkk0⟩ := (hK.2 0 _ rfl).1 n0 (fun j => .int (f j))
  obtain ⟨-, k1, hk1, cm1, hkk1⟩ := (hK.2 0 _ rfl).1 n1 (fun j => .int (g j))
  obtain ⟨vm', Y', step⟩ := Y.arraycopy C.1 C.2.2.2.1 (hts _ hl) (hts _ hl2) (hts _ hl3) (hts _ hl4) (src := G.1 + a0) (dst := G.1 + a) (cs := vp_cell (G.2.2.2.2 0) (n0, .inl f)) (cd := vp_cell (G.2.2.2.2 0) (n1, .inl g)) (srcPos := 0) (destPos := 0) (n := nI N) (by rw [hT]; exact hb0) (by rw [hT]; exact hb1)
    (fun _ h => by cases h) (fun _ h => by cases h) (fun h => by cases h) (fun h => by cases h) hk0 hk1 hkk0 hkk1 rfl (by decide) (by decide) (nI_pos (by omega))
    (by rw [nI_toInt (by omega)]; show ¬ _ > ((arrV (G.2.2.2.2 0) n0 (fun j => .int (f j))).slots.size : Int); rw [arrV_size]; show ¬ (0 : Int) + (N : Int) > _; omega)
    (by rw [nI_toInt (by omega)]; show ¬ _ > ((arrV (G.2.2.2.2 0) n1 (fun j => .int (g j))).slots.size : Int); rw [arrV_size]; show ¬ (0 : Int) + (N : Int) > _; omega)
    (fun vm₁ _ i hi => by
      have e : (vp_cell (G.2.2.2.2 0) (n0, .inl f)).slots.getD ((0 : Int32).toNatClampNeg + i) .null = .int (f ((0 : Int32).toNatClampNeg + i)) := by
        show (arrV (G.2.2.2.2 0) n0 (fun j => .int (f j))).slots.getD _ _ = _
        rw [Array.getD_eq_getD_getElem?, arrV_read _ _ (by rw [hcl0]; rw [hcl] at hi; omega)]
        rfl
      refine ⟨?_, ?_⟩
      · rw [e]
        rfl
      · rw [e]
        exact trivial)
    (g := F0 m pc rl (.int (nI N) :: .int 0 :: .ref (G.1 + a) :: .int 0 :: .ref (G.1 + a0) :: [])) rfl (by rw [C.2.2.1]; exact hL.1) (rest := []) rfl (by rw [C.2.1]; exact hd) (by omega) (by
      have : nativeFrameWords "java/lang/System" "arraycopy" 5 = 7 := by decide
      show 2 * 0 + 0 + _ ≤ _
      omega)
  have e1 : copied (vp_cell (G.2.2.2.2 0) (n0, .inl f)) (vp_cell (G.2.2.2.2 0) (n1, .inl g)) 0 0 (nI N) = vp_cell (G.2.2.2.2 0) (n1, .inl (va_cpy f g (0 : Int32).toNatClampNeg (0 : Int32).toNatClampNeg (nI N).toNatClampNeg)) := va_copied (fun z => .int z) _ _ f g (by rw [hcl0, hcl]; omega)
  rw [hcl, hcl0] at e1
  rw [e1] at Y' step
  have hlt : G.1 + a < H.size := (Array.getElem?_eq_some_iff.mp hb1).1
  have hheap : ((T.setVm vm').setCell (G.1 + a) (vp_cell (G.2.2.2.2 0) (n1, .inl (va_cpy f g 0 0 N)))).heap = H.setIfInBounds (G.1 + a) (vp_cell (G.2.2.2.2 0) (n1, .inl (va_cpy f g 0 0 N))) := by rw [← hT]; rfl
  have oq : ∀ q : Nat, q ≠ G.1 + a → (H.setIfInBounds (G.1 + a) (vp_cell (G.2.2.2.2 0) (n1, .inl (va_cpy f g 0 0 N))))[q]? = H[q]? := fun q hq => by simp [Array.getElem?_setIfInBounds, Ne.symm hq]
  have hsz : (H.setIfInBounds (G.1 + a) (vp_cell (G.2.2.2.2 0) (n1, .inl (va_cpy f g 0 0 N)))).size = H.size := by simp
  obtain ⟨t, a1, b1⟩ := h G p l e R s m args below meth c z0 w0 Z C hz hw hr _ _ rl (hR.put (c := .inl (0, n1, .inl (va_cpy f g 0 0 N))) (h5 a _ hc1) rfl (h4.set ma_lm_D he1 (show (H.setIfInBounds (G.1 + a) _)[G.1 + a]? = some _ by simp [Array.getElem?_setIfInBounds, hlt]) oq) ⟨by rw [hsz]; exact h6.1, fun x g1 g2 => by
      rw [oq x (fun e => g2 (by rw [e]; exact Nat.le_add_right _ _))]
      exact h6.2.1 x g1 g2, fun x hx => by
      rcases List.mem_append.mp hx with hx | hx
      · exact h6.2.2 x hx
      · obtain ⟨z, -, hz⟩ := List.mem_map.mp hx
        rw [← hz]
        exact Nat.le_add_right _ _⟩ hsz) hL _ hheap Y'
  exact ⟨t, step t a1, b1⟩
