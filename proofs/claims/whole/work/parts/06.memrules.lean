/-! THE RULES OF THE MEMORY: fields, rows, new cells, calls -/
/-- a field by its number: the link's word -/
def FL (o : String) (idx ci k : Nat) : Prop := ci < 8 ∧ k < Nn ci ∧ Cond.fieldLink o idx (Rn ci) (Tn ci k).2.1 (Tn ci k).2.2.1 ∈ ma_tbl
theorem ma_same {s : State} {ci k : Nat} (hc : ci < 8) (hk : k < Nn ci) : ∀ x, s.fieldFound? (Tn ci k).1 (Tn ci k).2.1 (Tn ci k).2.2.1 = some x → s.fieldFound? (Rn ci) (Tn ci k).2.1 (Tn ci k).2.2.1 = some x := by
  intro x h
  rw [← ma_in1 ci hc k hk]
  exact h
theorem ma_te_o {G : WG} {c : Nat} {fs : List Value} : ma_te G (.inr (c, fs)) = .inr (c, fs.map (ma_tv G)) := rfl
theorem ma_te_i {G : WG} {t n : Nat} {f : Nat → Int32} : ma_te G (.inl (t, n, .inl f)) = .inl (G.2.2.2.2 t, n, .inl f) := rfl
theorem ma_te_r {G : WG} {t n : Nat} {f : Nat → Option Nat} : ma_te G (.inl (t, n, .inr f)) = .inl (G.2.2.2.2 t, n, .inr (.inr (.inr (.inr (fun j => (f j).map (fun k => G.1 + k)))))) := rfl
theorem ma_R.put {G : WG} {s : State} {z0 w0 k : Nat} {M : Mem} {c : AC} {H H1 : Heap} {locs locs1 : List Loc} {e0 : va_E} (hR : ma_R G s z0 w0 M H locs) (hk : k < M.1.1) (he : e0 = ma_te G c) (hP : va_P G.2.2.2.1 vwCl ((ma_lm G M).set k (G.1 + k, e0)) H1) (hS : va_S (ma_A G) s.heap H1 locs1) (hz : H1.size = H.size) : ma_R G s z0 w0 (ma_put M k c) H1 locs1 := by
  obtain ⟨h1, h2, h3, h4, h5, h6⟩ := hR
  rw [he, ma_lm_put hk] at hP
  exact ⟨h1, h2, by rw [hz]; exact h3, hP, ma_wf_put h5 hk, hS⟩
theorem ma_R.new {G : WG} {s : State} {z0 w0 n : Nat} {M : Mem} {c : AC} {H H1 : Heap} {locs : List Loc} (hR : ma_R G s z0 w0 M H locs) (hz : H1.size = H.size + 1) (ho : ∀ q, q < H.size → H1[q]? = H[q]?) (he : va_at G.2.2.2.1 vwCl (H.size, ma_te G c) H1) : ma_R G s z0 w0 (ma_new M n c) H1 locs := by
  obtain ⟨h1, h2, h3, h4, h5, h6⟩ := hR
  have hk : ∀ (k : Nat) (x : Nat × va_E), (ma_lm G M)[k]? = some x → H1[x.1]? = H[x.1]? := fun k x hx => ho x.1 ((h4 k x hx).lt)
  refine ⟨Nat.le_succ_of_le h1, Nat.le_trans h2 (Nat.le_add_right _ _), ?_, ?_, ma_wf_new h5, ⟨Nat.le_trans h6.1 (by omega), fun x g1 g2 => (ho x (Nat.lt_of_lt_of_le g1 h6.1)).trans (h6.2.1 x g1 g2), h6.2.2⟩⟩
  · rw [hz, h3]; rfl
  · rw [← ma_lm_new, ← h3]
    refine (h4.kept hk).app (fun k x hx => ?_)
    have hz : k < 1 := (List.getElem?_eq_some_iff.mp hx).1
    rw [show k = 0 by omega] at hx
    cases hx
    exact he
theorem ma_sum (G : WG) (st : List Value) : ((st.map (ma_tv G)).map fun v => v.category).sum = (st.map fun v => v.category).sum := by
  rw [List.map_map]
  congr 1
  apply List.map_congr_left
  intro v _
  exact ma_cat G v
section MRULES
variable {B : ByteArray} {nL : Nat} {o : String} {it : Bool} {d : Nat} {ret : Option FieldType} {X : Option (Nat × (Nat → Int32))} {zm wm pc q : Nat} {ls st : List Value} {M : Mem} {Q : Option Value → Mem → Prop}
theorem V_getf {idx ci k a : Nat} {fs : List Value} {v : Value} (hd : decode B pc = .ok (.getfield idx, 3)) (hf : FL o idx ci k) (hc : M.2 a = some (.inr (ci, fs))) (hv : fs[k]? = some v) (hq : pc + 3 = q) (h : V B nL o it d ret X zm wm q ls (v :: st) M Q) : V B nL o it d ret X zm wm pc ls (.ref a :: st) M Q := by
  intro G p l e R s m args below meth c z0 w0 Z C hz hw hr H locs rl hR hL
  subst hq
  obtain ⟨h1, h2, h3, h4, h5, h6⟩ := id hR
  exact va_get C.1 C.2.1 C.2.2.2.2.1 (ma_in0 ci hf.1) C.2.2.2.1 C.2.2.2.2.2.1.1 h4 a (ma_lm_get hc h5) (ma_cl hf.1) k hf.2.1 (C.2.2.2.2.1 _ hf.2.2) (ma_same hf.1 hf.2.1) (v := ma_tv G v) (by rw [List.getElem?_map, hv]; rfl) hd (h G p l e R s m args below meth c z0 w0 Z C hz hw hr H locs rl hR hL)
theorem V_putI {idx ci k a : Nat} {fs : List Value} {x : Int32} (hd : decode B pc = .ok (.putfield idx, 3)) (hf : FL o idx ci k) (hn : (Tn ci k).2.2.2 = false) (hty : tyn ci k = .int ∨ (tyn ci k = .boolean ∧ (x = 0 ∨ x = 1))) (hc : M.2 a = some (.inr (ci, fs))) (hl : k < fs.length) (hq : pc + 3 = q) (h : V B nL o it d ret X zm wm q ls st (ma_put M a (.inr (ci, fs.set k (.int x)))) Q) : V B nL o it d ret X zm wm pc ls (.int x :: .ref a :: st) M Q := by
  intro G p l e R s m args below meth c z0 w0 Z C hz hw hr H locs rl hR hL
  subst hq
  obtain ⟨h1, h2, h3, h4, h5, h6⟩ := id hR
  have hK := C.2.2.2.2.2.1.1
  have hts := C.2.2.2.2.1
  have hin := ma_in0 ci hf.1
  have hclq := ma_cl hf.1
  have hap := va_apart (own := o) hts hin (tyn ci) (ma_tyn hf.1) (ma_nmn hf.1) hK hclq
  have he := ma_lm_get (G := G) hc h5
  obtain ⟨r, g1, cell, q1, q2, q3, q4⟩ := h4 a _ he
  have hr' : r = (Rn ci, Tn ci, Nn ci) := Option.some.inj (g1.symm.trans hclq)
  subst hr'
  obtain ⟨hS, hfc, kC, hkC, hkind⟩ := hK.1 ci _ hclq
  obtain ⟨cf, kf, fi, f, hi, hsl⟩ := hS k hf.2.1
  have hlay := hts _ (hin _ (u_in_lay hf.2.1))
  unfold u_lay at hlay
  rw [if_neg (by rw [hn]; decide)] at hlay
  have hst := (u_facts hfc hkC (u_lays hts hin hf.2.1) hi).1
  have hnf : narrow (tyn ci k) (.int x) = .int x ∧ fits (tyn ci k) (.int x) = true := by
    rcases hty with e1 | ⟨e1, rfl | rfl⟩ <;> rw [e1] <;> exact ⟨rfl, rfl⟩
  have h6' := u_store hfc hkC hkind hlay hi (ma_tyn hf.1 k hf.2.1) hnf.1 hnf.2
  refine W.putK C.1 C.2.1 (f := f) ⟨C.2.2.2.1, hts _ hf.2.2, ⟨_, _, _, ma_same hf.1 hf.2.1 _ hi⟩, hst⟩ (by rw [q2]; exact h6') q1 q3 (by rw [hsl]; exact k2_hasslot (q4 k hf.2.1)) rfl rfl hd fun H' e1 e2 e3 => ?_
  rw [hsl] at e1 ⊢
  have hP' := h4.set ma_lm_D he (e := .inr (ci, (fs.map (ma_tv G)).set k (.int x))) ⟨_, hclq, t_OB.to (V := updV (vp_V (fs.map (ma_tv G))) k (.int x)) ⟨_, e1, q2, q3, t_set q4 hap hf.2.1 _⟩ (fun j _ => vp_updV_set (by rw [List.length_map]; exact hl) _ j)⟩ e3
  exact h G p l e R s m args below meth c z0 w0 Z C hz hw hr H' _ rl (hR.put (c := .inr (ci, fs.set k (.int x))) (h5 a _ hc) (by rw [ma_te_o, List.map_set]; rfl) hP' (h6.put e2 e3 (Nat.le_add_right _ _)) e2) hL
theorem V_putF {idx ci k a b : Nat} {fs : List Value} (hd : decode B pc = .ok (.putfield idx, 3)) (hf : FL o idx ci k) (hit : it = true) (ho : o = Rn ci) (hn : (Tn ci k).2.2.2 = true) (hty : (∃ n, tyn ci k = .object n) ∨ ∃ t, tyn ci k = .array t) (hc : M.2 a = some (.inr (ci, fs))) (hl : k < fs.length) (hq : pc + 3 = q) (h : V B nL o it d ret X zm wm q ls st (ma_put M a (.inr (ci, fs.set k (.ref b)))) Q) : V B nL o it d ret X zm wm pc ls (.ref b :: .ref a :: st) M Q := by
  intro G p l e R s m args below meth c z0 w0 Z C hz hw hr H locs rl hR hL
  subst hq
  obtain ⟨h1, h2, h3, h4, h5, h6⟩ := id hR
  have hK := C.2.2.2.2.2.1.1
  have hts := C.2.2.2.2.1
  have hown := C.2.2.2.1
  have hin := ma_in0 ci hf.1
  have hclq := ma_cl hf.1
  have hap := va_apart (own := o) hts hin (tyn ci) (ma_tyn hf.1) (ma_nmn hf.1) hK hclq
  have he := ma_lm_get (G := G) hc h5
  obtain ⟨r, g1, cell, q1, q2, q3, q4⟩ := h4 a _ he
  have hr' : r = (Rn ci, Tn ci, Nn ci) := Option.some.inj (g1.symm.trans hclq)
  subst hr'
  obtain ⟨hS, hfc, kC, hkC, hkind⟩ := hK.1 ci _ hclq
  obtain ⟨cf, kf, fi, f, hi, hsl⟩ := hS k hf.2.1
  have hlay := hts _ (hin _ (u_in_lay hf.2.1))
  unfold u_lay at hlay
  rw [if_pos hn] at hlay
  have hst := (u_facts hfc hkC (u_lays hts hin hf.2.1) hi).1
  have hcf : m.cls = cf := by
    obtain ⟨_, _, c', _, _, _, -, -, hf', -, -, -, hown2, -⟩ := Cond.laysFinal_spec hlay
    have e1 : c' = cf := by have := hi.symm.trans hf'; simp at this; exact this.1.symm
    rw [ma_in1 ci hf.1 k hf.2.1, ← ho] at hown2
    rw [← e1]; exact Option.some.inj (hown.symm.trans hown2)
  have hnf : narrow (tyn ci k) (.ref (G.1 + b)) = .ref (G.1 + b) ∧ fits (tyn ci k) (.ref (G.1 + b)) = true := by
    rcases hty with ⟨n, e1⟩ | ⟨n, e1⟩ <;> rw [e1] <;> exact ⟨rfl, rfl⟩
  have h6' := u_fits hfc hkC hkind (Or.inr hlay) hi (ma_tyn hf.1 k hf.2.1) hnf.1 hnf.2
  refine W.putFinK C.1 C.2.1 hown (hts _ hf.2.2) (ma_same hf.1 hf.2.1 _ hi) hst hcf (C.2.2.2.2.2.2.2.2.2.1 hit) (by rw [q2]; exact h6') q1 q3 (by rw [hsl]; exact k2_hasslot (q4 k hf.2.1)) rfl rfl hd fun H' e1 e2 e3 => ?_
  rw [hsl] at e1 ⊢
  have hP' := h4.set ma_lm_D he (e := .inr (ci, (fs.map (ma_tv G)).set k (.ref (G.1 + b)))) ⟨_, hclq, t_OB.to (V := updV (vp_V (fs.map (ma_tv G))) k (.ref (G.1 + b))) ⟨_, e1, q2, q3, t_set q4 hap hf.2.1 _⟩ (fun j _ => vp_updV_set (by rw [List.length_map]; exact hl) _ j)⟩ e3
  exact h G p l e R s m args below meth c z0 w0 Z C hz hw hr H' _ rl (hR.put (c := .inr (ci, fs.set k (.ref b))) (h5 a _ hc) (by rw [ma_te_o, List.map_set]; rfl) hP' (h6.put e2 e3 (Nat.le_add_right _ _)) e2) hL
theorem V_iald {a n j : Nat} {f : Nat → Int32} {i : Int32} (hd : decode B pc = .ok (.iaload, 1)) (hc : M.2 a = some (.inl (0, n, .inl f))) (hi : i = nI j) (hj : j < n) (hn : n < 2 ^ 31) (hq : pc + 1 = q) (h : V B nL o it d ret X zm wm q ls (.int (f j) :: st) M Q) : V B nL o it d ret X zm wm pc ls (.int i :: .ref a :: st) M Q := by
  intro G p l e R s m args below meth c z0 w0 Z C hz hw hr H locs rl hR hL
  subst hq
  subst hi
  obtain ⟨h1, h2, h3, h4, h5, h6⟩ := id hR
  have k := h G p l e R s m args below meth c z0 w0 Z C hz hw hr H locs rl hR hL
  rw [← nI_clamp (n := j) (by omega)] at k
  exact va_iald C.1 C.2.1 C.2.2.2.2.2.1.1 h4 a 0 (ma_lm_get hc h5) rfl (vp_in_nI hj hn) hd k
theorem V_bald {a n j : Nat} {f : Nat → Int32} {i : Int32} (hd : decode B pc = .ok (.baload, 1)) (hc : M.2 a = some (.inl (1, n, .inl f))) (hi : i = nI j) (hj : j < n) (hn : n < 2 ^ 31) (hq : pc + 1 = q) (h : V B nL o it d ret X zm wm q ls (.int (f j) :: st) M Q) : V B nL o it d ret X zm wm pc ls (.int i :: .ref a :: st) M Q := by
  intro G p l e R s m args below meth c z0 w0 Z C hz hw hr H locs rl hR hL
  subst hq
  subst hi
  obtain ⟨h1, h2, h3, h4, h5, h6⟩ := id hR
  have k := h G p l e R s m args below meth c z0 w0 Z C hz hw hr H locs rl hR hL
  rw [← nI_clamp (n := j) (by omega)] at k
  exact va_bald C.1 C.2.1 C.2.2.2.2.2.1.1 h4 a 1 (ma_lm_get hc h5) rfl (vp_in_nI hj hn) hd k
theorem V_zald {a n j : Nat} {f : Nat → Int32} {i : Int32} (hd : decode B pc = .ok (.baload, 1)) (hc : M.2 a = some (.inl (2, n, .inl f))) (hi : i = nI j) (hj : j < n) (hn : n < 2 ^ 31) (hq : pc + 1 = q) (h : V B nL o it d ret X zm wm q ls (.int (f j) :: st) M Q) : V B nL o it d ret X zm wm pc ls (.int i :: .ref a :: st) M Q := by
  intro G p l e R s m args below meth c z0 w0 Z C hz hw hr H locs rl hR hL
  subst hq
  subst hi
  obtain ⟨h1, h2, h3, h4, h5, h6⟩ := id hR
  have k := h G p l e R s m args below meth c z0 w0 Z C hz hw hr H locs rl hR hL
  rw [← nI_clamp (n := j) (by omega)] at k
  exact va_zald C.1 C.2.1 C.2.2.2.2.2.1.1 h4 a 2 (ma_lm_get hc h5) rfl (vp_in_nI hj hn) hd k
theorem V_aald {a n j t b : Nat} {f : Nat → Option Nat} {i : Int32} (hd : decode B pc = .ok (.aaload, 1)) (hc : M.2 a = some (.inl (t, n, .inr f))) (ht : t = 3 ∨ t = 4 ∨ t = 5) (hi : i = nI j) (hj : j < n) (hn : n < 2 ^ 31) (hb : f j = some b) (hq : pc + 1 = q) (h : V B nL o it d ret X zm wm q ls (.ref b :: st) M Q) : V B nL o it d ret X zm wm pc ls (.int i :: .ref a :: st) M Q := by
  intro G p l e R s m args below meth c z0 w0 Z C hz hw hr H locs rl hR hL
  subst hq
  subst hi
  obtain ⟨h1, h2, h3, h4, h5, h6⟩ := id hR
  have k := h G p l e R s m args below meth c z0 w0 Z C hz hw hr H locs rl hR hL
  have e0 : ma_tv G (.ref b) = va_rf ((fun j => (f j).map (fun k => G.1 + k)) (nI j).toNatClampNeg) := by
    rw [nI_clamp (n := j) (by omega)]
    simp [hb, va_rf, ma_tv]
  rw [List.map_cons, e0] at k
  rcases ht with rfl | rfl | rfl
  · exact va_aldq C.1 C.2.1 C.2.2.2.2.2.1.1 h4 a 3 (ma_lm_get hc h5) rfl (vp_in_nI hj hn) hd k
  · exact va_aldq C.1 C.2.1 C.2.2.2.2.2.1.1 h4 a 4 (ma_lm_get hc h5) rfl (vp_in_nI hj hn) hd k
  · exact va_aldq C.1 C.2.1 C.2.2.2.2.2.1.1 h4 a 5 (ma_lm_get hc h5) rfl (vp_in_nI hj hn) hd k
theorem V_alen {a n t : Nat} {f : (Nat → Int32) ⊕ (Nat → Option Nat)} (hd : decode B pc = .ok (.arraylength, 1)) (hc : M.2 a = some (.inl (t, n, f))) (ht : t < 6) (hq : pc + 1 = q) (h : V B nL o it d ret X zm wm q ls (.int (nI n) :: st) M Q) : V B nL o it d ret X zm wm pc ls (.ref a :: st) M Q := by
  intro G p l e R s m args below meth c z0 w0 Z C hz hw hr H locs rl hR hL
  subst hq
  obtain ⟨h1, h2, h3, h4, h5, h6⟩ := id hR
  have k := h G p l e R s m args below meth c z0 w0 Z C hz hw hr H locs rl hR hL
  have ht2 : ∃ ty, (ma_tys G.2.2.2.2)[t]? = some (G.2.2.2.2 t, ty) := by
    match t, ht with
    | 0, _ => exact ⟨_, rfl⟩
    | 1, _ => exact ⟨_, rfl⟩
    | 2, _ => exact ⟨_, rfl⟩
    | 3, _ => exact ⟨_, rfl⟩
    | 4, _ => exact ⟨_, rfl⟩
    | 5, _ => exact ⟨_, rfl⟩
  obtain ⟨ty, ht2⟩ := ht2
  cases f with
  | inl f => exact va_alen C.1 C.2.1 C.2.2.2.2.2.1.1 h4 a t (ma_lm_get hc h5) ht2 rfl hd k
  | inr f => exact va_alen C.1 C.2.1 C.2.2.2.2.2.1.1 h4 a t (ma_lm_get hc h5) ht2 rfl hd k
theorem ma_cellset {cA : ClassId} {n j : Nat} {f : Nat → Int32} {x : Int32} : (vp_cell cA (n, .inl f)).setSlot j (.int x) = vp_cell cA (n, .inl (upd f j x)) := by
  rw [vp_cell_i, vp_cell_i, arrV_store]
  congr 1
  funext q
  by_cases hq : q = j
  · subst hq
    simp [updV, upd]
  · simp [updV, upd, hq]
theorem V_iast {a n j : Nat} {f : Nat → Int32} {i x : Int32} (hd : decode B pc = .ok (.iastore, 1)) (hc : M.2 a = some (.inl (0, n, .inl f))) (hi : i = nI j) (hj : j < n) (hn : n < 2 ^ 31) (hq : pc + 1 = q) (h : V B nL o it d ret X zm wm q ls st (ma_put M a (.inl (0, n, .inl (upd f j x)))) Q) : V B nL o it d ret X zm wm pc ls (.int x :: .int i :: .ref a :: st) M Q := by
  intro G p l e R s m args below meth c z0 w0 Z C hz hw hr H locs rl hR hL
  subst hq
  subst hi
  obtain ⟨h1, h2, h3, h4, h5, h6⟩ := id hR
  have hK := C.2.2.2.2.2.1.1
  have he := ma_lm_get (G := G) hc h5
  refine W.iast C.1 C.2.1 (h4 a _ he) ((hK.2 0 _ rfl).1 n (fun j => .int (f j))) (fun q => by cases q) (by show ¬ (nI j < 0 ∨ (arrV _ _ _).slots.size ≤ _); rw [arrV_size]; exact vp_in_nI hj hn) rfl rfl hd fun H1 e1 z1 oq => ?_
  rw [nI_clamp (n := j) (by omega)] at e1 ⊢
  rw [ma_cellset] at e1
  exact h G p l e R s m args below meth c z0 w0 Z C hz hw hr H1 _ rl (hR.put (c := .inl (0, n, .inl (upd f j x))) (h5 a _ hc) rfl (h4.set ma_lm_D he e1 oq) (h6.put z1 oq (Nat.le_add_right _ _)) z1) hL
theorem V_bast {a n j : Nat} {f : Nat → Int32} {i x : Int32} (hd : decode B pc = .ok (.bastore, 1)) (hc : M.2 a = some (.inl (1, n, .inl f))) (hi : i = nI j) (hj : j < n) (hn : n < 2 ^ 31) (hq : pc + 1 = q) (h : V B nL o it d ret X zm wm q ls st (ma_put M a (.inl (1, n, .inl (upd f j x.toInt8.toInt32)))) Q) : V B nL o it d ret X zm wm pc ls (.int x :: .int i :: .ref a :: st) M Q := by
  intro G p l e R s m args below meth c z0 w0 Z C hz hw hr H locs rl hR hL
  subst hq
  subst hi
  obtain ⟨h1, h2, h3, h4, h5, h6⟩ := id hR
  have hK := C.2.2.2.2.2.1.1
  have he := ma_lm_get (G := G) hc h5
  refine W.bast C.1 C.2.1 (h4 a _ he) ((hK.2 1 _ rfl).1 n (fun j => .int (f j))) (fun q => by cases q) (by show ¬ (nI j < 0 ∨ (arrV _ _ _).slots.size ≤ _); rw [arrV_size]; exact vp_in_nI hj hn) rfl rfl hd fun H1 e1 z1 oq => ?_
  rw [nI_clamp (n := j) (by omega)] at e1 ⊢
  have e2 : narrow .byte (.int x) = .int x.toInt8.toInt32 := rfl
  rw [e2, ma_cellset] at e1
  exact h G p l e R s m args below meth c z0 w0 Z C hz hw hr H1 _ rl (hR.put (c := .inl (1, n, .inl (upd f j x.toInt8.toInt32))) (h5 a _ hc) rfl (h4.set ma_lm_D he e1 oq) (h6.put z1 oq (Nat.le_add_right _ _)) z1) hL
theorem V_zast {a n j : Nat} {f : Nat → Int32} {i x : Int32} (hd : decode B pc = .ok (.bastore, 1)) (hc : M.2 a = some (.inl (2, n, .inl f))) (hx : x = 0 ∨ x = 1) (hi : i = nI j) (hj : j < n) (hn : n < 2 ^ 31) (hq : pc + 1 = q) (h : V B nL o it d ret X zm wm q ls st (ma_put M a (.inl (2, n, .inl (upd f j x)))) Q) : V B nL o it d ret X zm wm pc ls (.int x :: .int i :: .ref a :: st) M Q := by
  intro G p l e R s m args below meth c z0 w0 Z C hz hw hr H locs rl hR hL
  subst hq
  subst hi
  obtain ⟨h1, h2, h3, h4, h5, h6⟩ := id hR
  have hK := C.2.2.2.2.2.1.1
  have he := ma_lm_get (G := G) hc h5
  refine W.zast C.1 C.2.1 (h4 a _ he) ((hK.2 2 _ rfl).1 n (fun j => .int (f j))) (fun q => by cases q) (by show ¬ (nI j < 0 ∨ (arrV _ _ _).slots.size ≤ _); rw [arrV_size]; exact vp_in_nI hj hn) rfl rfl hd fun H1 e1 z1 oq => ?_
  rw [nI_clamp (n := j) (by omega)] at e1 ⊢
  have e2 : narrow .boolean (.int x) = .int x := by rcases hx with rfl | rfl <;> rfl
  rw [e2, ma_cellset] at e1
  exact h G p l e R s m args below meth c z0 w0 Z C hz hw hr H1 _ rl (hR.put (c := .inl (2, n, .inl (upd f j x))) (h5 a _ hc) rfl (h4.set ma_lm_D he e1 oq) (h6.put z1 oq (Nat.le_add_right _ _)) z1) hL
end MRULES
