/-! THE RULES: one for each instruction, over memories -/
def ma_al (G : WG) (ls : List Value) : List (Nat × Value) := (List.range ls.length).filterMap fun j => match ls[j]? with
  | some v => if v = .null then none else some (j, ma_tv G v)
  | none => none
theorem ma_al_mem {G : WG} {ls : List Value} {q : Nat × Value} : q ∈ ma_al G ls ↔ ∃ v, ls[q.1]? = some v ∧ v ≠ .null ∧ q.2 = ma_tv G v := by
  constructor
  · intro h
    obtain ⟨j, hj, he⟩ := List.mem_filterMap.mp h
    cases hl : ls[j]? with
    | none => simp [hl] at he
    | some v =>
      by_cases hv : v = .null
      · simp [hl, hv] at he
      · simp [hl, hv] at he
        subst he
        exact ⟨v, hl, hv, rfl⟩
  · rintro ⟨v, h1, h2, h3⟩
    refine List.mem_filterMap.mpr ⟨q.1, List.mem_range.mpr (List.getElem?_eq_some_iff.mp h1).1, ?_⟩
    simp [h1, h2, ← h3]
theorem ma_L.has {G : WG} {nL : Nat} {ls : List Value} {rl : Array Slot} (h : ma_L G nL ls rl) : lv_has rl nL (ma_al G ls) := by
  refine ⟨h.1, h.2.1, fun q hq => ?_⟩
  obtain ⟨v, h1, h2, h3⟩ := ma_al_mem.mp hq
  rw [h3]
  exact h.2.2.2 _ _ h1 h2
def ma_okS (ls : List Value) (i : Nat) : Bool := match i with
  | 0 => true
  | j + 1 => match ls[j]? with
    | some v => v.category != 2
    | none => true
theorem ma_okS_ne {ls : List Value} {i j : Nat} {v : Value} (h : ma_okS ls i = true) (hj : j + 1 = i) (hv : ls[j]? = some v) : ¬ v.category = 2 := by
  subst hj
  simp [ma_okS, hv] at h
  exact h
theorem ma_L.set1 {G : WG} {nL i : Nat} {ls : List Value} {rl rl' : Array Slot} {v w : Value} (h : ma_L G nL ls rl) (hok : ma_okS ls i = true) (hw : w = ma_tv G v)
    (h' : lv_has rl' nL ((i, w) :: (ma_al G ls).filter (fun q => !(q.1 == i) && !(q.1 + 1 == i && q.2.category == 2)))) : ma_L G nL (ls.set i v) rl' := by
  refine ⟨h'.1, h'.2.1, by rw [List.length_set]; exact h.2.2.1, fun j u hj hu => ?_⟩
  by_cases e : j = i
  · subst e
    have h1 := h'.2.2 (j, w) List.mem_cons_self
    have h2 : u = v := by
      rw [List.getElem?_set] at hj
      simp at hj
      exact hj.2.symm
    rw [h2, ← hw]
    exact h1
  · rw [List.getElem?_set_ne (fun z => e z.symm)] at hj
    refine h'.2.2 (j, ma_tv G u) (List.mem_cons_of_mem _ (List.mem_filter.mpr ⟨ma_al_mem.mpr ⟨u, hj, hu, rfl⟩, ?_⟩))
    by_cases e2 : j + 1 = i
    · have := ma_okS_ne hok e2 hj
      simp [e, ma_cat, this]
    · simp [e, e2]
theorem ma_L.set2 {G : WG} {nL i : Nat} {ls : List Value} {rl rl' : Array Slot} {v w : Value} (h : ma_L G nL ls rl) (hok : ma_okS ls i = true) (hw : w = ma_tv G v)
    (h' : lv_has rl' nL ((i, w) :: (ma_al G ls).filter (fun q => !(q.1 == i) && (!(q.1 == i + 1) && !(q.1 + 1 == i && q.2.category == 2))))) : ma_L G nL ((ls.set i v).set (i + 1) .null) rl' := by
  refine ⟨h'.1, h'.2.1, by rw [List.length_set, List.length_set]; exact h.2.2.1, fun j u hj hu => ?_⟩
  by_cases e1 : j = i + 1
  · subst e1
    rw [List.getElem?_set] at hj
    simp at hj
    exact absurd hj.2.symm hu
  · rw [List.getElem?_set_ne (fun z => e1 z.symm)] at hj
    by_cases e : j = i
    · subst e
      have h1 := h'.2.2 (j, w) List.mem_cons_self
      have h2 : u = v := by
        rw [List.getElem?_set] at hj
        simp at hj
        exact hj.2.symm
      rw [h2, ← hw]
      exact h1
    · rw [List.getElem?_set_ne (fun z => e z.symm)] at hj
      refine h'.2.2 (j, ma_tv G u) (List.mem_cons_of_mem _ (List.mem_filter.mpr ⟨ma_al_mem.mpr ⟨u, hj, hu, rfl⟩, ?_⟩))
      by_cases e2 : j + 1 = i
      · have := ma_okS_ne hok e2 hj
        simp [e, e1, ma_cat, this]
      · simp [e, e1, e2]
section RULES
variable {B : ByteArray} {nL : Nat} {o : String} {it : Bool} {d : Nat} {ret : Option FieldType} {X : Option (Nat × (Nat → Int32))} {zm wm pc q : Nat} {ls st : List Value} {M : Mem} {Q : Option Value → Mem → Prop}
theorem V_iconst {n : Int} {v : Int32} (hd : decode B pc = .ok (.iconst n, 1)) (hv : Int32.ofInt n = v) (hq : pc + 1 = q) (h : V B nL o it d ret X zm wm q ls (.int v :: st) M Q) : V B nL o it d ret X zm wm pc ls (st) M Q := by
  intro G p l e R s m args below meth c z0 w0 Z C hz hw hr H locs rl hR hL
  subst hq
  exact lv_iconst C.1 C.2.1 hd hv (h G p l e R s m args below meth c z0 w0 Z C hz hw hr H locs rl hR hL)
theorem V_bipush {n : Int} {v : Int32} (hd : decode B pc = .ok (.bipush n, 2)) (hv : (Int8.ofInt n).toInt32 = v) (hq : pc + 2 = q) (h : V B nL o it d ret X zm wm q ls (.int v :: st) M Q) : V B nL o it d ret X zm wm pc ls (st) M Q := by
  intro G p l e R s m args below meth c z0 w0 Z C hz hw hr H locs rl hR hL
  subst hq
  exact lv_bipush C.1 C.2.1 hd hv (h G p l e R s m args below meth c z0 w0 Z C hz hw hr H locs rl hR hL)
theorem V_sipush {n : Int} {v : Int32} (hd : decode B pc = .ok (.sipush n, 3)) (hv : (Int16.ofInt n).toInt32 = v) (hq : pc + 3 = q) (h : V B nL o it d ret X zm wm q ls (.int v :: st) M Q) : V B nL o it d ret X zm wm pc ls (st) M Q := by
  intro G p l e R s m args below meth c z0 w0 Z C hz hw hr H locs rl hR hL
  subst hq
  exact lv_sipush C.1 C.2.1 hd hv (h G p l e R s m args below meth c z0 w0 Z C hz hw hr H locs rl hR hL)
theorem V_lconst {n : Fin 2} {v : Int64} (hd : decode B pc = .ok (.lconst n, 1)) (hv : Int64.ofNat (n : Nat) = v) (hq : pc + 1 = q) (h : V B nL o it d ret X zm wm q ls (.long v :: st) M Q) : V B nL o it d ret X zm wm pc ls (st) M Q := by
  intro G p l e R s m args below meth c z0 w0 Z C hz hw hr H locs rl hR hL
  subst hq
  exact lv_lconst C.1 C.2.1 hd hv (h G p l e R s m args below meth c z0 w0 Z C hz hw hr H locs rl hR hL)
theorem V_iload_n {k : Fin 4} {i : Nat} {x : Int32} (hd : decode B pc = .ok (.iload_n k, 1)) (hk : (k : Nat) = i) (hl : ls[i]? = some (.int x)) (hq : pc + 1 = q) (h : V B nL o it d ret X zm wm q ls (.int x :: st) M Q) : V B nL o it d ret X zm wm pc ls (st) M Q := by
  intro G p l e R s m args below meth c z0 w0 Z C hz hw hr H locs rl hR hL
  subst hq
  exact lv_iload_n C.1 C.2.1 hd hk (hL.2.2.2 i _ hl (fun e => by cases e)) (h G p l e R s m args below meth c z0 w0 Z C hz hw hr H locs rl hR hL)
theorem V_iload {i : Nat} {x : Int32} (hd : decode B pc = .ok (.iload i, 2)) (hl : ls[i]? = some (.int x)) (hq : pc + 2 = q) (h : V B nL o it d ret X zm wm q ls (.int x :: st) M Q) : V B nL o it d ret X zm wm pc ls (st) M Q := by
  intro G p l e R s m args below meth c z0 w0 Z C hz hw hr H locs rl hR hL
  subst hq
  exact lv_iload C.1 C.2.1 hd (hL.2.2.2 i _ hl (fun e => by cases e)) (h G p l e R s m args below meth c z0 w0 Z C hz hw hr H locs rl hR hL)
theorem V_lload_n {k : Fin 4} {i : Nat} {x : Int64} (hd : decode B pc = .ok (.lload_n k, 1)) (hk : (k : Nat) = i) (hl : ls[i]? = some (.long x)) (hq : pc + 1 = q) (h : V B nL o it d ret X zm wm q ls (.long x :: st) M Q) : V B nL o it d ret X zm wm pc ls (st) M Q := by
  intro G p l e R s m args below meth c z0 w0 Z C hz hw hr H locs rl hR hL
  subst hq
  exact lv_lload_n C.1 C.2.1 hd hk (hL.2.2.2 i _ hl (fun e => by cases e)) (h G p l e R s m args below meth c z0 w0 Z C hz hw hr H locs rl hR hL)
theorem V_lload {i : Nat} {x : Int64} (hd : decode B pc = .ok (.lload i, 2)) (hl : ls[i]? = some (.long x)) (hq : pc + 2 = q) (h : V B nL o it d ret X zm wm q ls (.long x :: st) M Q) : V B nL o it d ret X zm wm pc ls (st) M Q := by
  intro G p l e R s m args below meth c z0 w0 Z C hz hw hr H locs rl hR hL
  subst hq
  exact lv_lload C.1 C.2.1 hd (hL.2.2.2 i _ hl (fun e => by cases e)) (h G p l e R s m args below meth c z0 w0 Z C hz hw hr H locs rl hR hL)
theorem V_aload_n {k : Fin 4} {i : Nat} {x : Nat} (hd : decode B pc = .ok (.aload_n k, 1)) (hk : (k : Nat) = i) (hl : ls[i]? = some (.ref x)) (hq : pc + 1 = q) (h : V B nL o it d ret X zm wm q ls (.ref x :: st) M Q) : V B nL o it d ret X zm wm pc ls (st) M Q := by
  intro G p l e R s m args below meth c z0 w0 Z C hz hw hr H locs rl hR hL
  subst hq
  exact lv_aload_n C.1 C.2.1 hd hk (hL.2.2.2 i _ hl (fun e => by cases e)) (h G p l e R s m args below meth c z0 w0 Z C hz hw hr H locs rl hR hL)
theorem V_aload {i : Nat} {x : Nat} (hd : decode B pc = .ok (.aload i, 2)) (hl : ls[i]? = some (.ref x)) (hq : pc + 2 = q) (h : V B nL o it d ret X zm wm q ls (.ref x :: st) M Q) : V B nL o it d ret X zm wm pc ls (st) M Q := by
  intro G p l e R s m args below meth c z0 w0 Z C hz hw hr H locs rl hR hL
  subst hq
  exact lv_aload C.1 C.2.1 hd (hL.2.2.2 i _ hl (fun e => by cases e)) (h G p l e R s m args below meth c z0 w0 Z C hz hw hr H locs rl hR hL)
theorem V_sload_n {k : Fin 4} {i : Nat} {x : UInt32} (hd : decode B pc = .ok (.aload_n k, 1)) (hk : (k : Nat) = i) (hl : ls[i]? = some (.float x)) (hq : pc + 1 = q) (h : V B nL o it d ret X zm wm q ls (.float x :: st) M Q) : V B nL o it d ret X zm wm pc ls (st) M Q := by
  intro G p l e R s m args below meth c z0 w0 Z C hz hw hr H locs rl hR hL
  subst hq
  exact lv_aload_n (x := G.2.1 x.toNat) C.1 C.2.1 hd hk (hL.2.2.2 i _ hl (fun e => by cases e)) (h G p l e R s m args below meth c z0 w0 Z C hz hw hr H locs rl hR hL)
theorem V_istore_n {k : Fin 4} {i : Nat} {x : Int32} (hd : decode B pc = .ok (.istore_n k, 1)) (hk : (k : Nat) = i) (hi : i < nL) (hok : ma_okS ls i = true) {ls' : List Value} (hs : ls.set i (.int x) = ls') (hq : pc + 1 = q) (h : V B nL o it d ret X zm wm q ls' st M Q) : V B nL o it d ret X zm wm pc ls (.int x :: st) M Q := by
  intro G p l e R s m args below meth c z0 w0 Z C hz hw hr H locs rl hR hL
  subst hq
  subst hs
  exact lv_istore_n C.1 C.2.1 hd hk hL.has hi rfl (fun rl' h' => h G p l e R s m args below meth c z0 w0 Z C hz hw hr H locs rl' hR (hL.set1 (v := .int x) hok rfl h'))
theorem V_istore {i : Nat} {x : Int32} (hd : decode B pc = .ok (.istore i, 2)) (hi : i < nL) (hok : ma_okS ls i = true) {ls' : List Value} (hs : ls.set i (.int x) = ls') (hq : pc + 2 = q) (h : V B nL o it d ret X zm wm q ls' st M Q) : V B nL o it d ret X zm wm pc ls (.int x :: st) M Q := by
  intro G p l e R s m args below meth c z0 w0 Z C hz hw hr H locs rl hR hL
  subst hq
  subst hs
  exact lv_istore C.1 C.2.1 hd hL.has hi rfl (fun rl' h' => h G p l e R s m args below meth c z0 w0 Z C hz hw hr H locs rl' hR (hL.set1 (v := .int x) hok rfl h'))
theorem V_astore_n {k : Fin 4} {i : Nat} {x : Nat} (hd : decode B pc = .ok (.astore_n k, 1)) (hk : (k : Nat) = i) (hi : i < nL) (hok : ma_okS ls i = true) {ls' : List Value} (hs : ls.set i (.ref x) = ls') (hq : pc + 1 = q) (h : V B nL o it d ret X zm wm q ls' st M Q) : V B nL o it d ret X zm wm pc ls (.ref x :: st) M Q := by
  intro G p l e R s m args below meth c z0 w0 Z C hz hw hr H locs rl hR hL
  subst hq
  subst hs
  exact lv_astore_n C.1 C.2.1 hd hk hL.has hi rfl (fun rl' h' => h G p l e R s m args below meth c z0 w0 Z C hz hw hr H locs rl' hR (hL.set1 (v := .ref x) hok rfl h'))
theorem V_astore {i : Nat} {x : Nat} (hd : decode B pc = .ok (.astore i, 2)) (hi : i < nL) (hok : ma_okS ls i = true) {ls' : List Value} (hs : ls.set i (.ref x) = ls') (hq : pc + 2 = q) (h : V B nL o it d ret X zm wm q ls' st M Q) : V B nL o it d ret X zm wm pc ls (.ref x :: st) M Q := by
  intro G p l e R s m args below meth c z0 w0 Z C hz hw hr H locs rl hR hL
  subst hq
  subst hs
  exact lv_astore C.1 C.2.1 hd hL.has hi rfl (fun rl' h' => h G p l e R s m args below meth c z0 w0 Z C hz hw hr H locs rl' hR (hL.set1 (v := .ref x) hok rfl h'))
theorem V_lstore_n {k : Fin 4} {i : Nat} {x : Int64} (hd : decode B pc = .ok (.lstore_n k, 1)) (hk : (k : Nat) = i) (hi : i + 1 < nL) (hok : ma_okS ls i = true) {ls' : List Value} (hs : (ls.set i (.long x)).set (i + 1) .null = ls') (hq : pc + 1 = q) (h : V B nL o it d ret X zm wm q ls' st M Q) : V B nL o it d ret X zm wm pc ls (.long x :: st) M Q := by
  intro G p l e R s m args below meth c z0 w0 Z C hz hw hr H locs rl hR hL
  subst hq
  subst hs
  exact lv_lstore_n C.1 C.2.1 hd hk hL.has hi rfl (fun rl' h' => h G p l e R s m args below meth c z0 w0 Z C hz hw hr H locs rl' hR (hL.set2 (v := .long x) hok rfl h'))
theorem V_lstore {i : Nat} {x : Int64} (hd : decode B pc = .ok (.lstore i, 2)) (hi : i + 1 < nL) (hok : ma_okS ls i = true) {ls' : List Value} (hs : (ls.set i (.long x)).set (i + 1) .null = ls') (hq : pc + 2 = q) (h : V B nL o it d ret X zm wm q ls' st M Q) : V B nL o it d ret X zm wm pc ls (.long x :: st) M Q := by
  intro G p l e R s m args below meth c z0 w0 Z C hz hw hr H locs rl hR hL
  subst hq
  subst hs
  exact lv_lstore C.1 C.2.1 hd hL.has hi rfl (fun rl' h' => h G p l e R s m args below meth c z0 w0 Z C hz hw hr H locs rl' hR (hL.set2 (v := .long x) hok rfl h'))
theorem V_iinc {i : Nat} {n : Int} {x v : Int32} (hd : decode B pc = .ok (.iinc i n, 3)) (hl : ls[i]? = some (.int x)) (hv : x + Int32.ofInt n = v) (hok : ma_okS ls i = true) {ls' : List Value} (hs : ls.set i (.int v) = ls') (hq : pc + 3 = q) (h : V B nL o it d ret X zm wm q ls' st M Q) : V B nL o it d ret X zm wm pc ls st M Q := by
  intro G p l e R s m args below meth c z0 w0 Z C hz hw hr H locs rl hR hL
  subst hq
  subst hs
  have hi : i < nL := by rw [← hL.2.2.1]; exact (List.getElem?_eq_some_iff.mp hl).1
  have hm : (i, Value.int x) ∈ ma_al G ls := ma_al_mem.mpr ⟨.int x, hl, (fun e => by cases e), rfl⟩
  obtain ⟨k, hk⟩ := List.getElem?_of_mem hm
  exact lv_iinc C.1 C.2.1 hd hL.has hk hv hi rfl (fun rl' h' => h G p l e R s m args below meth c z0 w0 Z C hz hw hr H locs rl' hR (hL.set1 (v := .int v) hok rfl h'))
theorem V_iadd {x y : Int32} (hd : decode B pc = .ok (.iadd, 1)) (hq : pc + 1 = q) (h : V B nL o it d ret X zm wm q ls (.int (x + y) :: st) M Q) : V B nL o it d ret X zm wm pc ls (.int y :: .int x :: st) M Q := by
  intro G p l e R s m args below meth c z0 w0 Z C hz hw hr H locs rl hR hL
  subst hq
  exact lv_iadd C.1 C.2.1 hd (h G p l e R s m args below meth c z0 w0 Z C hz hw hr H locs rl hR hL)
theorem V_isub {x y : Int32} (hd : decode B pc = .ok (.isub, 1)) (hq : pc + 1 = q) (h : V B nL o it d ret X zm wm q ls (.int (x - y) :: st) M Q) : V B nL o it d ret X zm wm pc ls (.int y :: .int x :: st) M Q := by
  intro G p l e R s m args below meth c z0 w0 Z C hz hw hr H locs rl hR hL
  subst hq
  exact lv_isub C.1 C.2.1 hd (h G p l e R s m args below meth c z0 w0 Z C hz hw hr H locs rl hR hL)
theorem V_imul {x y : Int32} (hd : decode B pc = .ok (.imul, 1)) (hq : pc + 1 = q) (h : V B nL o it d ret X zm wm q ls (.int (x * y) :: st) M Q) : V B nL o it d ret X zm wm pc ls (.int y :: .int x :: st) M Q := by
  intro G p l e R s m args below meth c z0 w0 Z C hz hw hr H locs rl hR hL
  subst hq
  exact lv_imul C.1 C.2.1 hd (h G p l e R s m args below meth c z0 w0 Z C hz hw hr H locs rl hR hL)
theorem V_iand {x y : Int32} (hd : decode B pc = .ok (.iand, 1)) (hq : pc + 1 = q) (h : V B nL o it d ret X zm wm q ls (.int (x &&& y) :: st) M Q) : V B nL o it d ret X zm wm pc ls (.int y :: .int x :: st) M Q := by
  intro G p l e R s m args below meth c z0 w0 Z C hz hw hr H locs rl hR hL
  subst hq
  exact lv_iand C.1 C.2.1 hd (h G p l e R s m args below meth c z0 w0 Z C hz hw hr H locs rl hR hL)
theorem V_ior {x y : Int32} (hd : decode B pc = .ok (.ior, 1)) (hq : pc + 1 = q) (h : V B nL o it d ret X zm wm q ls (.int (x ||| y) :: st) M Q) : V B nL o it d ret X zm wm pc ls (.int y :: .int x :: st) M Q := by
  intro G p l e R s m args below meth c z0 w0 Z C hz hw hr H locs rl hR hL
  subst hq
  exact lv_ior C.1 C.2.1 hd (h G p l e R s m args below meth c z0 w0 Z C hz hw hr H locs rl hR hL)
theorem V_ishl {x y : Int32} (hd : decode B pc = .ok (.ishl, 1)) (hq : pc + 1 = q) (h : V B nL o it d ret X zm wm q ls (.int (x <<< (y &&& 31)) :: st) M Q) : V B nL o it d ret X zm wm pc ls (.int y :: .int x :: st) M Q := by
  intro G p l e R s m args below meth c z0 w0 Z C hz hw hr H locs rl hR hL
  subst hq
  exact lv_ishl C.1 C.2.1 hd (h G p l e R s m args below meth c z0 w0 Z C hz hw hr H locs rl hR hL)
theorem V_ishr {x y : Int32} (hd : decode B pc = .ok (.ishr, 1)) (hq : pc + 1 = q) (h : V B nL o it d ret X zm wm q ls (.int (x >>> (y &&& 31)) :: st) M Q) : V B nL o it d ret X zm wm pc ls (.int y :: .int x :: st) M Q := by
  intro G p l e R s m args below meth c z0 w0 Z C hz hw hr H locs rl hR hL
  subst hq
  exact lv_ishr C.1 C.2.1 hd (h G p l e R s m args below meth c z0 w0 Z C hz hw hr H locs rl hR hL)
theorem V_iushr {x y : Int32} (hd : decode B pc = .ok (.iushr, 1)) (hq : pc + 1 = q) (h : V B nL o it d ret X zm wm q ls (.int (x.toUInt32 >>> (y.toUInt32 &&& Int32.toUInt32 31)).toInt32 :: st) M Q) : V B nL o it d ret X zm wm pc ls (.int y :: .int x :: st) M Q := by
  intro G p l e R s m args below meth c z0 w0 Z C hz hw hr H locs rl hR hL
  subst hq
  exact lv_iushr C.1 C.2.1 hd rfl (h G p l e R s m args below meth c z0 w0 Z C hz hw hr H locs rl hR hL)
theorem V_idiv {x y : Int32} (hd : decode B pc = .ok (.idiv, 1)) (hne : ¬ y = 0) (hq : pc + 1 = q) (h : V B nL o it d ret X zm wm q ls (.int (x / y) :: st) M Q) : V B nL o it d ret X zm wm pc ls (.int y :: .int x :: st) M Q := by
  intro G p l e R s m args below meth c z0 w0 Z C hz hw hr H locs rl hR hL
  subst hq
  exact lv_idiv C.1 C.2.1 hd hne (h G p l e R s m args below meth c z0 w0 Z C hz hw hr H locs rl hR hL)
theorem V_irem {x y : Int32} (hd : decode B pc = .ok (.irem, 1)) (hne : ¬ y = 0) (hq : pc + 1 = q) (h : V B nL o it d ret X zm wm q ls (.int (x - x / y * y) :: st) M Q) : V B nL o it d ret X zm wm pc ls (.int y :: .int x :: st) M Q := by
  intro G p l e R s m args below meth c z0 w0 Z C hz hw hr H locs rl hR hL
  subst hq
  exact lv_irem C.1 C.2.1 hd hne (h G p l e R s m args below meth c z0 w0 Z C hz hw hr H locs rl hR hL)
theorem V_ladd {x y : Int64} (hd : decode B pc = .ok (.ladd, 1)) (hq : pc + 1 = q) (h : V B nL o it d ret X zm wm q ls (.long (x + y) :: st) M Q) : V B nL o it d ret X zm wm pc ls (.long y :: .long x :: st) M Q := by
  intro G p l e R s m args below meth c z0 w0 Z C hz hw hr H locs rl hR hL
  subst hq
  exact lv_ladd C.1 C.2.1 hd (h G p l e R s m args below meth c z0 w0 Z C hz hw hr H locs rl hR hL)
theorem V_lmul {x y : Int64} (hd : decode B pc = .ok (.lmul, 1)) (hq : pc + 1 = q) (h : V B nL o it d ret X zm wm q ls (.long (x * y) :: st) M Q) : V B nL o it d ret X zm wm pc ls (.long y :: .long x :: st) M Q := by
  intro G p l e R s m args below meth c z0 w0 Z C hz hw hr H locs rl hR hL
  subst hq
  exact lv_lmul C.1 C.2.1 hd (h G p l e R s m args below meth c z0 w0 Z C hz hw hr H locs rl hR hL)
theorem V_ldiv {x y : Int64} (hd : decode B pc = .ok (.ldiv, 1)) (hne : ¬ y = 0) (hq : pc + 1 = q) (h : V B nL o it d ret X zm wm q ls (.long (x / y) :: st) M Q) : V B nL o it d ret X zm wm pc ls (.long y :: .long x :: st) M Q := by
  intro G p l e R s m args below meth c z0 w0 Z C hz hw hr H locs rl hR hL
  subst hq
  exact lv_ldiv C.1 C.2.1 hd hne (h G p l e R s m args below meth c z0 w0 Z C hz hw hr H locs rl hR hL)
theorem V_lrem {x y : Int64} (hd : decode B pc = .ok (.lrem, 1)) (hne : ¬ y = 0) (hq : pc + 1 = q) (h : V B nL o it d ret X zm wm q ls (.long (x - x / y * y) :: st) M Q) : V B nL o it d ret X zm wm pc ls (.long y :: .long x :: st) M Q := by
  intro G p l e R s m args below meth c z0 w0 Z C hz hw hr H locs rl hR hL
  subst hq
  exact lv_lrem C.1 C.2.1 hd hne (h G p l e R s m args below meth c z0 w0 Z C hz hw hr H locs rl hR hL)
theorem V_lcmp {x y : Int64} (hd : decode B pc = .ok (.lcmp, 1)) (hq : pc + 1 = q) (h : V B nL o it d ret X zm wm q ls (.int (lg_cmp x y) :: st) M Q) : V B nL o it d ret X zm wm pc ls (.long y :: .long x :: st) M Q := by
  intro G p l e R s m args below meth c z0 w0 Z C hz hw hr H locs rl hR hL
  subst hq
  exact W.lcmp C.1 C.2.1 hd (h G p l e R s m args below meth c z0 w0 Z C hz hw hr H locs rl hR hL)
theorem V_i2l {x : Int32} (hd : decode B pc = .ok (.i2l, 1)) (hq : pc + 1 = q) (h : V B nL o it d ret X zm wm q ls (.long x.toInt64 :: st) M Q) : V B nL o it d ret X zm wm pc ls (.int x :: st) M Q := by
  intro G p l e R s m args below meth c z0 w0 Z C hz hw hr H locs rl hR hL
  subst hq
  exact lv_i2l C.1 C.2.1 hd rfl (h G p l e R s m args below meth c z0 w0 Z C hz hw hr H locs rl hR hL)
theorem V_i2b {x : Int32} (hd : decode B pc = .ok (.i2b, 1)) (hq : pc + 1 = q) (h : V B nL o it d ret X zm wm q ls (.int x.toInt8.toInt32 :: st) M Q) : V B nL o it d ret X zm wm pc ls (.int x :: st) M Q := by
  intro G p l e R s m args below meth c z0 w0 Z C hz hw hr H locs rl hR hL
  subst hq
  exact lv_i2b C.1 C.2.1 hd rfl (h G p l e R s m args below meth c z0 w0 Z C hz hw hr H locs rl hR hL)
theorem V_i2s {x : Int32} (hd : decode B pc = .ok (.i2s, 1)) (hq : pc + 1 = q) (h : V B nL o it d ret X zm wm q ls (.int x.toInt16.toInt32 :: st) M Q) : V B nL o it d ret X zm wm pc ls (.int x :: st) M Q := by
  intro G p l e R s m args below meth c z0 w0 Z C hz hw hr H locs rl hR hL
  subst hq
  exact lv_i2s C.1 C.2.1 hd rfl (h G p l e R s m args below meth c z0 w0 Z C hz hw hr H locs rl hR hL)
theorem V_dup {v : Value} (hd : decode B pc = .ok (.dup, 1)) (hv : v.category = 1) (hq : pc + 1 = q) (h : V B nL o it d ret X zm wm q ls (v :: v :: st) M Q) : V B nL o it d ret X zm wm pc ls (v :: st) M Q := by
  intro G p l e R s m args below meth c z0 w0 Z C hz hw hr H locs rl hR hL
  subst hq
  exact lv_dup C.1 C.2.1 hd (by rw [ma_cat]; exact hv) (h G p l e R s m args below meth c z0 w0 Z C hz hw hr H locs rl hR hL)
theorem V_pop {v : Value} (hd : decode B pc = .ok (.pop, 1)) (hv : v.category = 1) (hq : pc + 1 = q) (h : V B nL o it d ret X zm wm q ls (st) M Q) : V B nL o it d ret X zm wm pc ls (v :: st) M Q := by
  intro G p l e R s m args below meth c z0 w0 Z C hz hw hr H locs rl hR hL
  subst hq
  exact lv_pop C.1 C.2.1 hd (by rw [ma_cat]; exact hv) (h G p l e R s m args below meth c z0 w0 Z C hz hw hr H locs rl hR hL)
theorem V_dup2 {v w : Value} (hd : decode B pc = .ok (.dup2, 1)) (hv : v.category = 1) (hw1 : w.category = 1) (hq : pc + 1 = q) (h : V B nL o it d ret X zm wm q ls (v :: w :: v :: w :: st) M Q) : V B nL o it d ret X zm wm pc ls (v :: w :: st) M Q := by
  intro G p l e R s m args below meth c z0 w0 Z C hz hw hr H locs rl hR hL
  subst hq
  exact lv_dup2_11 C.1 C.2.1 hd (by rw [ma_cat]; exact hv) (by rw [ma_cat]; exact hw1) (h G p l e R s m args below meth c z0 w0 Z C hz hw hr H locs rl hR hL)
theorem V_if_eq {x : Int32} {off : Int} {tgt : Nat} (hd : decode B pc = .ok (.ifCond .eq off, 3)) (ht : (pc : Int) + off = (tgt : Int)) (hq : pc + 3 = q) (h1 : x = 0 → V B nL o it d ret X zm wm tgt ls st M Q) (h2 : ¬ x = 0 → V B nL o it d ret X zm wm q ls st M Q) : V B nL o it d ret X zm wm pc ls (.int x :: st) M Q := by
  intro G p l e R s m args below meth c z0 w0 Z C hz hw hr H locs rl hR hL
  subst hq
  exact lv_if_eq C.1 C.2.1 hd ht (fun z => h1 z G p l e R s m args below meth c z0 w0 Z C hz hw hr H locs rl hR hL) (fun z => h2 z G p l e R s m args below meth c z0 w0 Z C hz hw hr H locs rl hR hL)
theorem V_if_ne {x : Int32} {off : Int} {tgt : Nat} (hd : decode B pc = .ok (.ifCond .ne off, 3)) (ht : (pc : Int) + off = (tgt : Int)) (hq : pc + 3 = q) (h1 : ¬ x = 0 → V B nL o it d ret X zm wm tgt ls st M Q) (h2 : x = 0 → V B nL o it d ret X zm wm q ls st M Q) : V B nL o it d ret X zm wm pc ls (.int x :: st) M Q := by
  intro G p l e R s m args below meth c z0 w0 Z C hz hw hr H locs rl hR hL
  subst hq
  exact lv_if_ne C.1 C.2.1 hd ht (fun z => h1 z G p l e R s m args below meth c z0 w0 Z C hz hw hr H locs rl hR hL) (fun z => h2 z G p l e R s m args below meth c z0 w0 Z C hz hw hr H locs rl hR hL)
theorem V_if_lt {x : Int32} {off : Int} {tgt : Nat} (hd : decode B pc = .ok (.ifCond .lt off, 3)) (ht : (pc : Int) + off = (tgt : Int)) (hq : pc + 3 = q) (h1 : x < 0 → V B nL o it d ret X zm wm tgt ls st M Q) (h2 : ¬ x < 0 → V B nL o it d ret X zm wm q ls st M Q) : V B nL o it d ret X zm wm pc ls (.int x :: st) M Q := by
  intro G p l e R s m args below meth c z0 w0 Z C hz hw hr H locs rl hR hL
  subst hq
  exact lv_if_lt C.1 C.2.1 hd ht (fun z => h1 z G p l e R s m args below meth c z0 w0 Z C hz hw hr H locs rl hR hL) (fun z => h2 z G p l e R s m args below meth c z0 w0 Z C hz hw hr H locs rl hR hL)
theorem V_if_ge {x : Int32} {off : Int} {tgt : Nat} (hd : decode B pc = .ok (.ifCond .ge off, 3)) (ht : (pc : Int) + off = (tgt : Int)) (hq : pc + 3 = q) (h1 : 0 ≤ x → V B nL o it d ret X zm wm tgt ls st M Q) (h2 : ¬ 0 ≤ x → V B nL o it d ret X zm wm q ls st M Q) : V B nL o it d ret X zm wm pc ls (.int x :: st) M Q := by
  intro G p l e R s m args below meth c z0 w0 Z C hz hw hr H locs rl hR hL
  subst hq
  exact lv_if_ge C.1 C.2.1 hd ht (fun z => h1 z G p l e R s m args below meth c z0 w0 Z C hz hw hr H locs rl hR hL) (fun z => h2 z G p l e R s m args below meth c z0 w0 Z C hz hw hr H locs rl hR hL)
theorem V_if_gt {x : Int32} {off : Int} {tgt : Nat} (hd : decode B pc = .ok (.ifCond .gt off, 3)) (ht : (pc : Int) + off = (tgt : Int)) (hq : pc + 3 = q) (h1 : 0 < x → V B nL o it d ret X zm wm tgt ls st M Q) (h2 : ¬ 0 < x → V B nL o it d ret X zm wm q ls st M Q) : V B nL o it d ret X zm wm pc ls (.int x :: st) M Q := by
  intro G p l e R s m args below meth c z0 w0 Z C hz hw hr H locs rl hR hL
  subst hq
  exact lv_if_gt C.1 C.2.1 hd ht (fun z => h1 z G p l e R s m args below meth c z0 w0 Z C hz hw hr H locs rl hR hL) (fun z => h2 z G p l e R s m args below meth c z0 w0 Z C hz hw hr H locs rl hR hL)
theorem V_if_le {x : Int32} {off : Int} {tgt : Nat} (hd : decode B pc = .ok (.ifCond .le off, 3)) (ht : (pc : Int) + off = (tgt : Int)) (hq : pc + 3 = q) (h1 : x ≤ 0 → V B nL o it d ret X zm wm tgt ls st M Q) (h2 : ¬ x ≤ 0 → V B nL o it d ret X zm wm q ls st M Q) : V B nL o it d ret X zm wm pc ls (.int x :: st) M Q := by
  intro G p l e R s m args below meth c z0 w0 Z C hz hw hr H locs rl hR hL
  subst hq
  exact lv_if_le C.1 C.2.1 hd ht (fun z => h1 z G p l e R s m args below meth c z0 w0 Z C hz hw hr H locs rl hR hL) (fun z => h2 z G p l e R s m args below meth c z0 w0 Z C hz hw hr H locs rl hR hL)
theorem V_icmp_eq {x y : Int32} {off : Int} {tgt : Nat} (hd : decode B pc = .ok (.if_icmp .eq off, 3)) (ht : (pc : Int) + off = (tgt : Int)) (hq : pc + 3 = q) (h1 : x = y → V B nL o it d ret X zm wm tgt ls st M Q) (h2 : ¬ x = y → V B nL o it d ret X zm wm q ls st M Q) : V B nL o it d ret X zm wm pc ls (.int y :: .int x :: st) M Q := by
  intro G p l e R s m args below meth c z0 w0 Z C hz hw hr H locs rl hR hL
  subst hq
  exact lv_icmp_eq C.1 C.2.1 hd ht (fun z => h1 z G p l e R s m args below meth c z0 w0 Z C hz hw hr H locs rl hR hL) (fun z => h2 z G p l e R s m args below meth c z0 w0 Z C hz hw hr H locs rl hR hL)
theorem V_icmp_ne {x y : Int32} {off : Int} {tgt : Nat} (hd : decode B pc = .ok (.if_icmp .ne off, 3)) (ht : (pc : Int) + off = (tgt : Int)) (hq : pc + 3 = q) (h1 : ¬ x = y → V B nL o it d ret X zm wm tgt ls st M Q) (h2 : x = y → V B nL o it d ret X zm wm q ls st M Q) : V B nL o it d ret X zm wm pc ls (.int y :: .int x :: st) M Q := by
  intro G p l e R s m args below meth c z0 w0 Z C hz hw hr H locs rl hR hL
  subst hq
  exact lv_icmp_ne C.1 C.2.1 hd ht (fun z => h1 z G p l e R s m args below meth c z0 w0 Z C hz hw hr H locs rl hR hL) (fun z => h2 z G p l e R s m args below meth c z0 w0 Z C hz hw hr H locs rl hR hL)
theorem V_icmp_lt {x y : Int32} {off : Int} {tgt : Nat} (hd : decode B pc = .ok (.if_icmp .lt off, 3)) (ht : (pc : Int) + off = (tgt : Int)) (hq : pc + 3 = q) (h1 : x < y → V B nL o it d ret X zm wm tgt ls st M Q) (h2 : ¬ x < y → V B nL o it d ret X zm wm q ls st M Q) : V B nL o it d ret X zm wm pc ls (.int y :: .int x :: st) M Q := by
  intro G p l e R s m args below meth c z0 w0 Z C hz hw hr H locs rl hR hL
  subst hq
  exact lv_icmp_lt C.1 C.2.1 hd ht (fun z => h1 z G p l e R s m args below meth c z0 w0 Z C hz hw hr H locs rl hR hL) (fun z => h2 z G p l e R s m args below meth c z0 w0 Z C hz hw hr H locs rl hR hL)
theorem V_icmp_ge {x y : Int32} {off : Int} {tgt : Nat} (hd : decode B pc = .ok (.if_icmp .ge off, 3)) (ht : (pc : Int) + off = (tgt : Int)) (hq : pc + 3 = q) (h1 : y ≤ x → V B nL o it d ret X zm wm tgt ls st M Q) (h2 : ¬ y ≤ x → V B nL o it d ret X zm wm q ls st M Q) : V B nL o it d ret X zm wm pc ls (.int y :: .int x :: st) M Q := by
  intro G p l e R s m args below meth c z0 w0 Z C hz hw hr H locs rl hR hL
  subst hq
  exact lv_icmp_ge C.1 C.2.1 hd ht (fun z => h1 z G p l e R s m args below meth c z0 w0 Z C hz hw hr H locs rl hR hL) (fun z => h2 z G p l e R s m args below meth c z0 w0 Z C hz hw hr H locs rl hR hL)
theorem V_icmp_gt {x y : Int32} {off : Int} {tgt : Nat} (hd : decode B pc = .ok (.if_icmp .gt off, 3)) (ht : (pc : Int) + off = (tgt : Int)) (hq : pc + 3 = q) (h1 : y < x → V B nL o it d ret X zm wm tgt ls st M Q) (h2 : ¬ y < x → V B nL o it d ret X zm wm q ls st M Q) : V B nL o it d ret X zm wm pc ls (.int y :: .int x :: st) M Q := by
  intro G p l e R s m args below meth c z0 w0 Z C hz hw hr H locs rl hR hL
  subst hq
  exact lv_icmp_gt C.1 C.2.1 hd ht (fun z => h1 z G p l e R s m args below meth c z0 w0 Z C hz hw hr H locs rl hR hL) (fun z => h2 z G p l e R s m args below meth c z0 w0 Z C hz hw hr H locs rl hR hL)
theorem V_icmp_le {x y : Int32} {off : Int} {tgt : Nat} (hd : decode B pc = .ok (.if_icmp .le off, 3)) (ht : (pc : Int) + off = (tgt : Int)) (hq : pc + 3 = q) (h1 : x ≤ y → V B nL o it d ret X zm wm tgt ls st M Q) (h2 : ¬ x ≤ y → V B nL o it d ret X zm wm q ls st M Q) : V B nL o it d ret X zm wm pc ls (.int y :: .int x :: st) M Q := by
  intro G p l e R s m args below meth c z0 w0 Z C hz hw hr H locs rl hR hL
  subst hq
  exact lv_icmp_le C.1 C.2.1 hd ht (fun z => h1 z G p l e R s m args below meth c z0 w0 Z C hz hw hr H locs rl hR hL) (fun z => h2 z G p l e R s m args below meth c z0 w0 Z C hz hw hr H locs rl hR hL)
theorem V_goto {off : Int} {tgt : Nat} (hd : decode B pc = .ok (.goto off, 3)) (ht : (pc : Int) + off = (tgt : Int)) (h : V B nL o it d ret X zm wm tgt ls st M Q) : V B nL o it d ret X zm wm pc ls st M Q := by
  intro G p l e R s m args below meth c z0 w0 Z C hz hw hr H locs rl hR hL
  exact lv_goto C.1 C.2.1 hd ht (h G p l e R s m args below meth c z0 w0 Z C hz hw hr H locs rl hR hL)
theorem V_tableOut {dflt lo hi : Int} {offs : Array Int} {len tgt : Nat} {x : Int32} (hd : decode B pc = .ok (.tableswitch dflt lo hi offs, len)) (hx : x.toInt < lo ∨ hi < x.toInt) (ht : (pc : Int) + dflt = (tgt : Int)) (h : V B nL o it d ret X zm wm tgt ls st M Q) : V B nL o it d ret X zm wm pc ls (.int x :: st) M Q := by
  intro G p l e R s m args below meth c z0 w0 Z C hz hw hr H locs rl hR hL
  exact lv_tableOut C.1 C.2.1 hd hx ht (h G p l e R s m args below meth c z0 w0 Z C hz hw hr H locs rl hR hL)
theorem V_tableIn {dflt lo hi off : Int} {offs : Array Int} {len tgt : Nat} {x : Int32} (hd : decode B pc = .ok (.tableswitch dflt lo hi offs, len)) (h1 : ¬ x.toInt < lo) (h2 : ¬ hi < x.toInt) (ho : offs[(x.toInt - lo).toNat]? = some off) (ht : (pc : Int) + off = (tgt : Int)) (h : V B nL o it d ret X zm wm tgt ls st M Q) : V B nL o it d ret X zm wm pc ls (.int x :: st) M Q := by
  intro G p l e R s m args below meth c z0 w0 Z C hz hw hr H locs rl hR hL
  exact lv_tableIn C.1 C.2.1 hd h1 h2 ho ht (h G p l e R s m args below meth c z0 w0 Z C hz hw hr H locs rl hR hL)
theorem V_lookup {dflt off : Int} {ps : Array (Int × Int)} {len tgt : Nat} {x : Int32} (hd : decode B pc = .ok (.lookupswitch dflt ps, len)) (hp : (ps.toList.zip (ps.toList.drop 1)).all (fun (a, next) => a.1 < next.1) = true) (ho : Op.lookupswitch.offset ps.toList dflt x.toInt = off) (ht : (pc : Int) + off = (tgt : Int)) (h : V B nL o it d ret X zm wm tgt ls st M Q) : V B nL o it d ret X zm wm pc ls (.int x :: st) M Q := by
  intro G p l e R s m args below meth c z0 w0 Z C hz hw hr H locs rl hR hL
  exact lv_lookup C.1 C.2.1 hd hp ho ht (h G p l e R s m args below meth c z0 w0 Z C hz hw hr H locs rl hR hL)
theorem V_top {x y : Int32} (e : x = y) (h : V B nL o it d ret X zm wm pc ls (.int y :: st) M Q) : V B nL o it d ret X zm wm pc ls (.int x :: st) M Q := by
  rw [e]; exact h
theorem V_ret (r : Option Value) {st' : List Value} (hs : r.toList = st') (hv : ma_VR B ret pc r) (h : Q r M) : V B nL o it d ret X zm wm pc ls st' M Q := by
  intro G p l e R s m args below meth c z0 w0 Z C hz hw hr H locs rl hR hL
  subst hs
  exact hr r M H locs pc rl hR h hv
theorem V_ireturn {v : Int32} (hd : decode B pc = .ok (.ireturn, 1)) (hi : ret = some .int) (h : Q (some (.int v)) M) : V B nL o it d ret X zm wm pc ls [.int v] M Q := V_ret (some (.int v)) rfl ⟨⟨_, hi, rfl⟩, hd⟩ h
theorem V_zreturn {v : Int32} (hd : decode B pc = .ok (.ireturn, 1)) (hi : ret = some .boolean) (hv : v = 0 ∨ v = 1) (h : Q (some (.int v)) M) : V B nL o it d ret X zm wm pc ls [.int v] M Q := V_ret (some (.int v)) rfl ⟨⟨_, hi, by rcases hv with rfl | rfl <;> rfl⟩, hd⟩ h
theorem V_lreturn {v : Int64} (hd : decode B pc = .ok (.lreturn, 1)) (hi : ret = some .long) (h : Q (some (.long v)) M) : V B nL o it d ret X zm wm pc ls [.long v] M Q := V_ret (some (.long v)) rfl ⟨hi, hd⟩ h
theorem V_return (hd : decode B pc = .ok (.return_, 1)) (hi : ret = none) (h : Q none M) : V B nL o it d ret X zm wm pc ls [] M Q := V_ret none rfl ⟨hi, hd⟩ h
theorem V_ldc {index : Nat} {v : Int32} (hd : decode B pc = .ok (.ldc index, 2)) (hm : Cond.constant o index v ∈ ma_tbl) (hq : pc + 2 = q) (h : V B nL o it d ret X zm wm q ls (.int v :: st) M Q) : V B nL o it d ret X zm wm pc ls st M Q := by
  intro G p l e R s m args below meth c z0 w0 Z C hz hw hr H locs rl hR hL
  subst hq
  exact lv_ldc C.1 C.2.1 C.2.2.2.1 (C.2.2.2.2.1 _ hm) hd (h G p l e R s m args below meth c z0 w0 Z C hz hw hr H locs rl hR hL)
theorem V_ldcw {index : Nat} {v : Int32} (hd : decode B pc = .ok (.ldc_w index, 3)) (hm : Cond.constant o index v ∈ ma_tbl) (hq : pc + 3 = q) (h : V B nL o it d ret X zm wm q ls (.int v :: st) M Q) : V B nL o it d ret X zm wm pc ls st M Q := by
  intro G p l e R s m args below meth c z0 w0 Z C hz hw hr H locs rl hR hL
  subst hq
  exact lv_ldcw C.1 C.2.1 C.2.2.2.1 (C.2.2.2.2.1 _ hm) hd (h G p l e R s m args below meth c z0 w0 Z C hz hw hr H locs rl hR hL)
theorem V_ldc2 {index : Nat} {v : Int64} (hd : decode B pc = .ok (.ldc2_w index, 3)) (hm : Cond.constantLong o index v ∈ ma_tbl) (hq : pc + 3 = q) (h : V B nL o it d ret X zm wm q ls (.long v :: st) M Q) : V B nL o it d ret X zm wm pc ls st M Q := by
  intro G p l e R s m args below meth c z0 w0 Z C hz hw hr H locs rl hR hL
  subst hq
  exact lv_ldc2 C.1 C.2.1 C.2.2.2.1 (C.2.2.2.2.1 _ hm) hd (h G p l e R s m args below meth c z0 w0 Z C hz hw hr H locs rl hR hL)
theorem V_ldcS {index i : Nat} {tx : String} (hd : decode B pc = .ok (.ldc index, 2)) (ho : o = RX5) (hs : ma_str[i]? = some (index, tx)) (hi : (UInt32.ofNat i).toNat = i) (hq : pc + 2 = q) (h : V B nL o it d ret X zm wm q ls (.float (UInt32.ofNat i) :: st) M Q) : V B nL o it d ret X zm wm pc ls st M Q := by
  intro G p l e R s m args below meth c z0 w0 Z C hz hw hr H locs rl hR hL
  subst hq
  obtain ⟨hlt, he⟩ := List.getElem?_eq_some_iff.mp hs
  have hzS := C.2.2.2.2.2.1.2.2.2.2.1 i hlt
  rw [he] at hzS
  have k := h G p l e R s m args below meth c z0 w0 Z C hz hw hr H locs rl hR hL
  simp only [List.map_cons, ma_tv, hi] at k
  exact va_ldcS C.1 C.2.1 (own := RX5) (by rw [← ho]; exact C.2.2.2.1) hzS hd k
end RULES
