/-! THE MACHINE'S WORLD BY NUMBERS: cell k of a memory lies at the address b + k; references are such numbers (a String constant is written as a float, by its place; so is the script) -/
abbrev AC : Type := (Nat × Nat × ((Nat → Int32) ⊕ (Nat → Option Nat))) ⊕ (Nat × List Value)
abbrev Mem : Type := (Nat × Nat) × (Nat → Option AC)
/-- base, the Strings' addresses, their rows' addresses, the classes' numbers and slots, the array classes by tags -/
abbrev WG : Type := Nat × (Nat → Nat) × (Nat → Nat) × va_G × (Nat → ClassId)
def ma_tv (G : WG) : Value → Value
  | .ref k => .ref (G.1 + k)
  | .float i => .ref (G.2.1 i.toNat)
  | v => v
def ma_te (G : WG) : AC → va_E
  | .inl (t, n, .inl f) => .inl (G.2.2.2.2 t, n, .inl f)
  | .inl (t, n, .inr g) => .inl (G.2.2.2.2 t, n, .inr (.inr (.inr (.inr (fun j => (g j).map (fun k => G.1 + k))))))
  | .inr (c, fs) => .inr (c, fs.map (ma_tv G))
def ma_lm (G : WG) (M : Mem) : va_W := (List.range M.1.1).map fun k => (G.1 + k, ma_te G ((M.2 k).getD (.inr (0, []))))
def ma_put (M : Mem) (k : Nat) (c : AC) : Mem := (M.1, va_up M.2 k (some c))
def ma_new (M : Mem) (n : Nat) (c : AC) : Mem := ((M.1.1 + 1, M.1.2 + n), va_up M.2 M.1.1 (some c))
def ma_wf (M : Mem) : Prop := ∀ k c, M.2 k = some c → k < M.1.1
def ma_tys (cA : Nat → ClassId) : List (ClassId × FieldType) := [(cA 0, .int), (cA 1, .byte), (cA 2, .boolean), (cA 3, .object RX0), (cA 4, .object RX3), (cA 5, .object RX4)]
abbrev ma_A (G : WG) : Nat → Prop := fun q => G.1 ≤ q
theorem ma_cat (G : WG) (v : Value) : (ma_tv G v).category = v.category := by cases v <;> rfl
theorem ma_lm_get {G : WG} {M : Mem} {k : Nat} {c : AC} (h : M.2 k = some c) (hw : ma_wf M) : (ma_lm G M)[k]? = some (G.1 + k, ma_te G c) := by
  have hk := hw k c h
  simp [ma_lm, hk, h]
theorem ma_lm_at {G : WG} {M : Mem} {k : Nat} {q : Nat × va_E} (h : (ma_lm G M)[k]? = some q) : q.1 = G.1 + k := by
  simp only [ma_lm, List.getElem?_map] at h
  cases hk : (List.range M.1.1)[k]? with
  | none => rw [hk] at h; cases h
  | some j =>
    rw [hk] at h
    have hj : j = k := by
      have := (List.getElem?_eq_some_iff.mp hk).2
      simpa using this.symm
    subst hj
    cases h
    rfl
theorem ma_lm_D {G : WG} {M : Mem} : va_D (ma_A G) (ma_lm G M) := by
  refine ⟨fun i j p q hp hq e => ?_, fun k q hq => ?_⟩
  · have h1 := ma_lm_at hp
    have h2 := ma_lm_at hq
    omega
  · have h1 := ma_lm_at hq
    show G.1 ≤ q.1
    omega
theorem ma_lm_put {G : WG} {M : Mem} {k : Nat} {c : AC} (hk : k < M.1.1) : (ma_lm G M).set k (G.1 + k, ma_te G c) = ma_lm G (ma_put M k c) := by
  apply List.ext_getElem?
  intro i
  by_cases hi : i = k
  · subst hi
    simp [ma_lm, ma_put, va_up, hk]
  · rw [List.getElem?_set_ne (fun e => hi e.symm)]
    simp only [ma_lm, ma_put, List.getElem?_map]
    cases hr : (List.range M.1.1)[i]? with
    | none => rfl
    | some j =>
      have hj : j = i := by
        have := (List.getElem?_eq_some_iff.mp hr).2
        simpa using this.symm
      subst hj
      simp [va_up, hi]
theorem ma_lm_new {G : WG} {M : Mem} {n : Nat} {c : AC} : ma_lm G M ++ [(G.1 + M.1.1, ma_te G c)] = ma_lm G (ma_new M n c) := by
  simp only [ma_lm, ma_new, List.range_succ, List.map_append, List.map_cons, List.map_nil]
  congr 1
  · apply List.map_congr_left
    intro k hk
    have hk := List.mem_range.mp hk
    have : k ≠ M.1.1 := by omega
    simp [va_up, this]
  · simp [va_up]
theorem ma_wf_put {M : Mem} {k : Nat} {c : AC} (h : ma_wf M) (hk : k < M.1.1) : ma_wf (ma_put M k c) := by
  intro j d hj
  by_cases e : j = k
  · subst e; exact hk
  · exact h j d (by simpa [ma_put, va_up, e] using hj)
theorem ma_wf_new {M : Mem} {n : Nat} {c : AC} (h : ma_wf M) : ma_wf (ma_new M n c) := by
  intro j d hj
  show j < M.1.1 + 1
  by_cases e : j = M.1.1
  · omega
  · have := h j d (by simpa [ma_new, va_up, e] using hj)
    omega
/-- the words that stay, of the tables -/
def ma_tbl : List Cond := lw_tbl.filter goodWord
theorem ma_mem {w : Cond} (i : Nat) (h : lw_tbl[i]? = some w) (hg : goodWord w = true) : w ∈ ma_tbl := List.mem_filter.mpr ⟨List.mem_of_getElem? h, hg⟩
theorem ma_good {w : Cond} (hw : w ∈ ma_tbl) : GoodIn ma_tbl (w :: ma_tbl) := fun v hv => by
  rcases List.mem_cons.mp hv with rfl | hv
  · exact ⟨hw, good_of_word (List.mem_filter.mp hw).2⟩
  · exact ⟨hv, good_of_word (List.mem_filter.mp hv).2⟩
/-- the classes by numbers -/
def Rn : Nat → String := fun i => match i with | 0 => RX0 | 1 => RX1 | 2 => RX2 | 3 => RX3 | 4 => RX4 | 5 => RX5 | 6 => RX6 | _ => RX7
def Tn : Nat → u_T := fun i => match i with | 0 => TX0 | 1 => TX1 | 2 => TX2 | 3 => TX3 | 4 => TX4 | 5 => TX5 | 6 => TX6 | _ => TX7
def Nn : Nat → Nat := fun i => match i with | 0 => 6 | 1 => 2 | 2 => 4 | 3 => 3 | 4 => 4 | 5 => 9 | 6 => 12 | _ => 29
def tyn : Nat → Nat → FieldType := fun i => match i with | 0 => tyX0 | 1 => tyX1 | 2 => tyX2 | 3 => tyX3 | 4 => tyX4 | 5 => tyX5 | 6 => tyX6 | _ => tyX7
theorem ma_cl {i : Nat} (h : i < 8) : vwCl[i]? = some (Rn i, Tn i, Nn i) := by
  match i, h with
  | 0, _ => rfl
  | 1, _ => rfl
  | 2, _ => rfl
  | 3, _ => rfl
  | 4, _ => rfl
  | 5, _ => rfl
  | 6, _ => rfl
  | 7, _ => rfl
theorem ma_tyn {i : Nat} (h : i < 8) : ∀ k, k < Nn i → parseFieldDescriptor (Tn i k).2.2.1 = some (tyn i k) := by
  match i, h with
  | 0, _ => exact tyX0_ok
  | 1, _ => exact tyX1_ok
  | 2, _ => exact tyX2_ok
  | 3, _ => exact tyX3_ok
  | 4, _ => exact tyX4_ok
  | 5, _ => exact tyX5_ok
  | 6, _ => exact tyX6_ok
  | 7, _ => exact tyX7_ok
theorem ma_nmn {i : Nat} (h : i < 8) : ∀ a, a < Nn i → ∀ b, b < Nn i → a ≠ b → (Tn i a).2.1 ≠ (Tn i b).2.1 := by
  match i, h with
  | 0, _ => exact nmX0
  | 1, _ => exact nmX1
  | 2, _ => exact nmX2
  | 3, _ => exact nmX3
  | 4, _ => exact nmX4
  | 5, _ => exact nmX5
  | 6, _ => exact nmX6
  | 7, _ => exact nmX7
theorem ma_in0 : ∀ i, i < 8 → ∀ w ∈ u_ws (Rn i) (Tn i) (Nn i), w ∈ ma_tbl := by decide +kernel
theorem ma_in1 : ∀ i, i < 8 → ∀ k, k < Nn i → (Tn i k).1 = Rn i := by decide +kernel
/-- Strings, the nest's words, the arrays' words -/
def ma_str : List (Nat × String) := [(55, "books"), (64, "want"), (98, "stay"), (100, "step"), (102, "front"), (104, "often")]
def ma_len : List Nat := [5, 4, 4, 4, 5, 5]
def ma_byt : List (List Int32) := [[98, 111, 111, 107, 115], [119, 97, 110, 116], [115, 116, 97, 121], [115, 116, 101, 112], [102, 114, 111, 110, 116], [111, 102, 116, 101, 110]]
def ma_nest : List (Nat × MethodName) := [(29, yX5_init), (36, yX2_init), (49, yX1_init), (68, yX3_init)]
def ma_S (G : WG) (U : State) (H : Heap) : Prop :=
  va_K G.2.2.2.1 vwCl (ma_tys G.2.2.2.2) U ∧ (va_AO RX0 U ∧ va_AO RX3 U ∧ va_AO RX4 U) ∧ (∀ q ∈ ma_nest, va_Nw (.methodLinkNest RX6 q.1 q.2 RX6) U) ∧
  vk_S 6 ma_len ma_byt G.2.1 G.2.2.1 (ma_A G) U H ∧ (∀ i (h : i < ma_str.length), vk_R RX5 (ma_str[i]).1 (ma_str[i]).2 (G.2.1 i) U) ∧
  va_Z "java/lang/String" "COMPACT_STRINGS" "Z" (.int 1) (ma_A G) U H ∧ va_Zq "jdk/internal/util/Preconditions" "SIOOBE_FORMATTER" "Ljava/util/function/BiFunction;" (ma_A G) U H
theorem ma_S.warm {G : WG} {s U : State} {H H1 : Heap} (h : ma_S G s H) (hW : s.WarmedH U.vm) (hq : ∀ a : Nat, a < H.size → ¬ ma_A G a → H1[a]? = H[a]?) : ma_S G U H1 := by
  obtain ⟨h1, ⟨h2, h3, h4⟩, h5, h6, h7, h8, h9⟩ := h
  have ha := hW.alike
  exact ⟨va_K.moved ha h1, ⟨va_AO.moved ha h2, va_AO.moved ha h3, va_AO.moved ha h4⟩, fun q hq => va_Nw.warmM hW (h5 q hq), (vk_S.moved ha h6).kept hq, fun i hi => vk_R.warm hW (h7 i hi), (va_Z.moved ha h8).kept hq, (va_Zq.moved ha h9).kept hq⟩
theorem ma_S.same {G : WG} {s U : State} {H : Heap} (h : ma_S G s H) (hv : s.vm = U.vm) : ma_S G U H := by
  obtain ⟨h1, ⟨h2, h3, h4⟩, h5, h6, h7, h8, h9⟩ := h
  have ha : s.vm.Alike U.vm := by rw [hv]; exact Vm.Alike.refl U.vm
  exact ⟨va_K.moved ha h1, ⟨va_AO.moved ha h2, va_AO.moved ha h3, va_AO.moved ha h4⟩, fun q hq => va_Nw.same rfl hv (h5 q hq), vk_S.moved ha h6, fun i hi => vk_R.same hv.symm (h7 i hi), va_Z.moved ha h8, va_Zq.moved ha h9⟩
def ma_W (G : WG) (M : Mem) (U : State) : Prop := U.heap.size = G.1 + M.1.1 ∧ va_P G.2.2.2.1 vwCl (ma_lm G M) U.heap ∧ ma_wf M
abbrev MT : Type := MethodName × ByteArray × Nat × Option FieldType
def ma_Q (G : WG) (r : Option Value) (M : Mem) : Array Value → State → Outcome → State → Prop := fun _ st oc t =>
  (oc = .returned (r.map (ma_tv G)) ∧ t.heap.size = G.1 + M.1.1 ∧ va_P G.2.2.2.1 vwCl (ma_lm G M) t.heap ∧ ma_wf M) ∧ va_F (ma_A G) st t
/-- a method's CONTRACT over memories: with d frames below it, from these arguments and this memory it answers r and leaves that memory -/
def Cl (d : Nat) (y : MT) (args : List Value) (M : Mem) (r : Option Value) (M' : Mem) : Prop :=
  M.1.1 ≤ M'.1.1 ∧ M.1.2 ≤ M'.1.2 ∧ ∀ (l : Launch) (G : WG), Met l y.1 (.code y.1 y.2.1 y.2.2.1 y.2.2.2 :: ma_tbl) { frames := d, cells := M'.1.1 - M.1.1, slots := M'.1.2 - M.1.2, locals := 36 * d }
    (va_Pc (args.map (ma_tv G)) (fun U => ma_W G M U ∧ ma_S G U U.heap)) (ma_Q G r M') (M'.1.1 - M.1.1) (M'.1.2 - M.1.2) (ma_A G)
/-- the locals -/
def ma_L (G : WG) (nL : Nat) (ls : List Value) (rl : Array Slot) : Prop := rl.size = nL ∧ lv_wf rl ∧ ls.length = nL ∧ ∀ (i : Nat) (v : Value), ls[i]? = some v → v ≠ .null → rl[i]? = some (.val (ma_tv G v))
def ma_VC (B : ByteArray) (nL : Nat) (o : String) (it : Bool) (d : Nat) (ret : Option FieldType) (X : Option (Nat × (Nat → Int32))) (G : WG) (p : Program) (R : Room) (s : State) (m : MethodId) (args : Array Value) (meth : Method) (c : Code) : Prop :=
  p.tables.exec = Jvm.exec ∧ c.code = B ∧ c.maxLocals = nL ∧ s.vm.findClass o = some m.cls ∧ (∀ w ∈ ma_tbl, w.before args s = true) ∧ ma_S G s s.heap ∧ (d ≤ R.frames ∧ 36 * d ≤ R.locals) ∧ meth.sig.returnType = ret ∧ meth.locks = false ∧ (it = true → meth.name = "<init>") ∧ G.1 ≤ s.heap.size ∧
  (∀ q, X = some q → va_X (G.2.1 1000) q.1 q.2 s s.heap ∧ G.2.1 1000 < G.1)
def ma_R (G : WG) (s : State) (z0 w0 : Nat) (M : Mem) (H : Heap) (locs : List Loc) : Prop :=
  z0 ≤ M.1.1 ∧ w0 ≤ M.1.2 ∧ H.size = G.1 + M.1.1 ∧ va_P G.2.2.2.1 vwCl (ma_lm G M) H ∧ ma_wf M ∧ va_S (ma_A G) s.heap H locs
def ma_VR (B : ByteArray) (ret : Option FieldType) (pc : Nat) : Option Value → Prop
  | none => ret = none ∧ decode B pc = .ok (.return_, 1)
  | some (.int v) => (∃ ty, ret = some ty ∧ narrow ty (.int v) = .int v) ∧ decode B pc = .ok (.ireturn, 1)
  | some (.long _) => ret = some .long ∧ decode B pc = .ok (.lreturn, 1)
  | _ => False
/-- the machine at pc, with these locals and this stack and memory, comes to its end with Q -/
def V (B : ByteArray) (nL : Nat) (o : String) (it : Bool) (d : Nat) (ret : Option FieldType) (X : Option (Nat × (Nat → Int32))) (zm wm : Nat) (pc : Nat) (ls st : List Value) (M : Mem) (Q : Option Value → Mem → Prop) : Prop :=
  ∀ (G : WG) (p : Program) (l : Launch) (e : Env) (R : Room) (s : State) (m : MethodId) (args : Array Value) (below : List Frame) (meth : Method) (c : Code) (z0 w0 : Nat) (Z : State → Prop),
    ma_VC B nL o it d ret X G p R s m args meth c → zm - z0 ≤ R.cells → wm - w0 ≤ R.slots →
    (∀ (r : Option Value) (M' : Mem) (H' : Heap) (locs' : List Loc) (pc' : Nat) (rl' : Array Slot), ma_R G s z0 w0 M' H' locs' → Q r M' → ma_VR B ret pc' r → W p l e R s m args below meth c H' locs' (M'.1.1 - z0) (M'.1.2 - w0) Z (F0 m pc' rl' (r.toList.map (ma_tv G)))) →
    ∀ (H : Heap) (locs : List Loc) (rl : Array Slot), ma_R G s z0 w0 M H locs → ma_L G nL ls rl → W p l e R s m args below meth c H locs (M.1.1 - z0) (M.1.2 - w0) Z (F0 m pc rl (st.map (ma_tv G)))
