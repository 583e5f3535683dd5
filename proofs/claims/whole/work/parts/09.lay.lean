/-! THE MEMORY BEHIND THE CONSTRUCTORS: a fixed layout, and all that changes as one table of ints: F a k is slot k of cell a -/
abbrev SH : Type := (Nat × List (Option Nat)) ⊕ (Nat × Nat) ⊕ (Nat × List Nat)
abbrev FF : Type := Nat → Nat → Int32
def layL : List SH := [
  .inl (6, [some 1, some 16, some 31, some 32, some 33, some 35, some 39, some 40, some 41, some 42, some 43, none]),
  .inl (0, [none, none, none, none, some 2, some 3]),
  .inr (.inr (5, [4, 7, 10, 13])),
  .inr (.inl (0, 16)),
  .inl (4, [none, none, some 5, some 6]),
  .inr (.inl (0, 6)),
  .inr (.inl (0, 6)),
  .inl (4, [none, none, some 8, some 9]),
  .inr (.inl (0, 6)),
  .inr (.inl (0, 6)),
  .inl (4, [none, none, some 11, some 12]),
  .inr (.inl (0, 6)),
  .inr (.inl (0, 6)),
  .inl (4, [none, none, some 14, some 15]),
  .inr (.inl (0, 6)),
  .inr (.inl (0, 6)),
  .inl (0, [none, none, none, none, some 17, some 18]),
  .inr (.inr (5, [19, 22, 25, 28])),
  .inr (.inl (0, 16)),
  .inl (4, [none, none, some 20, some 21]),
  .inr (.inl (0, 6)),
  .inr (.inl (0, 6)),
  .inl (4, [none, none, some 23, some 24]),
  .inr (.inl (0, 6)),
  .inr (.inl (0, 6)),
  .inl (4, [none, none, some 26, some 27]),
  .inr (.inl (0, 6)),
  .inr (.inl (0, 6)),
  .inl (4, [none, none, some 29, some 30]),
  .inr (.inl (0, 6)),
  .inr (.inl (0, 6)),
  .inr (.inr (3, [44, 59])),
  .inr (.inl (2, 2)),
  .inl (5, [some 34, none, none, none, none, none, none, none, none]),
  .inr (.inl (1, 160)),
  .inl (2, [none, some 36, some 37, some 38]),
  .inr (.inl (0, 6)),
  .inr (.inl (0, 6)),
  .inr (.inl (0, 6)),
  .inr (.inr (4, [74, 76, 78, 80])),
  .inl (1, [none, none]),
  .inr (.inl (0, 6)),
  .inr (.inl (0, 6)),
  .inr (.inl (0, 164)),
  .inl (0, [none, none, none, none, some 45, some 46]),
  .inr (.inr (5, [47, 50, 53, 56])),
  .inr (.inl (0, 16)),
  .inl (4, [none, none, some 48, some 49]),
  .inr (.inl (0, 6)),
  .inr (.inl (0, 6)),
  .inl (4, [none, none, some 51, some 52]),
  .inr (.inl (0, 6)),
  .inr (.inl (0, 6)),
  .inl (4, [none, none, some 54, some 55]),
  .inr (.inl (0, 6)),
  .inr (.inl (0, 6)),
  .inl (4, [none, none, some 57, some 58]),
  .inr (.inl (0, 6)),
  .inr (.inl (0, 6)),
  .inl (0, [none, none, none, none, some 60, some 61]),
  .inr (.inr (5, [62, 65, 68, 71])),
  .inr (.inl (0, 16)),
  .inl (4, [none, none, some 63, some 64]),
  .inr (.inl (0, 6)),
  .inr (.inl (0, 6)),
  .inl (4, [none, none, some 66, some 67]),
  .inr (.inl (0, 6)),
  .inr (.inl (0, 6)),
  .inl (4, [none, none, some 69, some 70]),
  .inr (.inl (0, 6)),
  .inr (.inl (0, 6)),
  .inl (4, [none, none, some 72, some 73]),
  .inr (.inl (0, 6)),
  .inr (.inl (0, 6)),
  .inl (3, [none, none, some 75]),
  .inr (.inl (0, 40)),
  .inl (3, [none, none, some 77]),
  .inr (.inl (0, 40)),
  .inl (3, [none, none, some 79]),
  .inr (.inl (0, 40)),
  .inl (3, [none, none, some 81]),
  .inr (.inl (0, 40)),
  .inl (7, [some 83, none, some 84, none, none, none, some 85, none, none, none, none, none, none, none, none, some 86, some 87, some 88, none, none, none, some 89, none, some 90, some 91, some 92, some 93, some 94, none]),
  .inr (.inl (0, 450)),
  .inr (.inl (0, 75)),
  .inr (.inl (0, 160)),
  .inr (.inl (0, 7)),
  .inr (.inl (0, 27)),
  .inr (.inl (0, 4)),
  .inr (.inl (0, 18)),
  .inr (.inl (0, 984)),
  .inr (.inl (2, 2)),
  .inr (.inl (0, 4)),
  .inr (.inl (0, 4)),
  .inr (.inl (0, 160))]
def lay (a : Nat) : Option SH := layL[a]?
def fcell (F : FF) (a : Nat) : SH → AC
  | .inl (ci, fs) => .inr (ci, fs.mapIdx (fun k r => match r with | none => .int (F a k) | some r => .ref r))
  | .inr (.inl (t, n)) => .inl (t, n, .inl (F a))
  | .inr (.inr (t, rs)) => .inl (t, rs.length, .inr (fun j => rs[j]?))
def mem (F : FF) : Mem := ((95, 2845), fun a => (lay a).map (fcell F a))
def fput (F : FF) (a k : Nat) (x : Int32) : FF := va_up F a (upd (F a) k x)
theorem fput_s {F : FF} {a k : Nat} {x : Int32} : fput F a k x a k = x := by simp [fput, va_up, upd]
theorem fput_k {F : FF} {a k k' : Nat} {x : Int32} (h : k' ≠ k) : fput F a k x a k' = F a k' := by simp [fput, va_up, upd, h]
theorem fput_a {F : FF} {a a' k : Nat} {x : Int32} (h : a' ≠ a) : fput F a k x a' = F a' := by simp [fput, va_up, h]
theorem fput_e {F : FF} {a a' k k' : Nat} {x : Int32} : fput F a k x a' k' = if a' = a ∧ k' = k then x else F a' k' := by
  by_cases h : a' = a
  · subst h
    by_cases h2 : k' = k
    · subst h2; simp [fput_s]
    · simp [fput_k h2, h2]
  · rw [fput_a h]; simp [h]
theorem mem_at {F : FF} {a : Nat} {c : SH} (h : lay a = some c) : (mem F).2 a = some (fcell F a c) := by simp [mem, h]
theorem mem_wf (F : FF) : ma_wf (mem F) := by
  intro k c h
  cases hl : lay k with
  | none => simp [mem, hl] at h
  | some s =>
    have := (List.getElem?_eq_some_iff.mp hl).1
    exact this
theorem mem_put {F : FF} {a k : Nat} {x : Int32} {c : SH} {e : AC} (h : lay a = some c) (he : e = fcell (fput F a k x) a c) : ma_put (mem F) a e = mem (fput F a k x) := by
  unfold ma_put mem
  congr 1
  funext b
  by_cases hb : b = a
  · subst hb
    simp [va_up, h, he]
  · simp only [va_up, hb, if_false]
    cases hl : lay b with
    | none => rfl
    | some s =>
      simp only [Option.map_some]
      congr 1
      match s with
      | .inl (ci, fs) => simp only [fcell, fput_a hb]
      | .inr (.inl (t, n)) => simp only [fcell, fput_a hb]
      | .inr (.inr (t, rs)) => rfl
theorem mem_row {F : FF} {a t n : Nat} {f : Nat → Int32} (h : lay a = some (.inr (.inl (t, n)))) : ma_put (mem F) a (.inl (t, n, .inl f)) = mem (va_up F a f) := by
  unfold ma_put mem
  congr 1
  funext b
  by_cases hb : b = a
  · subst hb
    simp [va_up, h, fcell]
  · simp only [va_up, hb, if_false]
    cases hl : lay b with
    | none => rfl
    | some s =>
      simp only [Option.map_some]
      congr 1
      have e9 : va_up F a f b = F b := by simp [va_up, hb]
      match s with
      | .inl (ci, fs) => simp only [fcell, e9]
      | .inr (.inl (t, n)) => simp only [fcell, e9]
      | .inr (.inr (t, rs)) => rfl
/-- the machine over tables -/
abbrev FV (B : ByteArray) (nL : Nat) (o : String) (d : Nat) (ret : Option FieldType) (X : Option (Nat × (Nat → Int32))) (pc : Nat) (ls st : List Value) (F : FF) (Q : Option Value → FF → Prop) : Prop := V B nL o false d ret X 95 2845 pc ls st (mem F) (fun r M' => ∃ F', M' = mem F' ∧ Q r F')
/-- a CONTRACT over tables: the answer and the table behind it are as Post says -/
def CP (d : Nat) (y : MT) (args : List Value) (F : FF) (Post : Option Value → FF → Prop) : Prop :=
  ∀ (l : Launch) (G : WG), Met l y.1 (.code y.1 y.2.1 y.2.2.1 y.2.2.2 :: ma_tbl) { frames := d, cells := 0, slots := 0, locals := 36 * d }
    (va_Pc (args.map (ma_tv G)) (fun U => ma_W G (mem F) U ∧ ma_S G U U.heap)) (fun av st oc t => ∃ r F', Post r F' ∧ ma_Q G r (mem F') av st oc t) 0 0 (ma_A G)
theorem CP_of_V {d : Nat} {y : MT} {args : List Value} {F : FF} {Post : Option Value → FF → Prop} (hy : plainName y.1.cls = true) (hfit : (ma_fl args).length ≤ y.2.2.1)
    (h : FV y.2.1 y.2.2.1 y.1.cls d y.2.2.2 none 0 (ma_ent y.2.2.1 args) [] F Post) : CP d y args F Post := by
  intro l G
  refine Met.ofW (cc := y.2.1) (maxL := y.2.2.1) (ret := y.2.2.2) hy rfl ?_
  intro p e s m args' below meth c s₁ Bd hml hv
  obtain ⟨rfl, ⟨hW1, hW2, hW3⟩, hS⟩ := hv
  have hts := atoms_spec (ws := .code y.1 y.2.1 y.2.2.1 y.2.2.2 :: ma_tbl) Bd.pre
  have hown : s.vm.findClass y.1.cls = some m.cls := findClass_of_methodNamed Bd.named
  have hlocks := Bd.notSynchronized
  rw [lg_entry_eq]
  have key := h G p l e { frames := d, cells := 0, slots := 0, locals := 36 * d } s m ((args.map (ma_tv G)).toArray) below meth c 95 2845 (MQ below (fun av st oc t => ∃ r F', Post r F' ∧ ma_Q G r (mem F') av st oc t) ((args.map (ma_tv G)).toArray) s 0 0 (ma_A G))
    ⟨Bd.exec, Bd.bytes, hml, hown, fun w hw => hts w (List.mem_cons_of_mem _ hw), hS, ⟨Nat.le_refl _, Nat.le_refl _⟩, Bd.returns, hlocks, (fun e => by cases e), (by rw [hW1]; exact Nat.le_add_right _ _), (fun _ e => by cases e)⟩ (Nat.le_refl _) (Nat.le_refl _)
    (fun r' M2 H' locs' pc' rl' hR hQ hV => by
      obtain ⟨F2, rfl, hPo⟩ := hQ
      obtain ⟨g1, g2, g3, g4, g5, g6⟩ := hR
      rw [show (mem F2).1.1 - 95 = 0 from Nat.sub_self 95, show (mem F2).1.2 - 2845 = 0 from Nat.sub_self 2845]
      match r', hV, hPo with
      | none, hV, hPo => exact W.vret Bd.exec Bd.bytes (Bd.returns.trans hV.1) (fun t ht hWm => ⟨none, F2, hPo, ⟨rfl, by rw [ht]; exact g3, by rw [ht]; exact g4, g5⟩, g6.F ht⟩) g6.2.2 hV.2 hlocks
      | some (.int v), hV, hPo =>
        obtain ⟨⟨ty, e1, e2⟩, e3⟩ := hV
        exact W.zret Bd.exec Bd.bytes (Bd.returns.trans e1) e2 (fun t ht hWm => ⟨some (.int v), F2, hPo, ⟨rfl, by rw [ht]; exact g3, by rw [ht]; exact g4, g5⟩, g6.F ht⟩) g6.2.2 e3 hlocks
      | some (.long v), hV, hPo => exact W.lret Bd.exec Bd.bytes (Bd.returns.trans hV.1) (fun t ht hWm => ⟨some (.long v), F2, hPo, ⟨rfl, by rw [ht]; exact g3, by rw [ht]; exact g4, g5⟩, g6.F ht⟩) g6.2.2 hV.2 hlocks)
    s.heap [] _ ⟨Nat.le_refl _, Nat.le_refl _, hW1, hW2, hW3, va_S.rf⟩ (ma_L_ent hfit)
  rw [show (mem F).1.1 - 95 = 0 from Nat.sub_self 95, show (mem F).1.2 - 2845 = 0 from Nat.sub_self 2845] at key
  exact key
theorem CP.mono {d : Nat} {y : MT} {args : List Value} {F : FF} {P1 P2 : Option Value → FF → Prop} (h : CP d y args F P1) (hp : ∀ r F', P1 r F' → P2 r F') : CP d y args F P2 := by
  intro l G p e ha hc hk s m args' below hf h1 h2 h3
  obtain ⟨k, o, g1, g2, g3, ⟨⟨r, F', g4, g5⟩, g6⟩⟩ := h l G p e ha hc hk s m args' below hf h1 h2 h3
  exact ⟨k, o, g1, g2, g3, ⟨⟨r, F', hp r F' g4, g5⟩, g6⟩⟩
section FRULES
variable {B : ByteArray} {nL : Nat} {o : String} {it : Bool} {d : Nat} {ret : Option FieldType} {X : Option (Nat × (Nat → Int32))} {zm wm pc q : Nat} {ls st : List Value} {F : FF} {Q : Option Value → Mem → Prop}
theorem fcell_int {F : FF} {a ci k : Nat} {fs : List (Option Nat)} (hk : fs[k]? = some none) : (fs.mapIdx (fun k r => match r with | none => Value.int (F a k) | some r => .ref r))[k]? = some (.int (F a k)) := by
  rw [List.getElem?_mapIdx, hk]; rfl
theorem F_getI {idx ci k a : Nat} {fs : List (Option Nat)} (hd : decode B pc = .ok (.getfield idx, 3)) (hf : FL o idx ci k) (hl : lay a = some (.inl (ci, fs))) (hk : fs[k]? = some none) (hq : pc + 3 = q) (h : V B nL o it d ret X zm wm q ls (.int (F a k) :: st) (mem F) Q) : V B nL o it d ret X zm wm pc ls (.ref a :: st) (mem F) Q :=
  V_getf hd hf (mem_at hl) (fcell_int (ci := ci) hk) hq h
theorem F_getR {idx ci k a b : Nat} {fs : List (Option Nat)} (hd : decode B pc = .ok (.getfield idx, 3)) (hf : FL o idx ci k) (hl : lay a = some (.inl (ci, fs))) (hk : fs[k]? = some (some b)) (hq : pc + 3 = q) (h : V B nL o it d ret X zm wm q ls (.ref b :: st) (mem F) Q) : V B nL o it d ret X zm wm pc ls (.ref a :: st) (mem F) Q :=
  V_getf hd hf (mem_at hl) (by rw [List.getElem?_mapIdx, hk]; rfl) hq h
theorem F_putI {idx ci k a : Nat} {fs : List (Option Nat)} {x : Int32} (hd : decode B pc = .ok (.putfield idx, 3)) (hf : FL o idx ci k) (hn : (Tn ci k).2.2.2 = false) (hty : tyn ci k = .int ∨ (tyn ci k = .boolean ∧ (x = 0 ∨ x = 1))) (hl : lay a = some (.inl (ci, fs))) (hk : fs[k]? = some none) (hq : pc + 3 = q) (h : V B nL o it d ret X zm wm q ls st (mem (fput F a k x)) Q) : V B nL o it d ret X zm wm pc ls (.int x :: .ref a :: st) (mem F) Q := by
  have hkl : k < fs.length := (List.getElem?_eq_some_iff.mp hk).1
  refine V_putI hd hf hn hty (mem_at hl) (by rw [List.length_mapIdx]; exact hkl) hq ?_
  rw [mem_put (k := k) (x := x) hl]
  · exact h
  · simp only [fcell]
    congr 2
    apply List.ext_getElem?
    intro j
    by_cases hj : j = k
    · subst hj
      rw [List.getElem?_set_self (by rw [List.length_mapIdx]; exact hkl), List.getElem?_mapIdx, hk]
      simp [fput_s]
    · rw [List.getElem?_set_ne (fun e => hj e.symm), List.getElem?_mapIdx, List.getElem?_mapIdx]
      cases fs[j]? with
      | none => rfl
      | some r =>
        cases r with
        | none => simp [fput_k hj]
        | some r => rfl
theorem F_iald {a n j : Nat} {i : Int32} (hd : decode B pc = .ok (.iaload, 1)) (hl : lay a = some (.inr (.inl (0, n)))) (hi : i = nI j) (hj : j < n) (hn : n < 2 ^ 31) (hq : pc + 1 = q) (h : V B nL o it d ret X zm wm q ls (.int (F a j) :: st) (mem F) Q) : V B nL o it d ret X zm wm pc ls (.int i :: .ref a :: st) (mem F) Q := V_iald hd (mem_at hl) hi hj hn hq h
theorem F_bald {a n j : Nat} {i : Int32} (hd : decode B pc = .ok (.baload, 1)) (hl : lay a = some (.inr (.inl (1, n)))) (hi : i = nI j) (hj : j < n) (hn : n < 2 ^ 31) (hq : pc + 1 = q) (h : V B nL o it d ret X zm wm q ls (.int (F a j) :: st) (mem F) Q) : V B nL o it d ret X zm wm pc ls (.int i :: .ref a :: st) (mem F) Q := V_bald hd (mem_at hl) hi hj hn hq h
theorem F_zald {a n j : Nat} {i : Int32} (hd : decode B pc = .ok (.baload, 1)) (hl : lay a = some (.inr (.inl (2, n)))) (hi : i = nI j) (hj : j < n) (hn : n < 2 ^ 31) (hq : pc + 1 = q) (h : V B nL o it d ret X zm wm q ls (.int (F a j) :: st) (mem F) Q) : V B nL o it d ret X zm wm pc ls (.int i :: .ref a :: st) (mem F) Q := V_zald hd (mem_at hl) hi hj hn hq h
theorem F_aald {a j t b : Nat} {rs : List Nat} {i : Int32} (hd : decode B pc = .ok (.aaload, 1)) (hl : lay a = some (.inr (.inr (t, rs)))) (ht : t = 3 ∨ t = 4 ∨ t = 5) (hi : i = nI j) (hb : rs[j]? = some b) (hn : rs.length < 2 ^ 31) (hq : pc + 1 = q) (h : V B nL o it d ret X zm wm q ls (.ref b :: st) (mem F) Q) : V B nL o it d ret X zm wm pc ls (.int i :: .ref a :: st) (mem F) Q := V_aald hd (mem_at hl) ht hi (List.getElem?_eq_some_iff.mp hb).1 hn hb hq h
theorem F_alen {a n t : Nat} (hd : decode B pc = .ok (.arraylength, 1)) (hl : lay a = some (.inr (.inl (t, n)))) (ht : t < 6) (hq : pc + 1 = q) (h : V B nL o it d ret X zm wm q ls (.int (nI n) :: st) (mem F) Q) : V B nL o it d ret X zm wm pc ls (.ref a :: st) (mem F) Q := V_alen hd (mem_at hl) ht hq h
theorem F_iast {a n j : Nat} {i x : Int32} (hd : decode B pc = .ok (.iastore, 1)) (hl : lay a = some (.inr (.inl (0, n)))) (hi : i = nI j) (hj : j < n) (hn : n < 2 ^ 31) (hq : pc + 1 = q) (h : V B nL o it d ret X zm wm q ls st (mem (fput F a j x)) Q) : V B nL o it d ret X zm wm pc ls (.int x :: .int i :: .ref a :: st) (mem F) Q := V_iast hd (mem_at hl) hi hj hn hq (by rw [mem_row hl]; exact h)
theorem F_bast {a n j : Nat} {i x : Int32} (hd : decode B pc = .ok (.bastore, 1)) (hl : lay a = some (.inr (.inl (1, n)))) (hi : i = nI j) (hj : j < n) (hn : n < 2 ^ 31) (hq : pc + 1 = q) (h : V B nL o it d ret X zm wm q ls st (mem (fput F a j x.toInt8.toInt32)) Q) : V B nL o it d ret X zm wm pc ls (.int x :: .int i :: .ref a :: st) (mem F) Q := V_bast hd (mem_at hl) hi hj hn hq (by rw [mem_row hl]; exact h)
theorem F_zast {a n j : Nat} {i x : Int32} (hd : decode B pc = .ok (.bastore, 1)) (hl : lay a = some (.inr (.inl (2, n)))) (hx : x = 0 ∨ x = 1) (hi : i = nI j) (hj : j < n) (hn : n < 2 ^ 31) (hq : pc + 1 = q) (h : V B nL o it d ret X zm wm q ls st (mem (fput F a j x)) Q) : V B nL o it d ret X zm wm pc ls (.int x :: .int i :: .ref a :: st) (mem F) Q := V_zast hd (mem_at hl) hx hi hj hn hq (by rw [mem_row hl]; exact h)
theorem F_copy {idx a0 a n0 n1 N : Nat} {n sp dp : Int32} (hd : decode B pc = .ok (.invokestatic idx, 3)) (hl : Cond.methodLink o idx arraycopyName ∈ ma_tbl) (hl2 : Cond.native arraycopyName ∈ ma_tbl) (hl3 : Cond.static arraycopyName ∈ ma_tbl) (hl4 : Cond.initialized "java/lang/System" ∈ ma_tbl)
    (hc0 : lay a0 = some (.inr (.inl (0, n0)))) (hc1 : lay a = some (.inr (.inl (0, n1)))) (hsp : sp = 0) (hdp : dp = 0) (hn : n = nI N) (hN : N ≤ n0 ∧ N ≤ n1 ∧ N < 2 ^ 31) (hst : st = []) (hq : pc + 3 = q) (h : V B nL o it (d + 1) ret X zm wm q ls [] (mem (va_up F a (va_cpy (F a0) (F a) 0 0 N))) Q) : V B nL o it (d + 1) ret X zm wm pc ls (.int n :: .int dp :: .ref a :: .int sp :: .ref a0 :: st) (mem F) Q :=
  V_copy hd hl hl2 hl3 hl4 (mem_at hc0) (mem_at hc1) hsp hdp hn hN hst hq (by rw [mem_row hc1]; exact h)
/-- behind a call, over tables -/
theorem ma_afterP {G : WG} {p : Program} {l : Launch} {e : Env} {R : Room} {s : State} {m : MethodId} {args : Array Value} {below : List Frame} {meth : Method} {c : Code} {z0 w0 : Nat} {Z : State → Prop} {H : Heap} {locs : List Loc} {rl : Array Slot} {av : Array Value} {st0 : List Value} {Post : Option Value → FF → Prop}
    (hR : ma_R G s z0 w0 (mem F) H locs)
    (hrun : va_Run p l e R s m args below meth c H locs (95 - z0) (2845 - w0) 0 0 (F0 m pc rl st0) (st.map (ma_tv G)) ((fun av st oc t => ∃ r F', Post r F' ∧ ma_Q G r (mem F') av st oc t) av) (ma_A G))
    (k : ∀ (r : Option Value) (F' : FF), Post r F' → ∀ (H1 : Heap) (locs1 : List Loc), ma_R G s z0 w0 (mem F') H1 locs1 → W p l e R s m args below meth c H1 locs1 (95 - z0) (2845 - w0) Z (F0 m (pc + 3) rl ((r.toList ++ st).map (ma_tv G)))) : W p l e R s m args below meth c H locs (95 - z0) (2845 - w0) Z (F0 m pc rl st0) := by
  intro T hT Y
  obtain ⟨h1, h2, h3, h4, h5, h6⟩ := hR
  obtain ⟨v, st₀, t, T', L, e0, Y', hL', e1, e2, ⟨r, F', hPo, ⟨hv, hsz, hP, hwf⟩, hF⟩, hgo⟩ := hrun T hT Y
  have hv' : v = r.map (ma_tv G) := by cases hv; rfl
  subst hv'
  obtain ⟨f1, f2⟩ := hF
  rw [e0] at f1 f2
  have kk := k r F' hPo T'.heap (locs ++ L) ⟨h1, h2, by rw [e1]; exact hsz, by rw [e1]; exact hP, hwf, ⟨Nat.le_trans h6.1 (by rw [e1]; exact f1), fun x g1 g2 => by rw [e1, f2 x (Nat.lt_of_lt_of_le g1 h6.1) g2]; exact h6.2.1 x g1 g2, fun x hx => by
    rcases List.mem_append.mp hx with hx | hx
    · exact h6.2.2 x hx
    · exact hL' x hx⟩⟩
  have e3 : (r.toList ++ st).map (ma_tv G) = (r.map (ma_tv G)).toList ++ st.map (ma_tv G) := by cases r <;> rfl
  rw [e3] at kk
  obtain ⟨t2, a1, b1⟩ := kk T' rfl Y'
  exact ⟨t2, hgo t2 a1, b1⟩
theorem ma_callP {R : Room} {s : State} {args : Array Value} {idx n : Nat} {y : MT} (hts : ∀ w ∈ ma_tbl, w.before args s = true) (hc : CB o idx y n) (hro : d + 1 ≤ R.frames ∧ 36 * (d + 1) ≤ R.locals) : CallB R s args o idx y.1 y.2.1 y.2.2.1 y.2.2.2 (.code y.1 y.2.1 y.2.2.1 y.2.2.2 :: ma_tbl) { frames := d, cells := 0, slots := 0, locals := 36 * d } 0 0 n :=
  callB_of n hts (ma_good hc.2.2.2.2) rfl rfl rfl (hts _ hc.2.2.2.1) (hts _ hc.2.2.1) hc.1 ⟨hro.1, by show 8 + (y.2.2.1 + 11) + 36 * d ≤ R.locals; have := hc.2.1; have := hro.2; omega⟩
theorem F_callV {idx n ci a : Nat} {y : MT} {As st0 : List Value} {fs : List (Option Nat)} {Post : Option Value → FF → Prop} (hd : decode B pc = .ok (.invokevirtual idx, 3)) (hf : CV o idx y n) (hc : lay a = some (.inl (ci, fs))) (hci : ci < 8) (hcl : Rn ci = y.1.cls) (hM : CP d y (.ref a :: As) F Post) (hn : As.length = n) (hs : st0 = As.reverse ++ .ref a :: st) (hst : (st.map fun v => v.category).sum ≤ 8) (hq : pc + 3 = q) (h : ∀ r F', Post r F' → V B nL o it (d + 1) ret X 95 2845 q ls (r.toList ++ st) (mem F') Q) : V B nL o it (d + 1) ret X 95 2845 pc ls st0 (mem F) Q := by
  intro G p l e R s m args below meth c z0 w0 Z C hz hw hr H locs rl hR hL
  subst hq
  subst hs
  have hts := C.2.2.2.2.1
  have hS := C.2.2.2.2.2.1
  obtain ⟨g1, g2, g3, g4, g5, g6⟩ := id hR
  have g1 : z0 ≤ 95 := g1
  have g2 : w0 ≤ 2845 := g2
  have hp := ma_pre (As := .ref a :: As) hR hS
  refine ma_afterP (Post := Post) (F := F) hR (av := ((Value.ref a :: As).map (ma_tv G)).toArray) ?_ (fun r F' hPo H1 locs1 hR1 => h r F' hPo G p l e R s m args below meth c z0 w0 Z C hz hw hr H1 locs1 rl hR1 hL)
  exact va_runV (C := y.1.cls) (b := G.1 + a) (As := As.map (ma_tv G)) ⟨C.1, C.2.1, C.2.2.1, C.2.2.2.1, hts⟩ (hM l G) ⟨ma_callP hts hf.1 C.2.2.2.2.2.2.1, hts _ hf.2.1, hts _ hf.2.2⟩ ⟨hp.1, by rw [← hcl]; exact va_recv hS.1 g4 (ma_cl hci) (ma_lm_get (mem_at hc) g5), hp.2⟩ rfl (by rw [List.length_map]; exact hn) hL.1 (by simp [ma_tv]) (lv_room (by rw [ma_sum]; exact hst)) hd ⟨by omega, by omega⟩
theorem F_callS {idx n : Nat} {y : MT} {As st0 : List Value} {Post : Option Value → FF → Prop} (hd : decode B pc = .ok (.invokestatic idx, 3)) (hf : CS o idx y n) (hM : CP d y As F Post) (hn : As.length = n) (hs : st0 = As.reverse ++ st) (hst : (st.map fun v => v.category).sum ≤ 8) (hq : pc + 3 = q) (h : ∀ r F', Post r F' → V B nL o it (d + 1) ret X 95 2845 q ls (r.toList ++ st) (mem F') Q) : V B nL o it (d + 1) ret X 95 2845 pc ls st0 (mem F) Q := by
  intro G p l e R s m args below meth c z0 w0 Z C hz hw hr H locs rl hR hL
  subst hq
  subst hs
  have hts := C.2.2.2.2.1
  have hS := C.2.2.2.2.2.1
  obtain ⟨g1, g2, g3, g4, g5, g6⟩ := id hR
  have g1 : z0 ≤ 95 := g1
  have g2 : w0 ≤ 2845 := g2
  refine ma_afterP (Post := Post) (F := F) hR (av := (As.map (ma_tv G)).toArray) ?_ (fun r F' hPo H1 locs1 hR1 => h r F' hPo G p l e R s m args below meth c z0 w0 Z C hz hw hr H1 locs1 rl hR1 hL)
  exact va_runS (As := As.map (ma_tv G)) ⟨C.1, C.2.1, C.2.2.1, C.2.2.2.1, hts⟩ (hM l G) ⟨ma_callP hts hf.1 C.2.2.2.2.2.2.1, hts _ hf.2⟩ (ma_pre hR hS) rfl (by rw [List.length_map]; exact hn) hL.1 (by simp) (lv_room (by rw [ma_sum]; exact hst)) hd ⟨by omega, by omega⟩
theorem F_ret (r : Option Value) {st' : List Value} {Post : Option Value → FF → Prop} (hs : r.toList = st') (hv : ma_VR B ret pc r) (h : Post r F) : FV B nL o d ret X pc ls st' F Post := V_ret r hs hv ⟨F, rfl, h⟩
theorem F_ireturn {v : Int32} {Post : Option Value → FF → Prop} (hd : decode B pc = .ok (.ireturn, 1)) (hi : ret = some .int) (h : Post (some (.int v)) F) : FV B nL o d ret X pc ls [.int v] F Post := V_ireturn hd hi ⟨F, rfl, h⟩
theorem F_zreturn {v : Int32} {Post : Option Value → FF → Prop} (hd : decode B pc = .ok (.ireturn, 1)) (hi : ret = some .boolean) (hv : v = 0 ∨ v = 1) (h : Post (some (.int v)) F) : FV B nL o d ret X pc ls [.int v] F Post := V_zreturn hd hi hv ⟨F, rfl, h⟩
theorem F_lreturn {v : Int64} {Post : Option Value → FF → Prop} (hd : decode B pc = .ok (.lreturn, 1)) (hi : ret = some .long) (h : Post (some (.long v)) F) : FV B nL o d ret X pc ls [.long v] F Post := V_lreturn hd hi ⟨F, rfl, h⟩
theorem F_return {Post : Option Value → FF → Prop} (hd : decode B pc = .ok (.return_, 1)) (hi : ret = none) (h : Post none F) : FV B nL o d ret X pc ls [] F Post := V_return hd hi ⟨F, rfl, h⟩
end FRULES
