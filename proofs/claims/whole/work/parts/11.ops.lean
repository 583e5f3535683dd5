/-! OPS: the machine over tables as partial functions, in the shape of continuations; each has its rule -/
def ix (i : Int32) : Nat := i.toNatClampNeg
def alen (t a : Nat) : Option Nat := match lay a with
  | some (.inr (.inl (t', n))) => if t' = t then some n else none
  | _ => none
def okT (t a : Nat) (i : Int32) : Bool := match alen t a with
  | some n => decide (0 ≤ i.toInt ∧ i.toInt < (n : Int))
  | none => false
def rarr (t a j : Nat) : Option Nat := match lay a with
  | some (.inr (.inr (t', rs))) => if t' = t then rs[j]? else none
  | _ => none
def okF (ci k a : Nat) : Bool := match lay a with
  | some (.inl (ci', fs)) => decide (ci' = ci ∧ fs[k]? = some none)
  | _ => false
def frf (ci k a : Nat) : Option Nat := match lay a with
  | some (.inl (ci', fs)) => if ci' = ci then (fs[k]?).join else none
  | _ => none
def okC (ci a : Nat) : Bool := match lay a with
  | some (.inl (ci', _)) => decide (ci' = ci)
  | _ => false
def ldT {β : Type} (t a : Nat) (i : Int32) (F : FF) (k : Int32 → Option β) : Option β := if okT t a i = true then k (F a (ix i)) else none
def stT {β : Type} (t a : Nat) (i x : Int32) (F : FF) (k : FF → Option β) : Option β := if okT t a i = true then k (fput F a (ix i) x) else none
def stZ {β : Type} (a : Nat) (i x : Int32) (F : FF) (k : FF → Option β) : Option β := if okT 2 a i = true ∧ (x = 0 ∨ x = 1) then k (fput F a (ix i) x) else none
def ldR {β : Type} (t a : Nat) (i : Int32) (k : Nat → Option β) : Option β := if 0 ≤ i.toInt then match rarr t a (ix i) with
  | some b => k b
  | none => none
  else none
def gI {β : Type} (ci k a : Nat) (F : FF) (c : Int32 → Option β) : Option β := if okF ci k a = true then c (F a k) else none
def pI {β : Type} (ci k a : Nat) (x : Int32) (F : FF) (c : FF → Option β) : Option β := if okF ci k a = true then c (fput F a k x) else none
def pZ {β : Type} (ci k a : Nat) (x : Int32) (F : FF) (c : FF → Option β) : Option β := if okF ci k a = true ∧ (x = 0 ∨ x = 1) then c (fput F a k x) else none
def gR {β : Type} (ci k a : Nat) (c : Nat → Option β) : Option β := match frf ci k a with
  | some b => c b
  | none => none
def cpI {β : Type} (a0 a n : Nat) (F : FF) (k : FF → Option β) : Option β := match alen 0 a0, alen 0 a with
  | some n0, some n1 => if n ≤ n0 ∧ n ≤ n1 then k (va_up F a (va_cpy (F a0) (F a) 0 0 n)) else none
  | _, _ => none
def bnd {α β : Type} (o : Option (α × FF)) (k : α → FF → Option β) : Option β := match o with
  | some p => k p.1 p.2
  | none => none
def cal {α β : Type} (ci a : Nat) (o : Option (α × FF)) (k : α → FF → Option β) : Option β := if okC ci a = true then bnd o k else none
def zr (v : Int32) (F : FF) : Option (Int32 × FF) := if v = 0 ∨ v = 1 then some (v, F) else none
def dv {β : Type} (y : Int32) (k : Option β) : Option β := if y = 0 then none else k
def dvl {β : Type} (y : Int64) (k : Option β) : Option β := if y = 0 then none else k
def irem (x y : Int32) : Int32 := x - x / y * y
def lrem (x y : Int64) : Int64 := x - x / y * y
def iushr (x y : Int32) : Int32 := (x.toUInt32 >>> (y.toUInt32 &&& Int32.toUInt32 31)).toInt32
def RI (res : Int32 × FF) : Option Value → FF → Prop := fun r F' => r = some (.int res.1) ∧ F' = res.2
def RJ (res : Int64 × FF) : Option Value → FF → Prop := fun r F' => r = some (.long res.1) ∧ F' = res.2
def RU (res : Unit × FF) : Option Value → FF → Prop := fun r F' => r = none ∧ F' = res.2
def ma_msk : List Bool → List Value → List Value
  | b :: bs, v :: vs => (match b with | true => v | false => .null) :: ma_msk bs vs
  | _, _ => []
theorem ma_msk_at : ∀ (bs : List Bool) (vs : List Value) (i : Nat) (v : Value), (ma_msk bs vs)[i]? = some v → v ≠ .null → vs[i]? = some v
  | [], vs, i, v => by simp [ma_msk]
  | _ :: _, [], i, v => by simp [ma_msk]
  | b :: bs, w :: vs, 0, v => by
    cases b
    · intro h hv
      simp [ma_msk] at h
      exact absurd h.symm hv
    · intro h _
      simpa [ma_msk] using h
  | b :: bs, w :: vs, i + 1, v => by
    intro h hv
    have h2 : (ma_msk bs vs)[i]? = some v := by simpa [ma_msk] using h
    simpa using ma_msk_at bs vs i v h2 hv
theorem ma_msk_len : ∀ (bs : List Bool) (vs : List Value), bs.length = vs.length → (ma_msk bs vs).length = vs.length
  | [], [], _ => rfl
  | [], _ :: _, h => by cases h
  | _ :: _, [], h => by cases h
  | b :: bs, w :: vs, h => by
    simp [ma_msk]
    exact ma_msk_len bs vs (by simpa using h)
theorem lay_small : ∀ c ∈ layL, (match c with | .inr (.inl q) => decide (q.2 < 2 ^ 31) | .inr (.inr q) => decide (q.2.length < 2 ^ 31 ∧ (q.1 = 3 ∨ q.1 = 4 ∨ q.1 = 5)) | _ => true) = true := by decide
theorem alen_spec {t a n : Nat} (h : alen t a = some n) : lay a = some (.inr (.inl (t, n))) ∧ n < 2 ^ 31 := by
  unfold alen at h
  split at h
  · rename_i t' n' hl
    split at h
    · rename_i e
      cases h
      subst e
      refine ⟨hl, ?_⟩
      have := lay_small _ (List.mem_of_getElem? hl)
      simpa using this
    · cases h
  · cases h
theorem okT_spec {t a : Nat} {i : Int32} (h : okT t a i = true) : ∃ n, lay a = some (.inr (.inl (t, n))) ∧ i = nI (ix i) ∧ ix i < n ∧ n < 2 ^ 31 := by
  unfold okT at h
  split at h
  · rename_i n hn
    obtain ⟨h1, h2⟩ := alen_spec hn
    have h := of_decide_eq_true h
    have e : (ix i : Int) = i.toInt := by
      show ((i.toInt.toNat : Nat) : Int) = _
      omega
    refine ⟨n, h1, ?_, by omega, h2⟩
    apply Int32.toInt_inj.mp
    rw [nI_toInt (by omega)]
    exact e.symm
  · cases h
section AR
variable {B : ByteArray} {nL : Nat} {o : String} {it : Bool} {d : Nat} {ret : Option FieldType} {X : Option (Nat × (Nat → Int32))} {zm wm pc q : Nat} {ls st : List Value} {F : FF} {Q : Option Value → Mem → Prop} {β : Type} {res : β}
theorem V_weak {M : Mem} (bs : List Bool) (hb : bs.length = ls.length) (h : V B nL o it d ret X zm wm pc (ma_msk bs ls) st M Q) : V B nL o it d ret X zm wm pc ls st M Q := by
  intro G p l e R s m args below meth c z0 w0 Z C hz hw hr H locs rl hR hL
  exact h G p l e R s m args below meth c z0 w0 Z C hz hw hr H locs rl hR ⟨hL.1, hL.2.1, by rw [ma_msk_len bs ls hb]; exact hL.2.2.1, fun i v h1 h2 => hL.2.2.2 i v (ma_msk_at bs ls i v h1 h2) h2⟩
theorem V_mid {st0 : List Value} (x : Value) (st : List Value) (h1 : V B nL o it d ret X zm wm q ls (x :: st) (mem F) Q → V B nL o it d ret X zm wm pc ls st0 (mem F) Q) (h2 : V B nL o it d ret X zm wm q ls (x :: st) (mem F) Q) : V B nL o it d ret X zm wm pc ls st0 (mem F) Q := h1 h2
theorem A_ld0 {a : Nat} {i : Int32} {k : Int32 → Option β} (hd : decode B pc = .ok (.iaload, 1)) (hq : pc + 1 = q) (h : ldT 0 a i F k = some res) (hk : ∀ v, k v = some res → V B nL o it d ret X zm wm q ls (.int v :: st) (mem F) Q) : V B nL o it d ret X zm wm pc ls (.int i :: .ref a :: st) (mem F) Q := by
  unfold ldT at h
  split at h
  · rename_i hok
    obtain ⟨n, h1, h2, h3, h4⟩ := okT_spec hok
    exact F_iald hd h1 h2 h3 h4 hq (hk _ h)
  · cases h
theorem A_ld1 {a : Nat} {i : Int32} {k : Int32 → Option β} (hd : decode B pc = .ok (.baload, 1)) (hq : pc + 1 = q) (h : ldT 1 a i F k = some res) (hk : ∀ v, k v = some res → V B nL o it d ret X zm wm q ls (.int v :: st) (mem F) Q) : V B nL o it d ret X zm wm pc ls (.int i :: .ref a :: st) (mem F) Q := by
  unfold ldT at h
  split at h
  · rename_i hok
    obtain ⟨n, h1, h2, h3, h4⟩ := okT_spec hok
    exact F_bald hd h1 h2 h3 h4 hq (hk _ h)
  · cases h
theorem A_ld2 {a : Nat} {i : Int32} {k : Int32 → Option β} (hd : decode B pc = .ok (.baload, 1)) (hq : pc + 1 = q) (h : ldT 2 a i F k = some res) (hk : ∀ v, k v = some res → V B nL o it d ret X zm wm q ls (.int v :: st) (mem F) Q) : V B nL o it d ret X zm wm pc ls (.int i :: .ref a :: st) (mem F) Q := by
  unfold ldT at h
  split at h
  · rename_i hok
    obtain ⟨n, h1, h2, h3, h4⟩ := okT_spec hok
    exact F_zald hd h1 h2 h3 h4 hq (hk _ h)
  · cases h
theorem A_st0 {a : Nat} {i x : Int32} {k : FF → Option β} (hd : decode B pc = .ok (.iastore, 1)) (hq : pc + 1 = q) (h : stT 0 a i x F k = some res) (hk : ∀ F', k F' = some res → V B nL o it d ret X zm wm q ls st (mem F') Q) : V B nL o it d ret X zm wm pc ls (.int x :: .int i :: .ref a :: st) (mem F) Q := by
  unfold stT at h
  split at h
  · rename_i hok
    obtain ⟨n, h1, h2, h3, h4⟩ := okT_spec hok
    exact F_iast hd h1 h2 h3 h4 hq (hk _ h)
  · cases h
theorem A_st1 {a : Nat} {i x : Int32} {k : FF → Option β} (hd : decode B pc = .ok (.bastore, 1)) (hq : pc + 1 = q) (h : stT 1 a i x.toInt8.toInt32 F k = some res) (hk : ∀ F', k F' = some res → V B nL o it d ret X zm wm q ls st (mem F') Q) : V B nL o it d ret X zm wm pc ls (.int x :: .int i :: .ref a :: st) (mem F) Q := by
  unfold stT at h
  split at h
  · rename_i hok
    obtain ⟨n, h1, h2, h3, h4⟩ := okT_spec hok
    exact F_bast hd h1 h2 h3 h4 hq (hk _ h)
  · cases h
theorem A_st2 {a : Nat} {i x : Int32} {k : FF → Option β} (hd : decode B pc = .ok (.bastore, 1)) (hq : pc + 1 = q) (h : stZ a i x F k = some res) (hk : ∀ F', k F' = some res → V B nL o it d ret X zm wm q ls st (mem F') Q) : V B nL o it d ret X zm wm pc ls (.int x :: .int i :: .ref a :: st) (mem F) Q := by
  unfold stZ at h
  split at h
  · rename_i hok
    obtain ⟨n, h1, h2, h3, h4⟩ := okT_spec hok.1
    exact F_zast hd h1 hok.2 h2 h3 h4 hq (hk _ h)
  · cases h
theorem A_ldR {t a : Nat} {i : Int32} {k : Nat → Option β} (hd : decode B pc = .ok (.aaload, 1)) (hq : pc + 1 = q) (h : ldR t a i k = some res) (hk : ∀ v, k v = some res → V B nL o it d ret X zm wm q ls (.ref v :: st) (mem F) Q) : V B nL o it d ret X zm wm pc ls (.int i :: .ref a :: st) (mem F) Q := by
  unfold ldR at h
  split at h
  · rename_i hi
    split at h
    · rename_i b hb
      unfold rarr at hb
      split at hb
      · rename_i t' rs hl
        split at hb
        · rename_i e
          subst e
          have hs := lay_small _ (List.mem_of_getElem? hl)
          have hs := of_decide_eq_true hs
          have hs1 : rs.length < 2 ^ 31 := hs.1
          have hlt := (List.getElem?_eq_some_iff.mp hb).1
          have e : (ix i : Int) = i.toInt := by
            show ((i.toInt.toNat : Nat) : Int) = _
            omega
          exact F_aald hd hl hs.2 (Int32.toInt_inj.mp (by rw [nI_toInt (by omega)]; exact e.symm)) hb hs.1 hq (hk _ h)
        · cases hb
      · cases hb
    · cases h
  · cases h
theorem okF_spec {ci k a : Nat} (h : okF ci k a = true) : ∃ fs, lay a = some (.inl (ci, fs)) ∧ fs[k]? = some none := by
  unfold okF at h
  split at h
  · rename_i ci' fs hl
    have h := of_decide_eq_true h
    obtain ⟨rfl, h2⟩ := h
    exact ⟨fs, hl, h2⟩
  · cases h
theorem A_gI {idx ci k a : Nat} {c : Int32 → Option β} (hd : decode B pc = .ok (.getfield idx, 3)) (hf : FL o idx ci k) (hq : pc + 3 = q) (h : gI ci k a F c = some res) (hk : ∀ v, c v = some res → V B nL o it d ret X zm wm q ls (.int v :: st) (mem F) Q) : V B nL o it d ret X zm wm pc ls (.ref a :: st) (mem F) Q := by
  unfold gI at h
  split at h
  · rename_i hok
    obtain ⟨fs, h1, h2⟩ := okF_spec hok
    exact F_getI hd hf h1 h2 hq (hk _ h)
  · cases h
theorem A_gR {idx ci k a : Nat} {c : Nat → Option β} (hd : decode B pc = .ok (.getfield idx, 3)) (hf : FL o idx ci k) (hq : pc + 3 = q) (h : gR ci k a c = some res) (hk : ∀ v, c v = some res → V B nL o it d ret X zm wm q ls (.ref v :: st) (mem F) Q) : V B nL o it d ret X zm wm pc ls (.ref a :: st) (mem F) Q := by
  unfold gR at h
  split at h
  · rename_i b hb
    unfold frf at hb
    split at hb
    · rename_i ci' fs hl
      split at hb
      · rename_i e
        subst e
        have h2 : fs[k]? = some (some b) := by
          cases hfk : fs[k]? with
          | none => rw [hfk] at hb; cases hb
          | some y => rw [hfk] at hb; simpa using hb
        exact F_getR hd hf hl h2 hq (hk _ h)
      · cases hb
    · cases hb
  · cases h
theorem A_pI {idx ci k a : Nat} {x : Int32} {c : FF → Option β} (hd : decode B pc = .ok (.putfield idx, 3)) (hf : FL o idx ci k) (hn : (Tn ci k).2.2.2 = false) (hty : tyn ci k = .int) (hq : pc + 3 = q) (h : pI ci k a x F c = some res) (hk : ∀ F', c F' = some res → V B nL o it d ret X zm wm q ls st (mem F') Q) : V B nL o it d ret X zm wm pc ls (.int x :: .ref a :: st) (mem F) Q := by
  unfold pI at h
  split at h
  · rename_i hok
    obtain ⟨fs, h1, h2⟩ := okF_spec hok
    exact F_putI hd hf hn (Or.inl hty) h1 h2 hq (hk _ h)
  · cases h
theorem A_pZ {idx ci k a : Nat} {x : Int32} {c : FF → Option β} (hd : decode B pc = .ok (.putfield idx, 3)) (hf : FL o idx ci k) (hn : (Tn ci k).2.2.2 = false) (hty : tyn ci k = .boolean) (hq : pc + 3 = q) (h : pZ ci k a x F c = some res) (hk : ∀ F', c F' = some res → V B nL o it d ret X zm wm q ls st (mem F') Q) : V B nL o it d ret X zm wm pc ls (.int x :: .ref a :: st) (mem F) Q := by
  unfold pZ at h
  split at h
  · rename_i hok
    obtain ⟨fs, h1, h2⟩ := okF_spec hok.1
    exact F_putI hd hf hn (Or.inr ⟨hty, hok.2⟩) h1 h2 hq (hk _ h)
  · cases h
theorem A_cp {idx a0 a : Nat} {N : Nat} {n : Int32} {k : FF → Option β} (hd : decode B pc = .ok (.invokestatic idx, 3)) (hl : Cond.methodLink o idx arraycopyName ∈ ma_tbl) (hn : n = nI N) (hN : N < 2 ^ 31) (hq : pc + 3 = q) (h : cpI a0 a N F k = some res) (hk : ∀ F', k F' = some res → V B nL o it (d + 1) ret X zm wm q ls [] (mem F') Q) : V B nL o it (d + 1) ret X zm wm pc ls [.int n, .int 0, .ref a, .int 0, .ref a0] (mem F) Q := by
  unfold cpI at h
  split at h
  · rename_i n0 n1 e0 e1
    split at h
    · rename_i hc
      exact F_copy hd hl ac_nat ac_sta ac_ini (alen_spec e0).1 (alen_spec e1).1 rfl rfl hn ⟨hc.1, hc.2, hN⟩ rfl hq (hk _ h)
    · cases h
  · cases h
theorem A_dv {y : Int32} {k : Option β} {P : Prop} (h : dv y k = some res) (hk : ¬ y = 0 → k = some res → P) : P := by
  unfold dv at h
  split at h
  · cases h
  · rename_i hy
    exact hk hy h
theorem A_dvl {y : Int64} {k : Option β} {P : Prop} (h : dvl y k = some res) (hk : ¬ y = 0 → k = some res → P) : P := by
  unfold dvl at h
  split at h
  · cases h
  · rename_i hy
    exact hk hy h
theorem A_if {c : Prop} {hc : Decidable c} {A E : Option β} {P : Prop} (h : (if c then A else E) = some res) (h1 : c → A = some res → P) (h2 : ¬ c → E = some res → P) : P := by
  split at h
  · rename_i z; exact h1 z h
  · rename_i z; exact h2 z h
theorem okC_spec {ci a : Nat} (h : okC ci a = true) : ∃ fs, lay a = some (.inl (ci, fs)) := by
  unfold okC at h
  split at h
  · rename_i ci' fs hl
    have h := of_decide_eq_true h
    subst h
    exact ⟨fs, hl⟩
  · cases h
theorem A_callS {α : Type} {idx n : Nat} {y : MT} {As st0 : List Value} {f : Option (α × FF)} {k : α → FF → Option β} (em : α → Option Value) (hd : decode B pc = .ok (.invokestatic idx, 3)) (hf : CS o idx y n) (hn : As.length = n) (hs : st0 = As.reverse ++ st) (hst : (st.map fun v => v.category).sum ≤ 8) (hq : pc + 3 = q) (h : bnd f k = some res) (hM : ∀ r F', f = some (r, F') → CP d y As F (fun r' F'' => r' = em r ∧ F'' = F')) (hk : ∀ r F', k r F' = some res → V B nL o it (d + 1) ret X 95 2845 q ls ((em r).toList ++ st) (mem F') Q) : V B nL o it (d + 1) ret X 95 2845 pc ls st0 (mem F) Q := by
  cases hfv : f with
  | none => rw [hfv] at h; cases h
  | some p =>
    rw [hfv] at h
    refine F_callS hd hf (hM p.1 p.2 hfv) hn hs hst hq ?_
    rintro r F' ⟨rfl, rfl⟩
    exact hk _ _ h
theorem A_callV {α : Type} {idx n ci a : Nat} {y : MT} {As st0 : List Value} {f : Option (α × FF)} {k : α → FF → Option β} (em : α → Option Value) (hd : decode B pc = .ok (.invokevirtual idx, 3)) (hf : CV o idx y n) (hci : ci < 8) (hcl : Rn ci = y.1.cls) (hn : As.length = n) (hs : st0 = As.reverse ++ .ref a :: st) (hst : (st.map fun v => v.category).sum ≤ 8) (hq : pc + 3 = q) (h : cal ci a f k = some res) (hM : ∀ r F', f = some (r, F') → CP d y (.ref a :: As) F (fun r' F'' => r' = em r ∧ F'' = F')) (hk : ∀ r F', k r F' = some res → V B nL o it (d + 1) ret X 95 2845 q ls ((em r).toList ++ st) (mem F') Q) : V B nL o it (d + 1) ret X 95 2845 pc ls st0 (mem F) Q := by
  unfold cal at h
  split at h
  · rename_i hok
    obtain ⟨fs, hc⟩ := okC_spec hok
    cases hfv : f with
    | none => rw [hfv] at h; cases h
    | some p =>
      rw [hfv] at h
      refine F_callV hd hf hc hci hcl (hM p.1 p.2 hfv) hn hs hst hq ?_
      rintro r F' ⟨rfl, rfl⟩
      exact hk _ _ h
  · cases h
theorem A_callC {α : Type} {idx n ci a : Nat} {y : MT} {As st0 : List Value} {f : Option (α × FF)} {k : α → FF → Option β} (em : α → Option Value) (hd : decode B pc = .ok (.invokevirtual idx, 3)) (hf : CV o idx y n) (hci : ci < 8) (hcl : Rn ci = y.1.cls) (hok : okC ci a = true) (hn : As.length = n) (hs : st0 = As.reverse ++ .ref a :: st) (hst : (st.map fun v => v.category).sum ≤ 8) (hq : pc + 3 = q) (h : bnd f k = some res) (hM : ∀ r F', f = some (r, F') → CP d y (.ref a :: As) F (fun r' F'' => r' = em r ∧ F'' = F')) (hk : ∀ r F', k r F' = some res → V B nL o it (d + 1) ret X 95 2845 q ls ((em r).toList ++ st) (mem F') Q) : V B nL o it (d + 1) ret X 95 2845 pc ls st0 (mem F) Q :=
  A_callV em hd hf hci hcl hn hs hst hq (by unfold cal; rw [if_pos hok]; exact h) hM hk
def eI (r : Int32) : Option Value := some (.int r)
def eJ (r : Int64) : Option Value := some (.long r)
def eU (_ : Unit) : Option Value := none
theorem A_ireturn {v : Int32} {res : Int32 × FF} (hd : decode B pc = .ok (.ireturn, 1)) (hi : ret = some .int) (h : some (v, F) = some res) : FV B nL o d ret X pc ls [.int v] F (RI res) := by
  cases h
  exact F_ireturn hd hi ⟨rfl, rfl⟩
theorem A_zreturn {v : Int32} {res : Int32 × FF} (hd : decode B pc = .ok (.ireturn, 1)) (hi : ret = some .boolean) (h : zr v F = some res) : FV B nL o d ret X pc ls [.int v] F (RI res) := by
  unfold zr at h
  split at h
  · rename_i hv
    cases h
    exact F_zreturn hd hi hv ⟨rfl, rfl⟩
  · cases h
theorem A_creturn {v : Int32} {res : Int32 × FF} (hd : decode B pc = .ok (.ireturn, 1)) (hi : ret = some .boolean) (hv : v = 0 ∨ v = 1) (h : some (v, F) = some res) : FV B nL o d ret X pc ls [.int v] F (RI res) := by
  cases h
  exact F_zreturn hd hi hv ⟨rfl, rfl⟩
theorem A_lreturn {v : Int64} {res : Int64 × FF} (hd : decode B pc = .ok (.lreturn, 1)) (hi : ret = some .long) (h : some (v, F) = some res) : FV B nL o d ret X pc ls [.long v] F (RJ res) := by
  cases h
  exact F_lreturn hd hi ⟨rfl, rfl⟩
theorem A_return {res : Unit × FF} (hd : decode B pc = .ok (.return_, 1)) (hi : ret = none) (h : some ((), F) = some res) : FV B nL o d ret X pc ls [] F (RU res) := by
  cases h
  exact F_return hd hi ⟨rfl, rfl⟩
end AR
/-- a method's contract out of its function -/
theorem CP_I {d : Nat} {y : MT} {args : List Value} {F : FF} {r : Int32} {F' : FF} (hy : plainName y.1.cls = true) (hfit : (ma_fl args).length ≤ y.2.2.1) (h : FV y.2.1 y.2.2.1 y.1.cls d y.2.2.2 none 0 (ma_ent y.2.2.1 args) [] F (RI (r, F'))) : CP d y args F (fun r' F'' => r' = eI r ∧ F'' = F') := CP_of_V hy hfit h
theorem CP_J {d : Nat} {y : MT} {args : List Value} {F : FF} {r : Int64} {F' : FF} (hy : plainName y.1.cls = true) (hfit : (ma_fl args).length ≤ y.2.2.1) (h : FV y.2.1 y.2.2.1 y.1.cls d y.2.2.2 none 0 (ma_ent y.2.2.1 args) [] F (RJ (r, F'))) : CP d y args F (fun r' F'' => r' = eJ r ∧ F'' = F') := CP_of_V hy hfit h
theorem CP_U {d : Nat} {y : MT} {args : List Value} {F : FF} {r : Unit} {F' : FF} (hy : plainName y.1.cls = true) (hfit : (ma_fl args).length ≤ y.2.2.1) (h : FV y.2.1 y.2.2.1 y.1.cls d y.2.2.2 none 0 (ma_ent y.2.2.1 args) [] F (RU (r, F'))) : CP d y args F (fun r' F'' => r' = eU r ∧ F'' = F') := CP_of_V hy hfit h
