/-! STRINGS: length and charAt of the six names -/
theorem tb_lk2 {x : Int32} (c0 : ¬ x = 0) (c1 : ¬ x = 1) : Op.lookupswitch.offset (#[((0 : Int), (28 : Int)), (1, 39)] : Array (Int × Int)).toList 50 x.toInt = 50 := by
  have h0 : x.toInt ≠ 0 := tb_ne c0
  have h1 : x.toInt ≠ 1 := tb_ne c1
  show (if (0 : Int) = x.toInt then (28 : Int) else if (1 : Int) = x.toInt then (39 : Int) else 50) = 50
  rw [if_neg (fun e => h0 e.symm), if_neg (fun e => h1 e.symm)]
/-! Math.min, Math.max -/
def mmin (x y : Int32) : Int32 := if y < x then y else x
def mmax (x y : Int32) : Int32 := if x < y then y else x
theorem mm_nmax : yJ9_max_7cf53 = Lib.Math.max.name := rfl
theorem mm_nmin : yJ9_min_7cf53 = Lib.Math.min.name := rfl
theorem mm_cmax : cJ9_max_7cf53 = Lib.Math.max.code := by decide +kernel
theorem mm_cmin : cJ9_min_7cf53 = Lib.Math.min.code := by decide +kernel
theorem P_mmax {B : ByteArray} {nL : Nat} {o : String} {it : Bool} {d : Nat} {ret : Option FieldType} {X : Option (Nat × (Nat → Int32))} {pc q : Nat} {ls st : List Value} {F : FF} {Q : Option Value → Mem → Prop} {idx : Nat} {x y : Int32} (hd : decode B pc = .ok (.invokestatic idx, 3)) (hf : CS o idx mJ9_max_7cf53 2) (hst : (st.map fun v => v.category).sum ≤ 8) (hq : pc + 3 = q) (h : V B nL o it (d + 1) ret X 95 2845 q ls (.int (mmax x y) :: st) (mem F) Q) : V B nL o it (d + 1) ret X 95 2845 pc ls (.int y :: .int x :: st) (mem F) Q := by
  intro G p l e R s m args below meth c z0 w0 Z C hz hw hr H locs rl hR hL
  subst hq
  have hts := C.2.2.2.2.1
  have hro := C.2.2.2.2.2.2.1
  obtain ⟨⟨-, -, f1, f2, f3⟩, f4⟩ := hf
  have k := h G p l e R s m args below meth c z0 w0 Z C hz hw hr H locs rl hR hL
  have f3' : Cond.code Lib.Math.max.name Lib.Math.max.code 2 (some .int) ∈ ma_tbl := by rw [← mm_cmax]; exact f3
  exact va_mmax C.1 C.2.1 (by rw [C.2.2.1]; exact hL.1.symm) C.2.2.2.1 (hts _ f1) (hts _ f4) (hts _ f2) (hts _ f3') (by omega) (by rw [ma_sum]; omega) hz hw hd k
theorem P_mmin {B : ByteArray} {nL : Nat} {o : String} {it : Bool} {d : Nat} {ret : Option FieldType} {X : Option (Nat × (Nat → Int32))} {pc q : Nat} {ls st : List Value} {F : FF} {Q : Option Value → Mem → Prop} {idx : Nat} {x y : Int32} (hd : decode B pc = .ok (.invokestatic idx, 3)) (hf : CS o idx mJ9_min_7cf53 2) (hst : (st.map fun v => v.category).sum ≤ 8) (hq : pc + 3 = q) (h : V B nL o it (d + 1) ret X 95 2845 q ls (.int (mmin x y) :: st) (mem F) Q) : V B nL o it (d + 1) ret X 95 2845 pc ls (.int y :: .int x :: st) (mem F) Q := by
  intro G p l e R s m args below meth c z0 w0 Z C hz hw hr H locs rl hR hL
  subst hq
  have hts := C.2.2.2.2.1
  have hro := C.2.2.2.2.2.2.1
  obtain ⟨⟨-, -, f1, f2, f3⟩, f4⟩ := hf
  have k := h G p l e R s m args below meth c z0 w0 Z C hz hw hr H locs rl hR hL
  have f3' : Cond.code Lib.Math.min.name Lib.Math.min.code 2 (some .int) ∈ ma_tbl := by rw [← mm_cmin]; exact f3
  exact va_mmin C.1 C.2.1 (by rw [C.2.2.1]; exact hL.1.symm) C.2.2.2.1 (hts _ f1) (hts _ f4) (hts _ f2) (hts _ f3') (by omega) (by rw [ma_sum]; omega) hz hw hd k
section UR
variable {B : ByteArray} {nL : Nat} {o : String} {it : Bool} {d : Nat} {ret : Option FieldType} {X : Option (Nat × (Nat → Int32))} {zm wm pc q : Nat} {ls st : List Value} {M : Mem} {F : FF} {Q : Option Value → Mem → Prop}
theorem U_irem {x y : Int32} (hd : decode B pc = .ok (.irem, 1)) (hne : ¬ y = 0) (hq : pc + 1 = q) (h : V B nL o it d ret X zm wm q ls (.int (irem x y) :: st) M Q) : V B nL o it d ret X zm wm pc ls (.int y :: .int x :: st) M Q := V_irem hd hne hq h
theorem U_lrem {x y : Int64} (hd : decode B pc = .ok (.lrem, 1)) (hne : ¬ y = 0) (hq : pc + 1 = q) (h : V B nL o it d ret X zm wm q ls (.long (lrem x y) :: st) M Q) : V B nL o it d ret X zm wm pc ls (.long y :: .long x :: st) M Q := V_lrem hd hne hq h
theorem U_iushr {x y : Int32} (hd : decode B pc = .ok (.iushr, 1)) (hq : pc + 1 = q) (h : V B nL o it d ret X zm wm q ls (.int (iushr x y) :: st) M Q) : V B nL o it d ret X zm wm pc ls (.int y :: .int x :: st) M Q := V_iushr hd hq h
theorem V_midI {st0 : List Value} (x : Int32) (st : List Value) (h1 : ∀ y, y = x → V B nL o it d ret X zm wm q ls (.int y :: st) (mem F) Q → V B nL o it d ret X zm wm pc ls st0 (mem F) Q) (h2 : V B nL o it d ret X zm wm q ls (.int x :: st) (mem F) Q) : V B nL o it d ret X zm wm pc ls st0 (mem F) Q := h1 x rfl h2
theorem V_midJ {st0 : List Value} (x : Int64) (st : List Value) (h1 : ∀ y, y = x → V B nL o it d ret X zm wm q ls (.long y :: st) (mem F) Q → V B nL o it d ret X zm wm pc ls st0 (mem F) Q) (h2 : V B nL o it d ret X zm wm q ls (.long x :: st) (mem F) Q) : V B nL o it d ret X zm wm pc ls st0 (mem F) Q := h1 x rfl h2
end UR
section STRR
variable {nL : Nat} {it : Bool} {d : Nat} {ret : Option FieldType} {X : Option (Nat × (Nat → Int32))} {pc q : Nat} {ls st : List Value} {F : FF} {Q : Option Value → Mem → Prop} {β : Type} {res : β}
theorem A_sLen {B : ByteArray} {idx : Nat} {s : UInt32} {k : Int32 → Option β} (hd : decode B pc = .ok (.invokevirtual idx, 3)) (hst : (st.map fun v => v.category).sum ≤ 8) (hq : pc + 3 = q) (h : sLen s k = some res) (hk : ∀ v, k v = some res → V B nL RX5 it (d + 5) ret X 95 2845 q ls (.int v :: st) (mem F) Q) : V B nL RX5 it (d + 5) ret X 95 2845 pc ls (.float s :: st) (mem F) Q := by
  sorry
theorem A_sAt {B : ByteArray} {idx : Nat} {s : UInt32} {i : Int32} {k : Int32 → Option β} (hd : decode B pc = .ok (.invokevirtual idx, 3)) (hst : (st.map fun v => v.category).sum ≤ 8) (hq : pc + 3 = q) (h : sAt s i k = some res) (hk : ∀ v, k v = some res → V B nL RX5 it (d + 5) ret X 95 2845 q ls (.int v :: st) (mem F) Q) : V B nL RX5 it (d + 5) ret X 95 2845 pc ls (.int i :: .float s :: st) (mem F) Q := by
  sorry
end STRR
