/-! THE LAW from its entry -/
theorem V_mono {B : ByteArray} {nL : Nat} {o : String} {it : Bool} {d : Nat} {ret : Option FieldType} {X : Option (Nat × (Nat → Int32))} {zm wm pc : Nat} {ls st : List Value} {M : Mem} {Q Q' : Option Value → Mem → Prop} (h : V B nL o it d ret X zm wm pc ls st M Q) (hq : ∀ r M', Q r M' → Q' r M') : V B nL o it d ret X zm wm pc ls st M Q' := by
  intro G p l e R s m args below meth c z0 w0 Z C hz hw hr H locs rl hR hL
  exact h G p l e R s m args below meth c z0 w0 Z C hz hw (fun r M' H' locs' pc' rl' h1 h2 h3 => hr r M' H' locs' pc' rl' h1 (hq r M' h2) h3) H locs rl hR hL
theorem law_V {L : Nat} {xs : Nat → Int32} (hL : L ≤ 3072) : V cL_law 4 RL false 12 (some .boolean) (some (L, xs)) 95 2845 0 [.float 1000, .null, .null, .null] [] ws00 (fun r M => r = some (.int 1) ∧ M.1 = (95, 2845)) := by
  refine V_new (ci := 6) (M := ws00) dL_law_0 (by decide) nw_L_7 nk_6 ni_6 (by decide) (by decide +kernel) (by decide +kernel) rfl ?_ (fun _ => rfl)
  show V cL_law 4 RL false 12 (some .boolean) (some (L, xs)) 95 2845 3 [.float 1000, .null, .null, .null] [.ref 0] ws0 _
  refine V_dup dL_law_3 rfl rfl ?_
  refine V_callI (As := []) (st := [.ref 0]) (M := ws0) dL_law_4 cl_L_9 (c_X6_init (d := 8)) rfl rfl (Nat.le_of_ble_eq_true rfl) (by decide +kernel) (by decide +kernel) rfl ?_
  refine V_astore_n (x := 0) dL_law_7 rfl (by decide) rfl rfl rfl ?_
  refine V_new (ci := 7) (M := wsE) dL_law_8 (by decide) nw_L_10 nk_7 ni_7 (by decide) (by decide +kernel) (by decide +kernel) rfl ?_ (fun _ => rfl)
  show V cL_law 4 RL false 12 (some .boolean) (some (L, xs)) 95 2845 11 [.float 1000, .ref 0, .null, .null] [.ref 82] ym0 _
  refine V_dup dL_law_11 rfl rfl ?_
  refine V_callI (As := []) (st := [.ref 82]) (M := ym0) dL_law_12 cl_L_12 (c_X7_init (d := 10)) rfl rfl (Nat.le_of_ble_eq_true rfl) (by decide +kernel) (by decide +kernel) rfl ?_
  refine V_astore_n (x := 82) dL_law_15 rfl (by decide) rfl rfl rfl ?_
  show V cL_law 4 RL false 12 (some .boolean) (some (L, xs)) 95 2845 16 [.float 1000, .ref 0, .ref 82, .null] [] ymE _
  rw [ymE_mem]
  obtain ⟨F', hF'⟩ := law_ok (xs := xs) hL inv_0
  have h := okL_law (d := 2) (L := L) (xs := xs) (by omega) hF'
  refine V_mono h (fun r M' hQ => ?_)
  obtain ⟨F2, rfl, h1, h2⟩ := hQ
  exact ⟨h1, rfl⟩
