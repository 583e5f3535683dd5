/-! TEXT: a line, the reference -/
theorem pZ_4 {β : Type} {F : FF} {x : Int32} {k : FF → Option β} (hx : x = 0 ∨ x = 1) : pZ 7 4 82 x F k = k (fput F 82 4 x) := if_pos ⟨by decide +kernel, hx⟩
theorem y_b61 {N n e j : Nat} {b : Nat → Nat} {F : FF} {T : Hs} {q : Bool} (hN : 1000 ≤ N) (h : YD F b n T q) (he : e ≤ n) (h11 : F 82 11 = nI e) (h9 : F 82 9 = 0) (hj : j < 6) (hs4 : j ≤ 3 → T.1.2.1 < 4) : ∃ F1, fX7_readLine_b61 N (nI j) F = some ((), F1) ∧ YE F b n F1 (if j = 4 then bkP b n e T else if j = 5 then wnP b n q 17 e T else semP b n e (addS T j) q) := by
  obtain ⟨d1, d2, d3, d4, d5, d6, d7⟩ := id h
  obtain ⟨q', hq'⟩ : ∃ q', q' = (q || decide (j = 4)) := ⟨_, rfl⟩
  have ex : (if ¬ F 82 4 = 0 then (1 : Int32) else if ¬ nI j = 4 then 0 else 1) = bI q' := by
    rw [d4, hq']
    cases q with
    | true => rfl
    | false =>
      rw [if_neg (fun h => h rfl)]
      by_cases c : j = 4
      · subst c; rfl
      · rw [if_pos (by show ¬ nI j = nI 4; simp (disch := omega) only [nI_eq]; exact c), decide_eq_false c]; rfl
  obtain ⟨F0, hF0⟩ : ∃ F0, fput F 82 4 (bI q') = F0 := ⟨_, rfl⟩
  have k4 : F0 82 4 = bI q' := by rw [← hF0, fpu, if_pos ⟨rfl, rfl⟩]
  have k82 : ∀ k, k ≠ 4 → F0 82 k = F 82 k := fun k hk => by rw [← hF0, fpu, if_neg (fun h => hk h.2)]
  have kc : ∀ c, c ≠ 82 → F0 c = F c := fun c hc => by rw [← hF0, fput_a hc]
  have hD0 : YD F0 b n T q' := ⟨⟨by rw [k82 7 (by omega)]; exact d1.1, d1.2.1, fun i hi => by rw [kc 85 (by omega)]; exact d1.2.2 i hi⟩, d2.mv (kc 86 (by omega)) (kc 87 (by omega)), by rw [k82 3 (by omega)]; exact d3, k4, by rw [k82 5 (by omega)]; exact d5, by unfold PG; rw [kc 84 (by omega)]; exact d6, d7⟩
  obtain ⟨F2, e1, e2, e3⟩ := y_on (N := N) hN hD0 he (by rw [k82 11 (by omega)]; exact h11) (by rw [k82 9 (by omega)]; exact h9)
  have hT : FYT F F2 := (show FYT F F0 from ⟨fun c h1 _ => kc c h1, fun k hk => k82 k (by omega)⟩).tr e2.T
  unfold fX7_readLine_b61
  rw [ex, pZ_4 (by cases q' with
    | true => exact Or.inr rfl
    | false => exact Or.inl rfl), hF0, e1, bnd_some]
  by_cases c4 : (tok b n (stt b n e)).1 = 4
  · obtain ⟨m1, m2⟩ := e3.2.2.2.2.2 c4
    have eo : (if j = 4 then bkP b n e T else if j = 5 then wnP b n q 17 e T else semP b n e (addS T j) q) = .inl (1, stt b n e) := by
      split
      · unfold bkP; rw [if_pos c4]
      · split
        · rw [wnP, if_pos c4]
        · unfold semP; rw [if_pos c4]
    rw [eo, m1, if_neg (by decide)]
    exact ⟨F2, rfl, hT, m1, m2, by show 1 ≤ 1; omega, by show 1 ≤ 6; omega⟩
  · obtain ⟨m1, m2, m3⟩ := e3.2.2.2.1 c4
    rw [m3, if_pos (by decide)]
    by_cases j4 : j = 4
    · subst j4
      rw [if_pos rfl]
      have hq1 : q' = true := by rw [hq']; cases q <;> rfl
      rw [hq1] at e3
      obtain ⟨F3, z1, z2⟩ := y_books (N := N) hN e3 c4
      exact ⟨F3, z1, z2.tr hT⟩
    · rw [if_neg j4]
      have hq1 : q' = q := by rw [hq', decide_eq_false j4]; cases q <;> rfl
      rw [hq1] at e3
      by_cases j5 : j = 5
      · subst j5
        rw [if_pos rfl]
        obtain ⟨F3, z1, z2⟩ := y_wants_L (N := N) (q := q) hN 17 0 N e F2 T (by omega) (by omega) (by omega) e3
        refine ⟨F3, ?_, z2.tr hT⟩
        rw [← z1]
        unfold fX7_readMore fX7_readWants
        rw [if_pos (by decide), if_pos (by decide)]
        cases hw : fX7_readWants_L0 N N F2 with
        | none => rfl
        | some t => rfl
      · rw [if_neg j5]
        obtain ⟨⟨s1, s2, s3, s4, s5, ⟨p1, p2, p3, p4, p5⟩, s7⟩, t2, t3, t4⟩ := e3
        have hs := hs4 (by omega)
        obtain ⟨F5, hF5⟩ : ∃ F5, fput (fput F2 84 T.1.2.1 (nI j)) 84 8 (nI (T.1.2.1 + 1)) = F5 := ⟨_, rfl⟩
        have r84 : ∀ k, F5 84 k = if k = 8 then nI (T.1.2.1 + 1) else if k = T.1.2.1 then nI j else F2 84 k := fun k => by
          rw [← hF5, fpu, fpu]
          simp only [true_and]
        have rc : ∀ c, c ≠ 84 → F5 c = F2 c := fun c hc => by rw [← hF5, fput_a hc, fput_a hc]
        have hS : YS F5 b n e (addS T j) q := by
          refine ⟨⟨⟨by rw [rc 82 (by omega)]; exact s1.1, s1.2.1, fun i hi => by rw [rc 85 (by omega)]; exact s1.2.2 i hi⟩, s2.mv (rc 86 (by omega)) (rc 87 (by omega)), by rw [rc 82 (by omega)]; exact s3, by rw [rc 82 (by omega)]; exact s4, by rw [rc 82 (by omega), s5]; exact (mwI_cg (T := T) (T' := addS T j) T.1.2.2.1 (fun _ _ => rfl)).symm, ⟨by rw [r84, if_pos rfl]; rfl, by rw [r84, if_neg (by omega), if_neg (by omega)]; exact p2, by rw [r84, if_neg (by omega), if_neg (by omega)]; exact p3, fun s hs' => ?_, fun i hi => by rw [r84, if_neg (by omega), if_neg (by omega)]; exact p5 i hi⟩, s7.addS hs (by omega)⟩, t2, by rw [rc 82 (by omega)]; exact t3, by unfold YK; rw [rc 82 (by omega)]; exact t4⟩
          have hs' : s < T.1.2.1 + 1 := hs'
          rw [r84, if_neg (by omega)]
          show _ = nI (if s = T.1.2.1 then newS j else T.2.1 s).1.1
          by_cases c : s = T.1.2.1
          · rw [if_pos c, if_pos c]; rfl
          · rw [if_neg c, if_neg c]; exact p4 s (by omega)
        obtain ⟨F6, z1, z2⟩ := y_semi (N := N) hN hS
        refine ⟨F6, ?_, z2.tr (hT.tr ⟨fun c _ h2 => rc c h2, fun k _ => by rw [rc 82 (by omega)]⟩)⟩
        unfold fX7_readMore
        rw [if_neg (by show ¬ nI 3 < nI j; simp (disch := omega) only [nI_ltI]; omega), p1, st_ok a84 (by omega), fpu, if_neg (by omega), p1, show nI T.1.2.1 + 1 = nI (T.1.2.1 + 1) from nI_1 _, hF5, nmE, bnd_some]
        exact z1
