/-! TEXT: wants and books, the reference -/
theorem y_number {N n p lo hi : Nat} {b : Nat → Nat} {F : FF} {T : Hs} {q : Bool} (hN : 1000 ≤ N) (h : YS F b n p T q) (hk : (tok b n (stt b n p)).1 = 1) (hlo : lo ≤ 6) (hhi : hi ≤ 6) : ∃ v F1, fX7_number N (nI lo) (nI hi) F = some (v, F1) ∧ FY F F1 ∧ (if lo ≤ (tok b n (stt b n p)).2.2 ∧ (tok b n (stt b n p)).2.2 ≤ hi then v = nI (tok b n (stt b n p)).2.2 ∧ YS F1 b n (tok b n (stt b n p)).2.1 T q else F1 82 9 = 3 ∧ F1 82 10 = nI (stt b n p)) := by
  obtain ⟨h1, h2, h3, h4⟩ := h
  have ht := tok_le (b := b) (stt_le (b := b) h2).2
  have hv := tok_val (b := b) (n := n) (s := stt b n p)
  obtain ⟨g1, g2, g3⟩ := h4.1 (by omega)
  have g4 := h4.2.1 hk
  have hin : pX7_in ((F 82 14).toInt64) ((nI lo).toInt64) ((nI hi).toInt64) F = bI (decide (lo ≤ (tok b n (stt b n p)).2.2 ∧ (tok b n (stt b n p)).2.2 ≤ hi)) := by
    rw [y_in, i64, i64, i64, g4, nI_toInt (by omega), nI_toInt (by omega), nI_toInt (by omega)]
    congr 1
    congr 1
    simp only [eq_iff_iff]
    omega
  unfold fX7_number fX7_number_b20
  rw [g3, if_neg (fun h => h rfl), g1, hk, if_pos (show nI (yc 1) = 2 from rfl), if_neg (fun h => h rfl), hin]
  by_cases c : lo ≤ (tok b n (stt b n p)).2.2 ∧ (tok b n (stt b n p)).2.2 ≤ hi
  · rw [bI_t c, if_pos n10, fX7_number_b47]
    obtain ⟨F1, e1, e2, e3⟩ := y_on (N := N) hN h1 ht.2.1 g2 g3
    rw [e1, bnd_some, g3, if_neg (fun h => h rfl)]
    refine ⟨_, F1, rfl, e2, ?_⟩
    rw [if_pos c]
    exact ⟨g4, e3⟩
  · rw [bI_f c, if_neg (fun h => h rfl)]
    obtain ⟨F1, e1, e2, e3, e4⟩ := y_failed (N := N) (n := n) (b := b) (c := 3) g3 h3 (by omega)
    rw [show fX7_fails N 3 F = some ((), F1) from e1, bnd_some, fX7_number_b47, y_off e3 (by omega), bnd_some]
    refine ⟨_, F1, rfl, e2, ?_⟩
    rw [if_neg c]
    exact ⟨e3, e4⟩
theorem wn_sem {b : Nat → Nat} {n p m : Nat} {q : Bool} {T : Hs} (h : ¬ (tok b n (stt b n p)).1 = 1) : wnP b n q (m + 1) p T = semP b n p T q := by
  unfold wnP semP
  rw [if_neg h]
theorem y_wants_L {N n : Nat} {b : Nat → Nat} {q : Bool} (hN : 1000 ≤ N) : ∀ (m i n' p : Nat) (F : FF) (T : Hs), i + m = 17 → m < n' → i ≤ T.1.2.2.1 → YS F b n p T q → ∃ F1, (bnd (fX7_readWants_L0 N n' F) fun _ F3 => yTail N F3) = some ((), F1) ∧ YE F b n F1 (wnP b n q m p T) := by
  intro m
  induction m with
  | zero =>
    intro i n' p F T hi hn hw h
    have := h.1.2.2.2.2.2.2.2.2.1
    omega
  | succ m ih =>
    intro i n' p F T hi hn hw h
    obtain ⟨n', rfl⟩ : ∃ k, n' = k + 1 := ⟨n' - 1, by omega⟩
    obtain ⟨h1, h2, h3, h4⟩ := id h
    have ht := tok_le (b := b) (stt_le (b := b) h2).2
    have hv := tok_val (b := b) (n := n) (s := stt b n p)
    by_cases c1 : (tok b n (stt b n p)).1 = 1
    · obtain ⟨g1, g2, g3⟩ := h4.1 (by omega)
      have h16 := h1.2.2.2.2.2.2.2.2.1
      have h25 : F 84 25 = nI T.1.2.2.1 := h1.2.2.2.2.2.1.2.1
      rw [wnP, if_neg (show ¬ (tok b n (stt b n p)).1 = 4 by omega), if_neg (show ¬ (tok b n (stt b n p)).1 = 2 by omega), if_pos c1, fX7_readWants_L0.eq_2, g3, if_neg (show ¬ ¬ (0 : Int32) = 0 from fun h => h rfl), g1, c1, if_neg (show ¬ ¬ nI (yc 1) = 2 from fun h => h rfl), h25]
      by_cases cw : T.1.2.2.1 < 16
      · rw [if_pos (by show ¬ nI _ = nI 16; simp (disch := omega) only [nI_eq]; omega), if_pos cw]
        obtain ⟨v, F1, e1, e2, e3⟩ := y_number (N := N) (lo := 0) (hi := 5) hN h c1 (by omega) (by omega)
        rw [show fX7_number N 0 5 F = some (v, F1) from e1, bnd_some, nmE, show 9 + nI T.1.2.2.1 = nI (9 + T.1.2.2.1) from nI_add 9 _, st_ok a84 (by omega), nmE]
        obtain ⟨F4, hF4⟩ : ∃ F4, fput (fput (fput F1 82 5 (if v ≤ F1 82 5 then F1 82 5 else v)) 84 (9 + T.1.2.2.1) v) 84 25 (nI (T.1.2.2.1 + 1)) = F4 := ⟨_, rfl⟩
        have k25 : fput (fput F1 82 5 (if v ≤ F1 82 5 then F1 82 5 else v)) 84 (9 + T.1.2.2.1) v 84 25 = nI T.1.2.2.1 := by rw [fpu, if_neg (by omega), fput_a (by omega), e2.1 84 (by omega)]; exact h25
        rw [k25, show nI T.1.2.2.1 + 1 = nI (T.1.2.2.1 + 1) from nI_1 _, hF4]
        have k5 : F4 82 5 = if v ≤ F1 82 5 then F1 82 5 else v := by rw [← hF4, fput_a (by omega), fput_a (by omega), fpu, if_pos ⟨rfl, rfl⟩]
        have k82 : ∀ k, k ≠ 5 → F4 82 k = F1 82 k := fun k hk => by rw [← hF4, fput_a (by omega), fput_a (by omega), fpu, if_neg (fun h => hk h.2)]
        have k84 : ∀ k, F4 84 k = if k = 25 then nI (T.1.2.2.1 + 1) else if k = 9 + T.1.2.2.1 then v else F1 84 k := fun k => by
          rw [← hF4, fpu, fpu, fput_a (by omega)]
          simp only [true_and]
        have kc : ∀ c, c ≠ 82 → c ≠ 84 → F4 c = F1 c := fun c h1 h2 => by rw [← hF4, fput_a h2, fput_a h2, fput_a h1]
        have hT4 : FYT F F4 := e2.T.tr ⟨kc, fun k hk => k82 k (by omega)⟩
        by_cases cv : (tok b n (stt b n p)).2.2 < 6
        · rw [if_pos ⟨by omega, by omega⟩] at e3
          obtain ⟨ev, s1, s2, s3, s4⟩ := e3
          obtain ⟨d1, d2, d3, d4, d5, ⟨p1, p2, p3, p4, p5⟩, d7⟩ := s1
          have hns := d7.2.1
          have hS : YS F4 b n (tok b n (stt b n p)).2.1 (addW T (tok b n (stt b n p)).2.2) q := by
            refine ⟨⟨⟨by rw [k82 7 (by omega)]; exact d1.1, d1.2.1, fun j hj => by rw [kc 85 (by omega) (by omega)]; exact d1.2.2 j hj⟩, d2.mv (kc 86 (by omega) (by omega)) (kc 87 (by omega) (by omega)), by rw [k82 3 (by omega)]; exact d3, by rw [k82 4 (by omega)]; exact d4, ?_, ⟨?_, ?_, ?_, fun s hs => ?_, fun j hj => ?_⟩, d7.addW cw cv⟩, s2, by rw [k82 12 (by omega)]; exact s3, ?_⟩
            · rw [k5, d5, ev]
              show _ = (if wI (if T.1.2.2.1 = T.1.2.2.1 then some _ else _) ≤ mwI (addW T _) T.1.2.2.1 then mwI (addW T _) T.1.2.2.1 else wI (if T.1.2.2.1 = T.1.2.2.1 then some _ else _))
              rw [if_pos rfl, mwI_cg (T := T) (T' := addW T (tok b n (stt b n p)).2.2) T.1.2.2.1 (fun j hj => by show (if j = T.1.2.2.1 then _ else T.2.2 j) = _; rw [if_neg (by omega)])]
              rfl
            · rw [k84, if_neg (by omega), if_neg (by omega)]; exact p1
            · rw [k84, if_pos rfl]; rfl
            · rw [k84, if_neg (by omega), if_neg (by omega)]; exact p3
            · have hs : s < T.1.2.1 := hs
              rw [k84, if_neg (by omega), if_neg (by omega)]; exact p4 s hs
            · have hj : j < T.1.2.2.1 + 1 := hj
              rw [k84, if_neg (by omega)]
              show _ = wI (if j = T.1.2.2.1 then some _ else T.2.2 j)
              by_cases cj : j = T.1.2.2.1
              · rw [if_pos (by omega), if_pos cj, ev]; rfl
              · rw [if_neg (by omega), if_neg cj]; exact p5 j (by omega)
            · unfold YK
              rw [k82 13 (by omega), k82 11 (by omega), k82 9 (by omega), k82 14 (by omega), k82 10 (by omega)]
              exact s4
          obtain ⟨F5, z1, z2⟩ := ih (i + 1) n' _ F4 (addW T (tok b n (stt b n p)).2.2) (by omega) (by omega) (by show i + 1 ≤ T.1.2.2.1 + 1; omega) hS
          rw [if_pos cv]
          exact ⟨F5, z1, z2.tr hT4⟩
        · rw [if_neg (by omega)] at e3
          rw [if_neg cv]
          have k9 : F4 82 9 = nI 3 := by rw [k82 9 (by omega)]; exact e3.1
          have k10 : F4 82 10 = nI (stt b n p) := by rw [k82 10 (by omega)]; exact e3.2
          obtain ⟨n', rfl⟩ : ∃ k, n' = k + 1 := ⟨n' - 1, by omega⟩
          obtain ⟨F5, z1, z2⟩ := y_tailF (N := N) (n := n) (b := b) k9 k10 (by omega)
          refine ⟨F5, ?_, z2.tr hT4⟩
          rw [fX7_readWants_L0.eq_2, if_pos (by rw [k9]; exact y_ne (by omega)), bnd_some]
          exact z1
      · rw [if_neg (by rw [show T.1.2.2.1 = 16 by omega]; exact fun h => h rfl), if_neg cw]
        obtain ⟨F1, e1, e2, e3, e4⟩ := y_failed (N := N) (n := n) (b := b) (c := 5) g3 h3 (by omega)
        obtain ⟨F2, z1, z2⟩ := y_tailF (N := N) (n := n) (b := b) e3 e4 (by omega)
        rw [show fX7_fails N 5 F = some ((), F1) from e1, bnd_some, bnd_some]
        exact ⟨F2, z1, z2.tr e2.T⟩
    · rw [wn_sem c1]
      obtain ⟨F1, z1, z2⟩ := y_semi (N := N) hN h
      refine ⟨F1, ?_, z2⟩
      rw [← z1, fX7_readWants_L0.eq_2]
      by_cases c9 : ¬ F 82 9 = 0
      · rw [if_pos c9, bnd_some]
      · rw [if_neg c9]
        by_cases c4 : (tok b n (stt b n p)).1 = 4
        · exact absurd (by rw [(h4.2.2 c4).1]; decide) c9
        · obtain ⟨g1, g2, g3⟩ := h4.1 c4
          have hne : ¬ nI (yc (tok b n (stt b n p)).1) = 2 := by
            have : yc (tok b n (stt b n p)).1 ≤ 4 ∧ yc (tok b n (stt b n p)).1 ≠ 2 := by unfold yc; split <;> omega
            show ¬ nI _ = nI 2
            simp (disch := omega) only [nI_eq]
            exact this.2
          rw [g1, if_pos hne, bnd_some]
