/-! CHANGES: rules, what is seen, images -/
theorem m_alter {N : Nat} {l1 l2 : Int32} {F : FF} (hI : Inv F) : MOK (fX6_alter N l1 l2) (fX7_alter N l1 l2) F := by
  obtain ⟨H, hIP⟩ := id hI
  have h := hIP.1
  have hns := h.ns
  have hnb := h.nb
  have hW := h.2.2.1
  unfold MOK fX6_alter fX7_alter
  rw [h.xS, xR3]
  rcases guard (x := l1) H.1.2.1 with ⟨s, hs, rfl⟩ | hg
  · rw [bI_nI hs (by omega), if_neg n10]
    rcases guard (x := l2) 4 with ⟨k, hk, rfl⟩ | hg2
    · rw [bI_nI hk (by omega), if_pos n10]
      have hWS := hW.2.2.2.2.2 s hs
      have hS := isS_of iH1 (show s < 4 by omega)
      have hSR := h.1.2.2 s hs
      obtain ⟨F1, hF1⟩ : ∃ F1, fput F (1 + 3 + 3 * s) 0 (nI k) = F1 := ⟨_, rfl⟩
      have x1 : F1 (1 + 3 + 3 * s) 0 = nI k := by rw [← hF1, fpu, if_pos ⟨rfl, rfl⟩]
      have x2 : F1 (1 + 3 + 3 * s) 1 = F (1 + 3 + 3 * s) 1 := by rw [← hF1, fpu, if_neg (by omega)]
      have x4 : ∀ c, c ≠ 1 + 3 + 3 * s → F1 c = F c := fun c hc => by rw [← hF1, fput_a hc]
      have hSR1 : SR (1 + 3 + 3 * s) F1 ((k, (H.2.1 s).1.2), (H.2.1 s).2) := ⟨x1, x2.trans hSR.2.1, fun p hp => by rw [x4 _ (by omega)]; exact hSR.2.2.1 p hp, fun p hp => by rw [x4 _ (by omega)]; exact hSR.2.2.2 p hp⟩
      obtain ⟨hX, fa⟩ := h.1.up (F' := F1) hns hs hSR1 (fun c hc _ _ => x4 c hc)
      have hP1 := h.X1 fa
      have hQ := hP1.2.2 s hs
      obtain ⟨F2, hF2⟩ : ∃ F2, fput F1 83 s (nI k) = F2 := ⟨_, rfl⟩
      have y1 : F2 83 s = nI k := by rw [← hF2, fpu, if_pos ⟨rfl, rfl⟩]
      have y2 : ∀ q, q ≠ s → F2 83 q = F1 83 q := fun q h1 => by rw [← hF2, fpu, if_neg (by omega)]
      have y4 : ∀ c, c ≠ 83 → F2 c = F1 c := fun c h3 => by rw [← hF2, fput_a h3]
      have hQ2 : QR 0 s F2 ((k, (H.2.1 s).1.2), (H.2.1 s).2) := ⟨by rw [Nat.zero_add]; exact y1, by rw [y2 _ (by omega)]; exact hQ.2.1, fun p hp => by rw [y2 _ (by omega)]; exact hQ.2.2.1 p hp, fun p hp => by rw [y2 _ (by omega)]; exact hQ.2.2.2 p hp⟩
      have hY := hP1.up (F' := F2) h.nw hns hs hQ2 (fun k _ _ => by rw [y4 82 (by omega)]) (fun q hq _ _ _ => y2 q (by omega))
      have fb : FrA 0 F1 F2 := ⟨fun c h3 _ _ => y4 c h3, fun k _ _ => by rw [y4 82 (by omega)], fun q hq => y2 q (by omega)⟩
      have hR := h.go hX hY (hW.up ⟨⟨by show k ≤ 3; omega, hWS.1.2⟩, hWS.2⟩) h.2.2.2.1 h.2.2.2.2.1 fb fa
      have q0 : F1 83 s = nI (H.2.1 s).1.1 := by have := hQ.1; rw [Nat.zero_add] at this; exact this
      refine ⟨nI (H.2.1 s).1.1, F1, F2, ?_, ?_, inv_H hIP hR rfl (KH.of fa fb)⟩
      · rw [show ldR 5 2 (nI s) = ldR 5 (1 + 1) (nI s) from rfl, ldR_H iH1 (show s < 4 by omega), gI_S0 hS, hSR.1, show ldR 5 2 (nI s) = ldR 5 (1 + 1) (nI s) from rfl, ldR_H iH1 (show s < 4 by omega), pI_S0 hS, hF1]
      · rw [y_isShelf hP1.1.2.1 hns, bnd_some, bI_nI hs (by omega), if_neg n10, yR3, bI_nI hk (by omega), if_neg n10, fX7_puts, if_pos n10, ld_ok a83 (by omega), st_ok a83 (by omega), q0, hF2, bnd_some]
    · refine ⟨-1, F, F, ?_, ?_, hI⟩
      · rw [bI_f hg2, if_neg (by decide)]
      · rw [h.yS, bnd_some, bI_nI hs (by omega), if_neg n10, yR3, bI_f hg2, if_pos rfl, fX7_puts, if_neg (fun h => h rfl), bnd_some]
  · refine ⟨-1, F, F, ?_, ?_, hI⟩
    · rw [bI_f hg, if_pos rfl]
    · rw [h.yS, bnd_some, bI_f hg, if_pos rfl, fX7_puts, if_neg (fun h => h rfl), bnd_some]
theorem m_see {N : Nat} {l1 l2 l3 : Int32} {F : FF} (hI : Inv F) : MOK (fX6_see N l1 l2 l3) (fX7_see N l1 l2 l3) F := by
  obtain ⟨H, a1, a2, a3, ⟨n, e, t1, t2, t3, t4⟩, a5, a6, a7, a8⟩ := id hI
  have h := a1
  have hns := h.ns
  have hnb := h.nb
  unfold MOK fX6_see fX7_see fX2_note
  rw [xR40, h.xS, h.xB]
  rcases guard (x := l1) 41 with ⟨u, hu, rfl⟩ | hg
  · rw [bI_nI hu (by omega), if_neg n10]
    rcases guard (x := l2) H.1.2.1 with ⟨s, hs, rfl⟩ | hg2
    · rw [bI_nI hs (by omega), if_neg n10]
      rcases guard (x := l3) H.1.1 with ⟨b, hb, rfl⟩ | hg3
      · rw [bI_nI hb (by omega), if_pos n10, t2]
        by_cases hn : n = 6
        · subst hn
          refine ⟨-3, F, F, ?_, ?_, hI⟩
          · rw [if_neg (by decide), bnd_some, if_pos rfl]
          · rw [yR40, bI_nI hu (by omega), if_neg n10, h.yS, bnd_some, bI_nI hs (by omega), if_neg n10, h.yB, bnd_some, bI_nI hb (by omega), if_pos n10, t3, if_neg (by decide)]
        · obtain ⟨F1, hF1⟩ : ∃ F1, fput (fput (fput (fput F 36 n (nI u)) 37 n (nI s)) 38 n (nI b)) 35 0 (nI (n + 1)) = F1 := ⟨_, rfl⟩
          have x1 : F1 35 0 = nI (n + 1) := by rw [← hF1, fpu, if_pos ⟨rfl, rfl⟩]
          have x36 : ∀ k, F1 36 k = if k = n then nI u else F 36 k := fun k => by
            rw [← hF1, fput_a (by omega), fput_a (by omega), fput_a (by omega), fpu]
            by_cases c : k = n
            · rw [if_pos ⟨rfl, c⟩, if_pos c]
            · rw [if_neg (fun h => c h.2), if_neg c]
          have x37 : ∀ k, F1 37 k = if k = n then nI s else F 37 k := fun k => by
            rw [← hF1, fput_a (by omega), fput_a (by omega), fpu, fput_a (by omega)]
            by_cases c : k = n
            · rw [if_pos ⟨rfl, c⟩, if_pos c]
            · rw [if_neg (fun h => c h.2), if_neg c]
          have x38 : ∀ k, F1 38 k = if k = n then nI b else F 38 k := fun k => by
            rw [← hF1, fput_a (by omega), fpu, fput_a (by omega), fput_a (by omega)]
            by_cases c : k = n
            · rw [if_pos ⟨rfl, c⟩, if_pos c]
            · rw [if_neg (fun h => c h.2), if_neg c]
          have x4 : ∀ c, c ≠ 35 → c ≠ 36 → c ≠ 37 → c ≠ 38 → F1 c = F c := fun c h1 h2 h3 h4 => by rw [← hF1, fput_a h1, fput_a h4, fput_a h3, fput_a h2]
          obtain ⟨F2, hF2⟩ : ∃ F2, fput (fput (fput (fput F1 89 (3 * n) (nI u)) 89 (3 * n + 1) (nI s)) 89 (3 * n + 2) (nI b)) 82 22 (nI (n + 1)) = F2 := ⟨_, rfl⟩
          have y1 : F2 82 22 = nI (n + 1) := by rw [← hF2, fpu, if_pos ⟨rfl, rfl⟩]
          have y2 : ∀ k, k ≠ 22 → F2 82 k = F 82 k := fun k hk => by rw [← hF2, fpu, if_neg (fun h => hk h.2), fput_a (by omega), fput_a (by omega), fput_a (by omega), x4 82 (by omega) (by omega) (by omega) (by omega)]
          have y3 : ∀ k, F2 89 k = if k = 3 * n + 2 then nI b else if k = 3 * n + 1 then nI s else if k = 3 * n then nI u else F 89 k := fun k => by
            rw [← hF2, fput_a (by omega), fpu, fpu, fpu, x4 89 (by omega) (by omega) (by omega) (by omega)]
            simp only [true_and]
          have y4 : ∀ c, c ≠ 82 → c ≠ 89 → F2 c = F1 c := fun c h3 h4 => by rw [← hF2, fput_a h3, fput_a h4, fput_a h4, fput_a h4]
          have k : ∀ c, c ≠ 35 → c ≠ 36 → c ≠ 37 → c ≠ 38 → c ≠ 82 → c ≠ 89 → F2 c = F c := fun c h1 h2 h3 h4 h5 h6 => (y4 c h5 h6).trans (x4 c h1 h2 h3 h4)
          have k' : ∀ c, c < 35 ∨ (39 ≤ c ∧ c < 82) ∨ (83 ≤ c ∧ c < 89) ∨ 90 ≤ c → F2 c = F c := fun c hc => k c (by omega) (by omega) (by omega) (by omega) (by omega) (by omega)
          have hP1 : F1 83 8 = nI H.1.2.1 ∧ F1 82 1 = nI H.1.1 := by
            rw [x4 83 (by omega) (by omega) (by omega) (by omega), x4 82 (by omega) (by omega) (by omega) (by omega)]
            exact ⟨h.2.1.1.2.1, h.2.1.1.1⟩
          have k22 : F1 82 22 = nI n := by rw [x4 82 (by omega) (by omega) (by omega) (by omega)]; exact t3
          refine ⟨nI (n + 1), F1, F2, ?_, ?_, H, a1.mv (fun c _ _ => k' c (by omega)) (y2 1 (by omega)) (y2 20 (by omega)) (fun q _ => by rw [k' 83 (by omega)]), a2.mv (k' _ (by omega)) (k' _ (by omega)) (fun c _ _ => k' c (by omega)) (y2 1 (by omega)) (y2 20 (by omega)) (fun q _ _ => by rw [k' 83 (by omega)]), a3.mv (by rw [k' 33 (by omega)]) (k' _ (by omega)) (y2 7 (by omega)) (k' _ (by omega)), ⟨n + 1, fun i => if i = n then (u, s, b) else e i, by omega, by rw [y4 35 (by omega) (by omega), x1], y1, fun i hi => ?_⟩, a5.mv (fun c _ _ => k' c (by omega)) (k' _ (by omega)) (k' _ (by omega)) (k' _ (by omega)), a6.mv (k' _ (by omega)) (k' _ (by omega)), by rw [k' 33 (by omega), y2 8 (by omega)]; exact a7, by rw [k' 0 (by omega), y2 28 (by omega)]; exact a8⟩
          · rw [if_pos (by show nI n < nI 6; simp (disch := omega) only [nI_ltI]; omega), st_ok a36 (by omega), fput_a (by omega), t2, st_ok a37 (by omega), fput_a (by omega), fput_a (by omega), t2, st_ok a38 (by omega), fput_a (by omega), fput_a (by omega), fput_a (by omega), t2, show nI n + 1 = nI (n + 1) from nI_1 n, hF1, nmE, bnd_some, if_neg n10, x1]
          · rw [yR40, bI_nI hu (by omega), if_neg n10, y_isShelf hP1.1 hns, bnd_some, bI_nI hs (by omega), if_neg n10, y_isBook hP1.2 hnb.2, bnd_some, bI_nI hb (by omega), if_pos n10, k22, if_pos (by show ¬ nI n = nI 6; simp (disch := omega) only [nI_eq]; omega), show 3 * nI n = nI (3 * n) from nI_mul 3 n, st_ok a89 (by omega), fput_a (by omega), k22, show 3 * nI n + 1 = nI (3 * n + 1) by rw [show 3 * nI n = nI (3 * n) from nI_mul 3 n]; exact nI_add _ 1, st_ok a89 (by omega), fput_a (by omega), fput_a (by omega), k22, show 3 * nI n + 2 = nI (3 * n + 2) by rw [show 3 * nI n = nI (3 * n) from nI_mul 3 n]; exact nI_add _ 2, st_ok a89 (by omega), fput_a (by omega), fput_a (by omega), fput_a (by omega), k22, show nI n + 1 = nI (n + 1) from nI_1 n, hF2, nmE, y1]
          · rw [y4 36 (by omega) (by omega), y4 37 (by omega) (by omega), y4 38 (by omega) (by omega), x36, x37, x38, y3, y3, y3]
            dsimp only
            by_cases c : i = n
            · subst c
              rw [if_pos rfl, if_pos rfl, if_pos rfl, if_pos rfl, if_neg (by omega), if_neg (by omega), if_pos rfl, if_neg (by omega), if_pos rfl, if_pos rfl]
              exact ⟨⟨rfl, rfl, by show u ≤ 40; omega⟩, ⟨rfl, rfl, by show s < 4; omega⟩, ⟨rfl, rfl, by show b < 6; omega⟩⟩
            · rw [if_neg c, if_neg c, if_neg c, if_neg c, if_neg (by omega), if_neg (by omega), if_neg (by omega), if_neg (by omega), if_neg (by omega), if_neg (by omega), if_neg (by omega), if_neg (by omega), if_neg (by omega)]
              exact t4 i (by omega)
      · refine ⟨-1, F, F, ?_, ?_, hI⟩
        · rw [bI_f hg3, if_neg (by decide)]
        · rw [yR40, bI_nI hu (by omega), if_neg n10, h.yS, bnd_some, bI_nI hs (by omega), if_neg n10, h.yB, bnd_some, bI_f hg3, if_neg (by decide)]
    · refine ⟨-1, F, F, ?_, ?_, hI⟩
      · rw [bI_f hg2, if_pos rfl]
      · rw [yR40, bI_nI hu (by omega), if_neg n10, h.yS, bnd_some, bI_f hg2, if_pos rfl]
  · refine ⟨-1, F, F, ?_, ?_, hI⟩
    · rw [bI_f hg, if_pos rfl]
    · rw [yR40, bI_f hg, if_pos rfl]
/-! images -/
theorem r31 : ∀ k, k < 2 → rarr 3 31 k = some (44 + 15 * k) := by decide +kernel
theorem iHim {k : Nat} (hk : k < 2) : isH (44 + 15 * k) := by
  rcases (show k = 0 ∨ k = 1 by omega) with rfl | rfl
  · exact iH44
  · exact iH59
theorem m_keep {N : Nat} {l1 : Int32} {F : FF} (hN : 1000 ≤ N) (hI : Inv F) : MOK (fX6_keep N l1) (fX7_keep N l1) F := by
  obtain ⟨H, a1, a2, a3, a4, a5, a6, a7, a8⟩ := id hI
  have h := a1
  have hW := h.2.2.1
  unfold MOK fX6_keep fX7_keep
  rw [xR1]
  rcases guard (x := l1) 2 with ⟨k, hk, rfl⟩ | hg
  · rw [bI_nI hk (by omega), if_pos n10]
    obtain ⟨v, hv1, hv2⟩ : ∃ v, F 32 k = v ∧ F 91 k = v := by
      rcases a2 k hk with e | e
      · exact ⟨0, e⟩
      · exact ⟨1, e.1, e.2.1⟩
    obtain ⟨F1, e1, e2, e3⟩ := x_copyH (N := N) (h := 44 + 15 * k) hN (iHim hk) iH1 (by omega) h.1 hW
    obtain ⟨F2, hF2⟩ : ∃ F2, fput F1 32 k 1 = F2 := ⟨_, rfl⟩
    have x1 : ∀ j, F2 32 j = if j = k then 1 else F 32 j := fun j => by
      rw [← hF2, fpu, e3 32 (by omega)]
      by_cases c : j = k
      · rw [if_pos ⟨rfl, c⟩, if_pos c]
      · rw [if_neg (fun h => c h.2), if_neg c]
    have x2 : ∀ c, c ≠ 32 → F2 c = F1 c := fun c hc => by rw [← hF2, fput_a hc]
    have x3 : ∀ c, c ≠ 32 → (c < 44 + 15 * k ∨ 44 + 15 * k + 15 ≤ c) → F2 c = F c := fun c hc h => (x2 c hc).trans (e3 c h)
    have hP2 : PR 0 F2 H := h.2.1.keep hW (by rw [x3 82 (by omega) (by omega)]) (by rw [x3 82 (by omega) (by omega)]) (fun q _ _ => by rw [x3 83 (by omega) (by omega)])
    obtain ⟨F3, c1, c2, c3⟩ := y_copies (N := N) (F := F2) (f := 0) (t := 75 * (k + 1)) hN (by omega) (by omega) (by omega)
    have hP3 : PR (75 * (k + 1)) F3 H := hP2.copy hW c2 c3
    obtain ⟨F4, hF4⟩ : ∃ F4, fput F3 91 k 1 = F4 := ⟨_, rfl⟩
    have y1 : ∀ j, F4 91 j = if j = k then 1 else F 91 j := fun j => by
      rw [← hF4, fpu, c2 91 (by omega), x3 91 (by omega) (by omega)]
      by_cases c : j = k
      · rw [if_pos ⟨rfl, c⟩, if_pos c]
      · rw [if_neg (fun h => c h.2), if_neg c]
    have y2 : ∀ c, c ≠ 91 → F4 c = F3 c := fun c hc => by rw [← hF4, fput_a hc]
    have y3 : ∀ c, c ≠ 91 → c ≠ 83 → F4 c = F2 c := fun c h1 h2 => (y2 c h1).trans (c2 c h2)
    have kk : ∀ c, c ≠ 91 → c ≠ 83 → c ≠ 32 → (c < 44 + 15 * k ∨ 44 + 15 * k + 15 ≤ c) → F4 c = F c := fun c h1 h2 h3 h4 => (y3 c h1 h2).trans (x3 c h3 h4)
    have k83 : ∀ q, (q < 75 * (k + 1) ∨ 75 * (k + 1) + 75 ≤ q) → F4 83 q = F 83 q := fun q hq => by rw [y2 83 (by omega), c3, if_neg (by omega), x3 83 (by omega) (by omega)]
    have k82 : F4 82 = F 82 := kk 82 (by omega) (by omega) (by omega) (by omega)
    refine ⟨if v = 0 then 0 else 1, F2, F4, ?_, ?_, H, a1.mv (fun c _ _ => kk c (by omega) (by omega) (by omega) (by omega)) (by rw [k82]) (by rw [k82]) (fun q _ => k83 q (by omega)), ?_, a3.mv (by rw [kk 33 (by omega) (by omega) (by omega) (by omega)]) (kk _ (by omega) (by omega) (by omega) (by omega)) (by rw [k82]) (kk _ (by omega) (by omega) (by omega) (by omega)), a4.mv (kk _ (by omega) (by omega) (by omega) (by omega)) (kk _ (by omega) (by omega) (by omega) (by omega)) (kk _ (by omega) (by omega) (by omega) (by omega)) (kk _ (by omega) (by omega) (by omega) (by omega)) (by rw [k82]) (kk _ (by omega) (by omega) (by omega) (by omega)), a5.mv (fun c _ _ => kk c (by omega) (by omega) (by omega) (by omega)) (kk _ (by omega) (by omega) (by omega) (by omega)) (kk _ (by omega) (by omega) (by omega) (by omega)) (kk _ (by omega) (by omega) (by omega) (by omega)), a6.mv (kk _ (by omega) (by omega) (by omega) (by omega)) (kk _ (by omega) (by omega) (by omega) (by omega)), by rw [kk 33 (by omega) (by omega) (by omega) (by omega), k82]; exact a7, by rw [kk 0 (by omega) (by omega) (by omega) (by omega), k82]; exact a8⟩
    · rw [ld_ok a32 (by omega), hv1, ldR_ok (r31 k hk) (by omega), e1, cal_some (okC_H (iHim hk)), stZ_ok a32 (by omega) (Or.inr rfl), hF2]
    · rw [yR1, bI_nI hk (by omega), if_pos n10, show nI k + 1 = nI (k + 1) from nI_1 k, show 75 * nI (k + 1) = nI (75 * (k + 1)) from nI_mul 75 _, show fX7_copies N 0 (nI (75 * (k + 1))) F2 = some ((), F3) from c1, bnd_some, ld_ok a91 (by omega), stZ_ok a91 (by omega) (Or.inr rfl), hF4, c2 91 (by omega), x3 91 (by omega) (by omega), hv2]
    · intro j hj
      rw [y3 32 (by omega) (by omega), x1, y1]
      by_cases c : j = k
      · subst c
        rw [if_pos rfl, if_pos rfl]
        refine Or.inr ⟨rfl, rfl, H, e2.keep h.ns (fun c _ _ => by rw [y3 c (by omega) (by omega), x2 c (by omega)]), hP3.keep hW (by rw [y2 82 (by omega)]) (by rw [y2 82 (by omega)]) (fun q _ _ => by rw [y2 83 (by omega)]), hW, h.2.2.2.1, h.2.2.2.2.1, rfl⟩
      · rw [if_neg c, if_neg c]
        rcases a2 j hj with e | ⟨i1, i2, J, j1, j2, j3, j4⟩
        · exact Or.inl e
        · exact Or.inr ⟨i1, i2, J, j1.keep j3.2.1 (fun c _ _ => kk c (by omega) (by omega) (by omega) (by omega)), j2.keep j3 (by rw [k82]) (by rw [k82]) (fun q _ _ => k83 q (by omega)), j3, j4⟩
  · refine ⟨-1, F, F, ?_, ?_, hI⟩
    · rw [bI_f hg, if_neg (by decide)]
    · rw [yR1, bI_f hg, if_neg (by decide)]
theorem m_back {N : Nat} {l1 : Int32} {F : FF} (hN : 1000 ≤ N) (hI : Inv F) : MOK (fX6_back N l1) (fX7_back N l1) F := by
  obtain ⟨H, hIP⟩ := id hI
  obtain ⟨a1, a2, a3, a4, a5, a6, a7, a8⟩ := id hIP
  have h := a1
  have hW := h.2.2.1
  unfold MOK fX6_back fX7_back
  rw [xR1]
  rcases guard (x := l1) 2 with ⟨k, hk, rfl⟩ | hg
  · rw [bI_nI hk (by omega), if_pos n10, ld_ok a32 (by omega)]
    rcases a2 k hk with ⟨i1, i2⟩ | ⟨i1, i2, J, j1, j2, j3, j4, j5, j6⟩
    · refine ⟨-2, F, F, ?_, ?_, hI⟩
      · rw [i1, if_neg (by decide)]
      · rw [yR1, bI_nI hk (by omega), if_pos n10, ld_ok a91 (by omega), i2, if_neg (by decide)]
    · obtain ⟨F1, e1, hX, fa⟩ := x_copyH (N := N) (h := 1) (h0 := 44 + 15 * k) hN iH1 (iHim hk) (by omega) j1 j3
      have hP1 : PR (75 * (k + 1)) F1 J := j2.keep j3 (by rw [fa 82 (by omega)]) (by rw [fa 82 (by omega)]) (fun q _ _ => by rw [fa 83 (by omega)])
      obtain ⟨F2, c1, c2, c3⟩ := y_copies (N := N) (F := F1) (f := 75 * (k + 1)) (t := 0) hN (by omega) (by omega) (by omega)
      have hY : PR 0 F2 J := hP1.copy j3 c2 c3
      have fb : FrA 0 F1 F2 := ⟨fun c h3 _ _ => c2 c h3, fun k _ _ => by rw [c2 82 (by omega)], fun q hq => by rw [c3, if_neg (by omega)]⟩
      have hR := h.go hX hY j3 j4 j5 fb fa
      refine ⟨nI J.1.2.2.2, F1, F2, ?_, ?_, inv_H hIP hR j6 (KH.of fa fb)⟩
      · rw [i1, if_pos n10, ldR_ok (r31 k hk) (by omega), e1, bnd_some, hX.1.2.2.2]
      · rw [yR1, bI_nI hk (by omega), if_pos n10, ld_ok a91 (by omega), fa 91 (by omega), i2, if_pos n10, show nI k + 1 = nI (k + 1) from nI_1 k, show 75 * nI (k + 1) = nI (75 * (k + 1)) from nI_mul 75 _, show fX7_copies N (nI (75 * (k + 1))) 0 F1 = some ((), F2) from c1, bnd_some, show F2 83 26 = nI J.1.2.2.2 from hY.1.2.2.2]
  · refine ⟨-1, F, F, ?_, ?_, hI⟩
    · rw [bI_f hg, if_neg (by decide)]
    · rw [yR1, bI_f hg, if_neg (by decide)]
