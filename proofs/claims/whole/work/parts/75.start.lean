/-! THE MEMORY BEHIND BOTH CONSTRUCTORS, as a table; what class and reference have in common holds there -/
def F00 : FF := fun a k => match ymE.2 a with
  | some (.inl (_, _, .inl f)) => f k
  | some (.inr (_, fs)) => (match fs[k]? with
    | some (.int x) => x
    | _ => 0)
  | _ => 0
theorem hsF4 (z : Nat) : hsF z 4 = fun j => [z + 2, z + 5, z + 8, z + 11][j]? := by
  funext j
  match j with
  | 0 => rfl
  | 1 => rfl
  | 2 => rfl
  | 3 => rfl
  | j + 4 => simp [hsF, va_up]
theorem im2 : (va_up (va_up (fun _ : Nat => (none : Option Nat)) 0 (some 44)) 1 (some 59)) = fun j => [44, 59][j]? := by
  funext j
  match j with
  | 0 => rfl
  | 1 => rfl
  | j + 2 => simp [va_up]
theorem st4 : (va_up (va_up (va_up (va_up (fun _ : Nat => (none : Option Nat)) 0 (some 74)) 1 (some 76)) 2 (some 78)) 3 (some 80)) = fun j => [74, 76, 78, 80][j]? := by
  funext j
  match j with
  | 0 => rfl
  | 1 => rfl
  | 2 => rfl
  | 3 => rfl
  | j + 4 => simp [va_up]
set_option maxRecDepth 100000 in
theorem me_0 : ymE.2 0 = (mem F00).2 0 := rfl
set_option maxRecDepth 100000 in
theorem me_1 : ymE.2 1 = (mem F00).2 1 := rfl
set_option maxRecDepth 100000 in
theorem me_2 : ymE.2 2 = (mem F00).2 2 := (show ymE.2 2 = some (.inl (5, 4, .inr (hsF 2 4))) from rfl).trans (by rw [hsF4]; rfl)
set_option maxRecDepth 100000 in
theorem me_3 : ymE.2 3 = (mem F00).2 3 := rfl
set_option maxRecDepth 100000 in
theorem me_4 : ymE.2 4 = (mem F00).2 4 := rfl
set_option maxRecDepth 100000 in
theorem me_5 : ymE.2 5 = (mem F00).2 5 := rfl
set_option maxRecDepth 100000 in
theorem me_6 : ymE.2 6 = (mem F00).2 6 := rfl
set_option maxRecDepth 100000 in
theorem me_7 : ymE.2 7 = (mem F00).2 7 := rfl
set_option maxRecDepth 100000 in
theorem me_8 : ymE.2 8 = (mem F00).2 8 := rfl
set_option maxRecDepth 100000 in
theorem me_9 : ymE.2 9 = (mem F00).2 9 := rfl
set_option maxRecDepth 100000 in
theorem me_10 : ymE.2 10 = (mem F00).2 10 := rfl
set_option maxRecDepth 100000 in
theorem me_11 : ymE.2 11 = (mem F00).2 11 := rfl
set_option maxRecDepth 100000 in
theorem me_12 : ymE.2 12 = (mem F00).2 12 := rfl
set_option maxRecDepth 100000 in
theorem me_13 : ymE.2 13 = (mem F00).2 13 := rfl
set_option maxRecDepth 100000 in
theorem me_14 : ymE.2 14 = (mem F00).2 14 := rfl
set_option maxRecDepth 100000 in
theorem me_15 : ymE.2 15 = (mem F00).2 15 := rfl
set_option maxRecDepth 100000 in
theorem me_16 : ymE.2 16 = (mem F00).2 16 := rfl
set_option maxRecDepth 100000 in
theorem me_17 : ymE.2 17 = (mem F00).2 17 := (show ymE.2 17 = some (.inl (5, 4, .inr (hsF 17 4))) from rfl).trans (by rw [hsF4]; rfl)
set_option maxRecDepth 100000 in
theorem me_18 : ymE.2 18 = (mem F00).2 18 := rfl
set_option maxRecDepth 100000 in
theorem me_19 : ymE.2 19 = (mem F00).2 19 := rfl
set_option maxRecDepth 100000 in
theorem me_20 : ymE.2 20 = (mem F00).2 20 := rfl
set_option maxRecDepth 100000 in
theorem me_21 : ymE.2 21 = (mem F00).2 21 := rfl
set_option maxRecDepth 100000 in
theorem me_22 : ymE.2 22 = (mem F00).2 22 := rfl
set_option maxRecDepth 100000 in
theorem me_23 : ymE.2 23 = (mem F00).2 23 := rfl
set_option maxRecDepth 100000 in
theorem me_24 : ymE.2 24 = (mem F00).2 24 := rfl
set_option maxRecDepth 100000 in
theorem me_25 : ymE.2 25 = (mem F00).2 25 := rfl
set_option maxRecDepth 100000 in
theorem me_26 : ymE.2 26 = (mem F00).2 26 := rfl
set_option maxRecDepth 100000 in
theorem me_27 : ymE.2 27 = (mem F00).2 27 := rfl
set_option maxRecDepth 100000 in
theorem me_28 : ymE.2 28 = (mem F00).2 28 := rfl
set_option maxRecDepth 100000 in
theorem me_29 : ymE.2 29 = (mem F00).2 29 := rfl
set_option maxRecDepth 100000 in
theorem me_30 : ymE.2 30 = (mem F00).2 30 := rfl
set_option maxRecDepth 100000 in
theorem me_31 : ymE.2 31 = (mem F00).2 31 := (show ymE.2 31 = some (.inl (3, 2, .inr (va_up (va_up (fun _ : Nat => (none : Option Nat)) 0 (some 44)) 1 (some 59)))) from rfl).trans (by rw [im2]; rfl)
set_option maxRecDepth 100000 in
theorem me_32 : ymE.2 32 = (mem F00).2 32 := rfl
set_option maxRecDepth 100000 in
theorem me_33 : ymE.2 33 = (mem F00).2 33 := rfl
set_option maxRecDepth 100000 in
theorem me_34 : ymE.2 34 = (mem F00).2 34 := rfl
set_option maxRecDepth 100000 in
theorem me_35 : ymE.2 35 = (mem F00).2 35 := rfl
set_option maxRecDepth 100000 in
theorem me_36 : ymE.2 36 = (mem F00).2 36 := rfl
set_option maxRecDepth 100000 in
theorem me_37 : ymE.2 37 = (mem F00).2 37 := rfl
set_option maxRecDepth 100000 in
theorem me_38 : ymE.2 38 = (mem F00).2 38 := rfl
set_option maxRecDepth 100000 in
theorem me_39 : ymE.2 39 = (mem F00).2 39 := (show ymE.2 39 = some (.inl (4, 4, .inr (va_up (va_up (va_up (va_up (fun _ : Nat => (none : Option Nat)) 0 (some 74)) 1 (some 76)) 2 (some 78)) 3 (some 80)))) from rfl).trans (by rw [st4]; rfl)
set_option maxRecDepth 100000 in
theorem me_40 : ymE.2 40 = (mem F00).2 40 := rfl
set_option maxRecDepth 100000 in
theorem me_41 : ymE.2 41 = (mem F00).2 41 := rfl
set_option maxRecDepth 100000 in
theorem me_42 : ymE.2 42 = (mem F00).2 42 := rfl
set_option maxRecDepth 100000 in
theorem me_43 : ymE.2 43 = (mem F00).2 43 := rfl
set_option maxRecDepth 100000 in
theorem me_44 : ymE.2 44 = (mem F00).2 44 := rfl
set_option maxRecDepth 100000 in
theorem me_45 : ymE.2 45 = (mem F00).2 45 := (show ymE.2 45 = some (.inl (5, 4, .inr (hsF 45 4))) from rfl).trans (by rw [hsF4]; rfl)
set_option maxRecDepth 100000 in
theorem me_46 : ymE.2 46 = (mem F00).2 46 := rfl
set_option maxRecDepth 100000 in
theorem me_47 : ymE.2 47 = (mem F00).2 47 := rfl
set_option maxRecDepth 100000 in
theorem me_48 : ymE.2 48 = (mem F00).2 48 := rfl
set_option maxRecDepth 100000 in
theorem me_49 : ymE.2 49 = (mem F00).2 49 := rfl
set_option maxRecDepth 100000 in
theorem me_50 : ymE.2 50 = (mem F00).2 50 := rfl
set_option maxRecDepth 100000 in
theorem me_51 : ymE.2 51 = (mem F00).2 51 := rfl
set_option maxRecDepth 100000 in
theorem me_52 : ymE.2 52 = (mem F00).2 52 := rfl
set_option maxRecDepth 100000 in
theorem me_53 : ymE.2 53 = (mem F00).2 53 := rfl
set_option maxRecDepth 100000 in
theorem me_54 : ymE.2 54 = (mem F00).2 54 := rfl
set_option maxRecDepth 100000 in
theorem me_55 : ymE.2 55 = (mem F00).2 55 := rfl
set_option maxRecDepth 100000 in
theorem me_56 : ymE.2 56 = (mem F00).2 56 := rfl
set_option maxRecDepth 100000 in
theorem me_57 : ymE.2 57 = (mem F00).2 57 := rfl
set_option maxRecDepth 100000 in
theorem me_58 : ymE.2 58 = (mem F00).2 58 := rfl
set_option maxRecDepth 100000 in
theorem me_59 : ymE.2 59 = (mem F00).2 59 := rfl
set_option maxRecDepth 100000 in
theorem me_60 : ymE.2 60 = (mem F00).2 60 := (show ymE.2 60 = some (.inl (5, 4, .inr (hsF 60 4))) from rfl).trans (by rw [hsF4]; rfl)
set_option maxRecDepth 100000 in
theorem me_61 : ymE.2 61 = (mem F00).2 61 := rfl
set_option maxRecDepth 100000 in
theorem me_62 : ymE.2 62 = (mem F00).2 62 := rfl
set_option maxRecDepth 100000 in
theorem me_63 : ymE.2 63 = (mem F00).2 63 := rfl
set_option maxRecDepth 100000 in
theorem me_64 : ymE.2 64 = (mem F00).2 64 := rfl
set_option maxRecDepth 100000 in
theorem me_65 : ymE.2 65 = (mem F00).2 65 := rfl
set_option maxRecDepth 100000 in
theorem me_66 : ymE.2 66 = (mem F00).2 66 := rfl
set_option maxRecDepth 100000 in
theorem me_67 : ymE.2 67 = (mem F00).2 67 := rfl
set_option maxRecDepth 100000 in
theorem me_68 : ymE.2 68 = (mem F00).2 68 := rfl
set_option maxRecDepth 100000 in
theorem me_69 : ymE.2 69 = (mem F00).2 69 := rfl
set_option maxRecDepth 100000 in
theorem me_70 : ymE.2 70 = (mem F00).2 70 := rfl
set_option maxRecDepth 100000 in
theorem me_71 : ymE.2 71 = (mem F00).2 71 := rfl
set_option maxRecDepth 100000 in
theorem me_72 : ymE.2 72 = (mem F00).2 72 := rfl
set_option maxRecDepth 100000 in
theorem me_73 : ymE.2 73 = (mem F00).2 73 := rfl
set_option maxRecDepth 100000 in
theorem me_74 : ymE.2 74 = (mem F00).2 74 := rfl
set_option maxRecDepth 100000 in
theorem me_75 : ymE.2 75 = (mem F00).2 75 := rfl
set_option maxRecDepth 100000 in
theorem me_76 : ymE.2 76 = (mem F00).2 76 := rfl
set_option maxRecDepth 100000 in
theorem me_77 : ymE.2 77 = (mem F00).2 77 := rfl
set_option maxRecDepth 100000 in
theorem me_78 : ymE.2 78 = (mem F00).2 78 := rfl
set_option maxRecDepth 100000 in
theorem me_79 : ymE.2 79 = (mem F00).2 79 := rfl
set_option maxRecDepth 100000 in
theorem me_80 : ymE.2 80 = (mem F00).2 80 := rfl
set_option maxRecDepth 100000 in
theorem me_81 : ymE.2 81 = (mem F00).2 81 := rfl
set_option maxRecDepth 100000 in
theorem me_82 : ymE.2 82 = (mem F00).2 82 := rfl
set_option maxRecDepth 100000 in
theorem me_83 : ymE.2 83 = (mem F00).2 83 := rfl
set_option maxRecDepth 100000 in
theorem me_84 : ymE.2 84 = (mem F00).2 84 := rfl
set_option maxRecDepth 100000 in
theorem me_85 : ymE.2 85 = (mem F00).2 85 := rfl
set_option maxRecDepth 100000 in
theorem me_86 : ymE.2 86 = (mem F00).2 86 := rfl
set_option maxRecDepth 100000 in
theorem me_87 : ymE.2 87 = (mem F00).2 87 := rfl
set_option maxRecDepth 100000 in
theorem me_88 : ymE.2 88 = (mem F00).2 88 := rfl
set_option maxRecDepth 100000 in
theorem me_89 : ymE.2 89 = (mem F00).2 89 := rfl
set_option maxRecDepth 100000 in
theorem me_90 : ymE.2 90 = (mem F00).2 90 := rfl
set_option maxRecDepth 100000 in
theorem me_91 : ymE.2 91 = (mem F00).2 91 := rfl
set_option maxRecDepth 100000 in
theorem me_92 : ymE.2 92 = (mem F00).2 92 := rfl
set_option maxRecDepth 100000 in
theorem me_93 : ymE.2 93 = (mem F00).2 93 := rfl
set_option maxRecDepth 100000 in
theorem me_94 : ymE.2 94 = (mem F00).2 94 := rfl
theorem me_lt : ∀ k, k < 95 → ymE.2 k = (mem F00).2 k := fun k hk => match k, hk with
  | 0, _ => me_0
  | 1, _ => me_1
  | 2, _ => me_2
  | 3, _ => me_3
  | 4, _ => me_4
  | 5, _ => me_5
  | 6, _ => me_6
  | 7, _ => me_7
  | 8, _ => me_8
  | 9, _ => me_9
  | 10, _ => me_10
  | 11, _ => me_11
  | 12, _ => me_12
  | 13, _ => me_13
  | 14, _ => me_14
  | 15, _ => me_15
  | 16, _ => me_16
  | 17, _ => me_17
  | 18, _ => me_18
  | 19, _ => me_19
  | 20, _ => me_20
  | 21, _ => me_21
  | 22, _ => me_22
  | 23, _ => me_23
  | 24, _ => me_24
  | 25, _ => me_25
  | 26, _ => me_26
  | 27, _ => me_27
  | 28, _ => me_28
  | 29, _ => me_29
  | 30, _ => me_30
  | 31, _ => me_31
  | 32, _ => me_32
  | 33, _ => me_33
  | 34, _ => me_34
  | 35, _ => me_35
  | 36, _ => me_36
  | 37, _ => me_37
  | 38, _ => me_38
  | 39, _ => me_39
  | 40, _ => me_40
  | 41, _ => me_41
  | 42, _ => me_42
  | 43, _ => me_43
  | 44, _ => me_44
  | 45, _ => me_45
  | 46, _ => me_46
  | 47, _ => me_47
  | 48, _ => me_48
  | 49, _ => me_49
  | 50, _ => me_50
  | 51, _ => me_51
  | 52, _ => me_52
  | 53, _ => me_53
  | 54, _ => me_54
  | 55, _ => me_55
  | 56, _ => me_56
  | 57, _ => me_57
  | 58, _ => me_58
  | 59, _ => me_59
  | 60, _ => me_60
  | 61, _ => me_61
  | 62, _ => me_62
  | 63, _ => me_63
  | 64, _ => me_64
  | 65, _ => me_65
  | 66, _ => me_66
  | 67, _ => me_67
  | 68, _ => me_68
  | 69, _ => me_69
  | 70, _ => me_70
  | 71, _ => me_71
  | 72, _ => me_72
  | 73, _ => me_73
  | 74, _ => me_74
  | 75, _ => me_75
  | 76, _ => me_76
  | 77, _ => me_77
  | 78, _ => me_78
  | 79, _ => me_79
  | 80, _ => me_80
  | 81, _ => me_81
  | 82, _ => me_82
  | 83, _ => me_83
  | 84, _ => me_84
  | 85, _ => me_85
  | 86, _ => me_86
  | 87, _ => me_87
  | 88, _ => me_88
  | 89, _ => me_89
  | 90, _ => me_90
  | 91, _ => me_91
  | 92, _ => me_92
  | 93, _ => me_93
  | 94, _ => me_94
  | k + 95, h => absurd h (by omega)
theorem ymE_mem : ymE = mem F00 := mem_ext ymE_1 (fun c => by
  by_cases h : c < 95
  · exact me_lt c h
  · have h1 : ymE.2 c = none := by
      cases e : ymE.2 c with
      | none => rfl
      | some x =>
        have := ymE_w c x e
        rw [ymE_1] at this
        exact absurd this h
    have h2 : (mem F00).2 c = none := by
      cases e : (mem F00).2 c with
      | none => rfl
      | some x => exact absurd (mem_wf F00 c x e) h
    rw [h1, h2])
theorem i0_a : F00 1 0 = nI 4 ∧ F00 1 1 = nI 0 ∧ F00 1 2 = nI 0 ∧ F00 1 3 = nI 0 := by decide +kernel
theorem i0_b : F00 82 1 = nI 4 ∧ F00 83 8 = nI 0 ∧ F00 83 25 = nI 0 ∧ F00 83 26 = nI 0 := by decide +kernel
theorem i0_c : ∀ k, k < 2 → F00 32 k = 0 ∧ F00 91 k = 0 := by decide +kernel
theorem i0_d : ∀ k, k < 4 → F00 (74 + 2 * k) 0 = -1 ∧ F00 92 k = -4 := by decide +kernel
theorem i0_e : ∀ k, k < 4 → ∀ i, i < 40 → F00 (75 + 2 * k) i = F00 94 (40 * k + i) := by decide +kernel
theorem i0_f : (∀ i, i < 7 → F00 86 i = nI (yEnds.getD i 0)) ∧ ∀ i, i < 27 → F00 87 i = nI (yLets.getD i 0) := by decide +kernel
theorem i0_g : F00 82 20 = -4 ∧ F00 33 1 = nI 0 ∧ F00 82 7 = nI 0 ∧ F00 35 0 = nI 0 ∧ F00 82 22 = nI 0 ∧ F00 33 2 = F00 82 8 ∧ F00 0 11 = F00 82 28 := by decide +kernel
theorem inv_0 : Inv F00 := by
  obtain ⟨g1, g2, g3, g4, g5, g6, g7⟩ := i0_g
  exact ⟨T0, ⟨⟨i0_a, fun i hi => absurd hi (Nat.not_lt_zero i), fun s hs => absurd hs (Nat.not_lt_zero s)⟩, ⟨i0_b, fun i hi => absurd hi (Nat.not_lt_zero i), fun s hs => absurd hs (Nat.not_lt_zero s)⟩, ⟨⟨by decide, by decide⟩, by decide, by decide, by decide, fun i hi => absurd hi (Nat.not_lt_zero i), fun s hs => absurd hs (Nat.not_lt_zero s)⟩, fun i hi => absurd hi (Nat.not_lt_zero i), by decide, g1⟩, fun k hk => Or.inl (i0_c k hk), ⟨0, fun _ => 0, by decide, g2, g3, fun i hi => absurd hi (Nat.not_lt_zero i)⟩, ⟨0, fun _ => (0, 0, 0), by decide, g4, g5, fun i hi => absurd hi (Nat.not_lt_zero i)⟩, fun k hk => ⟨Or.inl (i0_d k hk), i0_e k hk⟩, i0_f, g6, g7⟩
