/-! QUESTIONS: wants that do not come -/
theorem gcd_st {d r : Nat} : Nat.gcd d r = Nat.gcd r (d % r) := by
  rw [Nat.gcd_comm d r, Nat.gcd_rec r d, Nat.gcd_comm]
theorem mod_half {r b : Nat} (hb : b < r) (h0 : 0 < b) : 2 * (r % b) < r := by
  have h1 := Nat.mod_lt r h0
  have h2 := Nat.div_add_mod r b
  have h3 : 1 ≤ r / b := Nat.div_pos (by omega) h0
  have h4 : b * 1 ≤ b * (r / b) := Nat.mul_le_mul_left b h3
  omega
theorem lcmp0 {a : Nat} (h : a < 2 ^ 63) : lg_cmp (lN a) 0 = 0 ↔ a = 0 := by
  rw [lg_cmp_eq, show (0 : Int64) = lN 0 from rfl, pk_lEQ h (by omega)]
theorem lne0 {a : Nat} (h : a < 2 ^ 63) (h0 : a ≠ 0) : ¬ lN a = 0 := by
  rw [show (0 : Int64) = lN 0 from rfl, pk_lEQ h (by omega)]
  exact h0
theorem lrem_lN {a b : Nat} (ha : a < 2 ^ 63) (h0 : 0 < b) (hb : b < 2 ^ 63) : lrem (lN a) (lN b) = lN (a % b) := pk_lRem ha h0 hb
theorem x_gcd {N : Nat} {A B : Int64} {w : Int32} {F : FF} : ∀ (k i n d r : Nat), r < 2 ^ k → i + 2 * k ≤ 100 → 2 * k < n → d < 2 ^ 63 → r < 2 ^ 63 → fX6_inLowestTerms_L9 N A B w n (lN d) (lN r) (nI i) F = fX6_inLowestTerms_b44 N A B w (lN (Nat.gcd d r)) F := by
  have hz : ∀ i n d, 0 < n → i ≤ 100 → fX6_inLowestTerms_L9 N A B w n (lN d) (lN 0) (nI i) F = fX6_inLowestTerms_b44 N A B w (lN (Nat.gcd d 0)) F := by
    intro i n d hn hi
    obtain ⟨n, rfl⟩ : ∃ k, n = k + 1 := ⟨n - 1, by omega⟩
    rw [fX6_inLowestTerms_L9.eq_2, Nat.gcd_zero_right]
    by_cases c : (100 : Int32) ≤ nI i
    · rw [if_pos c]
    · rw [if_neg c, if_pos ((lcmp0 (by omega)).mpr rfl)]
  have hs : ∀ i n d r, r ≠ 0 → i < 100 → d < 2 ^ 63 → r < 2 ^ 63 → fX6_inLowestTerms_L9 N A B w (n + 1) (lN d) (lN r) (nI i) F = fX6_inLowestTerms_L9 N A B w n (lN r) (lN (d % r)) (nI (i + 1)) F := by
    intro i n d r h0 hi hd hr
    rw [fX6_inLowestTerms_L9.eq_2, if_neg (by simp (disch := omega) only [il, nI_leI]; omega), if_neg (fun h => h0 ((lcmp0 hr).mp h)), dvl_ok (lne0 hr h0), lrem_lN hd (by omega) hr, show nI i + 1 = nI (i + 1) from nI_1 i]
  intro k
  induction k with
  | zero =>
    intro i n d r hr hi hn hd hr2
    have : r = 0 := by simpa using hr
    subst this
    exact hz i n d (by omega) (by omega)
  | succ k ih =>
    intro i n d r hr hi hn hd hr2
    by_cases h0 : r = 0
    · subst h0; exact hz i n d (by omega) (by omega)
    · obtain ⟨n, rfl⟩ : ∃ k, n = k + 1 := ⟨n - 1, by omega⟩
      rw [hs i n d r h0 (by omega) hd hr2, gcd_st]
      have hm : d % r < r := Nat.mod_lt _ (by omega)
      by_cases h1 : d % r = 0
      · rw [h1]; exact hz (i + 1) n r (by omega) (by omega)
      · obtain ⟨n, rfl⟩ : ∃ k, n = k + 1 := ⟨n - 1, by omega⟩
        have h2 := mod_half hm (by omega)
        rw [hs (i + 1) n r (d % r) h1 (by omega) hr2 (by omega), gcd_st]
        exact ih (i + 1 + 1) n (d % r) (r % (d % r)) (by rw [Nat.pow_succ] at hr; omega) (by omega) (by omega) (by omega) (by omega)
theorem y_gcd {N : Nat} {A B : Int64} {w : Int32} {F : FF} : ∀ (k n a b : Nat), b < 2 ^ k → 2 * k < n → a < 2 ^ 63 → b < 2 ^ 63 → Nat.gcd a b ≠ 0 → Nat.gcd a b < 2 ^ 63 → fX7_lowest_L6 N A B w n (lN a) (lN b) F = some ((if ¬ w = 0 then B else A) / lN (Nat.gcd a b), F) := by
  have hz : ∀ n a, 0 < n → a ≠ 0 → a < 2 ^ 63 → fX7_lowest_L6 N A B w n (lN a) (lN 0) F = some ((if ¬ w = 0 then B else A) / lN a, F) := by
    intro n a hn h0 ha
    obtain ⟨n, rfl⟩ : ∃ k, n = k + 1 := ⟨n - 1, by omega⟩
    rw [fX7_lowest_L6.eq_2, if_pos ((lcmp0 (by omega)).mpr rfl), dvl_ok (lne0 ha h0)]
  have hs : ∀ n a b, b ≠ 0 → a < 2 ^ 63 → b < 2 ^ 63 → fX7_lowest_L6 N A B w (n + 1) (lN a) (lN b) F = fX7_lowest_L6 N A B w n (lN b) (lN (a % b)) F := by
    intro n a b h0 ha hb
    rw [fX7_lowest_L6.eq_2, if_neg (fun h => h0 ((lcmp0 hb).mp h)), dvl_ok (lne0 hb h0), lrem_lN ha (by omega) hb]
  intro k
  induction k with
  | zero =>
    intro n a b hb hn ha hb2 hg hg2
    have : b = 0 := by simpa using hb
    subst this
    rw [Nat.gcd_zero_right] at hg ⊢
    exact hz n a (by omega) hg ha
  | succ k ih =>
    intro n a b hb hn ha hb2 hg hg2
    by_cases h0 : b = 0
    · subst h0
      rw [Nat.gcd_zero_right] at hg ⊢
      exact hz n a (by omega) hg ha
    · obtain ⟨n, rfl⟩ : ∃ k, n = k + 1 := ⟨n - 1, by omega⟩
      rw [gcd_st] at hg hg2 ⊢
      rw [hs n a b h0 ha hb2]
      have hm : a % b < b := Nat.mod_lt _ (by omega)
      by_cases h1 : a % b = 0
      · rw [h1, Nat.gcd_zero_right] at hg ⊢
        exact hz n b (by omega) hg hb2
      · obtain ⟨n, rfl⟩ : ∃ k, n = k + 1 := ⟨n - 1, by omega⟩
        have h2 := mod_half hm (by omega)
        rw [gcd_st] at hg hg2 ⊢
        rw [hs n b (a % b) h1 hb2 (by omega)]
        exact ih n (a % b) (b % (a % b)) (by rw [Nat.pow_succ] at hb; omega) (by omega) (by omega) (by omega) hg hg2
/-- lowest terms, the two ways -/
theorem lowest_eq {N A B : Nat} {w : Int32} {F : FF} (hN : 1000 ≤ N) (hA : A < 2 ^ 45) (hB : B < 2 ^ 45) (hB0 : 0 < B) : fX6_inLowestTerms N (lN A) (lN B) w F = some ((if ¬ w = 0 then lN B else lN A) / lN (Nat.gcd A B), F) ∧ fX7_lowest N (lN A) (lN B) w F = some ((if ¬ w = 0 then lN B else lN A) / lN (Nat.gcd A B), F) := by
  have hg : Nat.gcd A B ≠ 0 := fun h => by
    have := Nat.eq_zero_of_gcd_eq_zero_right h
    omega
  have hg2 : Nat.gcd A B ≤ B := Nat.gcd_le_right A hB0
  constructor
  · unfold fX6_inLowestTerms
    rw [show (0 : Int32) = nI 0 from rfl, x_gcd (d := B) (r := A) 45 0 N (by omega) (by omega) (by omega) (by omega) (by omega), fX6_inLowestTerms_b44, Nat.gcd_comm, if_pos (fun h => hg ((lcmp0 (by omega)).mp h))]
    rw [show nI 0 = (0 : Int32) from rfl]
    by_cases c : w = 0
    · rw [if_neg (fun h => h c), if_neg (fun h => h c), dvl_ok (lne0 (by omega) hg)]
    · rw [if_pos c, if_pos c, dvl_ok (lne0 (by omega) hg)]
  · unfold fX7_lowest
    exact y_gcd 45 N A B (by omega) (by omega) (by omega) (by omega) hg (by omega)
/-! weights -/
def od (v M : Nat) : Nat → Nat
  | 0 => 1
  | k + 1 => od v M k * (if M / 2 ^ k % 2 = 1 then v else 10 - v)
def pop (M n : Nat) : Nat := sumTo (fun k => M / 2 ^ k % 2) n
theorem pop_le {M : Nat} : ∀ n, pop M n ≤ n
  | 0 => Nat.le_refl _
  | n + 1 => by
    have h1 := pop_le (M := M) n
    have h2 : M / 2 ^ n % 2 < 2 := Nat.mod_lt _ (by omega)
    show pop M n + M / 2 ^ n % 2 ≤ n + 1
    omega
theorem od_eq {v M : Nat} : ∀ n, od v M n = v ^ pop M n * (10 - v) ^ (n - pop M n)
  | 0 => rfl
  | n + 1 => by
    have h1 := pop_le (M := M) n
    have h2 : M / 2 ^ n % 2 < 2 := Nat.mod_lt _ (by omega)
    show od v M n * _ = v ^ (pop M n + M / 2 ^ n % 2) * (10 - v) ^ (n + 1 - (pop M n + M / 2 ^ n % 2))
    rw [od_eq n]
    by_cases c : M / 2 ^ n % 2 = 1
    · rw [if_pos c, c, Nat.pow_succ, show n + 1 - (pop M n + 1) = n - pop M n by omega, Nat.mul_assoc, Nat.mul_assoc, Nat.mul_comm v]
    · rw [if_neg c, show M / 2 ^ n % 2 = 0 by omega, Nat.add_zero, show n + 1 - pop M n = n - pop M n + 1 by omega, Nat.pow_succ, Nat.mul_assoc]
theorem od_le {v M : Nat} (hv : v ≤ 10) : ∀ n, od v M n ≤ 10 ^ n
  | 0 => Nat.le_refl _
  | n + 1 => by
    have h1 := od_le (M := M) hv n
    show od v M n * _ ≤ 10 ^ n * 10
    apply Nat.mul_le_mul h1
    split <;> omega
theorem pop_8 : ∀ M, M < 256 → bcnt (nI M) = nI (pop M 8) := by decide +kernel
theorem pop_n {M n : Nat} (hM : M < 2 ^ n) : ∀ m, pop M (n + m) = pop M n
  | 0 => rfl
  | m + 1 => by
    show pop M (n + m) + M / 2 ^ (n + m) % 2 = _
    have h1 : 2 ^ n ≤ 2 ^ (n + m) := Nat.pow_le_pow_right (by omega) (by omega)
    rw [pop_n hM m, Nat.div_eq_of_lt (by omega)]
    rfl
theorem pow2 : ∀ n, n < 9 → (1 : Int32) <<< (nI n &&& 31) = nI (2 ^ n) := by decide +kernel
theorem pow2_le {n : Nat} (h : n ≤ 8) : 2 ^ n ≤ 256 := by
  have : 2 ^ n ≤ 2 ^ 8 := Nat.pow_le_pow_right (by omega) h
  omega
theorem pow10_le {n : Nat} (h : n ≤ 8) : 10 ^ n ≤ 100000000 := by
  have : 10 ^ n ≤ 10 ^ 8 := Nat.pow_le_pow_right (by omega) h
  omega
theorem x_power_L {N b e : Nat} {F : FF} (hb : b ≤ 10) (he : e ≤ 8) : ∀ (m i n : Nat), i + m = e → m < n → fX6_power_L5 N (nI b) (nI e) n (lN (b ^ i)) (nI i) F = some (lN (b ^ e), F) := by
  intro m
  induction m with
  | zero =>
    intro i n hi hn
    obtain ⟨n, rfl⟩ : ∃ k, n = k + 1 := ⟨n - 1, by omega⟩
    rw [fX6_power_L5.eq_2, if_pos (by simp (disch := omega) only [nI_leI]; omega), show i = e by omega]
  | succ m ih =>
    intro i n hi hn
    obtain ⟨n, rfl⟩ : ∃ k, n = k + 1 := ⟨n - 1, by omega⟩
    rw [fX6_power_L5.eq_2, if_neg (by simp (disch := omega) only [nI_leI]; omega), nI_l (by omega), lN_mul, show nI i + 1 = nI (i + 1) from nI_1 i]
    exact ih (i + 1) n (by omega) (by omega)
theorem x_power {N b e : Nat} {F : FF} (hN : 1000 ≤ N) (hb : b ≤ 10) (he : e ≤ 8) : fX6_power N (nI b) (nI e) F = some (lN (b ^ e), F) := x_power_L hb he e 0 N (by omega) (by omega)
theorem x_weight {N M v n : Nat} {F : FF} (hN : 1000 ≤ N) (hv : v ≤ 10) (hn : n ≤ 8) (hM : M < 2 ^ n) : fX6_weightOf N (nI M) (nI v) (nI n) F = some (lN (od v M n), F) := by
  have h256 := pow2_le hn
  have hp := pop_le (M := M) n
  have e8 : pop M 8 = pop M n := by
    have := pop_n (M := M) hM (8 - n)
    rw [show n + (8 - n) = 8 by omega] at this
    exact this
  have eb : pJ6_bitCount_0f7a4 (nI M) F = nI (pop M n) := by
    show bcnt (nI M) = _
    rw [pop_8 M (by omega), e8]
  unfold fX6_weightOf
  rw [eb, x_power hN hv (by omega), bnd_some, nI_sub (by omega), show (10 : Int32) - nI v = nI (10 - v) from nI_sub (a := 10) hv, x_power hN (by omega) (by omega), bnd_some, lN_mul, od_eq]
