/-! A SHELF: ((kind, cost), row, asked) -/
abbrev Sh : Type := (Nat × Nat) × (Nat → Nat) × (Nat → Nat)
def SR (a : Nat) (F : FF) (x : Sh) : Prop := F a 0 = nI x.1.1 ∧ F a 1 = nI x.1.2 ∧ (∀ p, p < 6 → F (a + 1) p = nI (x.2.1 p)) ∧ (∀ b, b < 6 → F (a + 2) b = nI (x.2.2 b))
def QR (pg s : Nat) (F : FF) (x : Sh) : Prop := F 83 (pg + s) = nI x.1.1 ∧ F 83 (pg + 4 + s) = nI x.1.2 ∧ (∀ p, p < 6 → F 83 (pg + 27 + 6 * s + p) = nI (x.2.1 p)) ∧ (∀ b, b < 6 → F 83 (pg + 51 + 6 * s + b) = nI (x.2.2 b))
def WS (nb : Nat) (x : Sh) : Prop := (x.1.1 ≤ 3 ∧ x.1.2 ≤ 99999) ∧ (∀ p, p < 6 → x.2.1 p < 6) ∧ (∀ p, p < 6 → ∀ q, q < 6 → x.2.1 p = x.2.1 q → p = q) ∧ (∀ b, b < 6 → ∃ p, p < 6 ∧ x.2.1 p = b) ∧ (∀ p, p < 6 → nb ≤ p → x.2.1 p = p) ∧ (∀ b, b < 6 → x.2.2 b ≤ 99)
/-- the place of a book -/
def plF (r : Nat → Nat) (b : Nat) : Nat → Nat → Nat
  | 0, i => i
  | n + 1, i => if r i = b then i else plF r b n (i + 1)
def plc (r : Nat → Nat) (b : Nat) : Nat := plF r b 5 0
def pay (k p : Nat) : Nat := if k = 2 ∧ 0 < p then p + 2 else p + 1
def flF (q : Nat → Nat) (r : Nat → Nat) (b : Nat) : Nat → Nat → Nat
  | 0, i => i
  | n + 1, i => if q (r i) < q b then i else flF q r b n (i + 1)
def gol (k : Nat) (q r : Nat → Nat) (b p : Nat) : Nat := if k = 1 then p - 1 else if k = 2 then 0 else if k = 3 then flF q r b p 0 else p
def mv (r : Nat → Nat) (f t : Nat) : Nat → Nat := fun p => if p = t then r f else if t < p ∧ p ≤ f then r (p - 1) else if f ≤ p ∧ p < t then r (p + 1) else r p
def inc (q : Nat → Nat) (b : Nat) : Nat → Nat := fun x => if x = b then (if q b + 1 ≤ 99 then q b + 1 else 99) else q x
def pyS (x : Sh) (b : Nat) : Nat := pay x.1.1 (plc x.2.1 b)
def goS (x : Sh) (b : Nat) : Nat := gol x.1.1 (inc x.2.2 b) x.2.1 b (plc x.2.1 b)
def srv (x : Sh) (b : Nat) : Sh := ((x.1.1, if x.1.2 + pyS x b ≤ 99999 then x.1.2 + pyS x b else 99999), mv x.2.1 (plc x.2.1 b) (goS x b), inc x.2.2 b)
theorem plF_le (r : Nat → Nat) (b : Nat) : ∀ n i, i ≤ plF r b n i ∧ plF r b n i ≤ i + n
  | 0, i => by simp [plF]
  | n + 1, i => by
    have := plF_le r b n (i + 1)
    unfold plF
    split <;> omega
theorem plc_le (r : Nat → Nat) (b : Nat) : plc r b ≤ 5 := by
  have := plF_le r b 5 0
  unfold plc
  omega
theorem plF_at (r : Nat → Nat) (b : Nat) : ∀ n i, (∃ p, i ≤ p ∧ p ≤ i + n ∧ r p = b) → r (plF r b n i) = b
  | 0, i => by
    rintro ⟨p, h1, h2, h3⟩
    have : p = i := by omega
    subst this
    exact h3
  | n + 1, i => by
    rintro ⟨p, h1, h2, h3⟩
    unfold plF
    split
    · assumption
    · rename_i hne
      refine plF_at r b n (i + 1) ⟨p, ?_, by omega, h3⟩
      by_cases e : p = i
      · subst e; exact absurd h3 hne
      · omega
theorem WS.at {nb b : Nat} {x : Sh} (h : WS nb x) (hb : b < 6) : x.2.1 (plc x.2.1 b) = b := by
  obtain ⟨p, h1, h2⟩ := h.2.2.2.1 b hb
  exact plF_at _ _ 5 0 ⟨p, by omega, by omega, h2⟩
theorem WS.pl {nb p : Nat} {x : Sh} (h : WS nb x) (hp : p < 6) : plc x.2.1 (x.2.1 p) = p := by
  have h1 := h.at (h.2.1 p hp)
  exact h.2.2.1 _ (by have := plc_le x.2.1 (x.2.1 p); omega) _ hp h1
theorem WS.plt {nb b : Nat} {x : Sh} (h : WS nb x) (hn : nb ≤ 6) (hb : b < nb) : plc x.2.1 b < nb := by
  have h1 := h.at (show b < 6 by omega)
  by_cases e : plc x.2.1 b < nb
  · exact e
  · have h2 := h.2.2.2.2.1 (plc x.2.1 b) (by have := plc_le x.2.1 b; omega) (by omega)
    omega
theorem flF_le (q r : Nat → Nat) (b : Nat) : ∀ n i, i ≤ flF q r b n i ∧ flF q r b n i ≤ i + n
  | 0, i => by simp [flF]
  | n + 1, i => by
    have := flF_le q r b n (i + 1)
    unfold flF
    split <;> omega
theorem gol_le (k : Nat) (q r : Nat → Nat) (b p : Nat) : gol k q r b p ≤ p := by
  have := flF_le q r b p 0
  unfold gol
  split
  · omega
  · split
    · omega
    · split <;> omega
/-- a row moved is a row -/
def pmv (f t p : Nat) : Nat := if p = t then f else if t < p ∧ p ≤ f then p - 1 else if f ≤ p ∧ p < t then p + 1 else p
theorem mv_p (r : Nat → Nat) (f t p : Nat) : mv r f t p = r (pmv f t p) := by
  unfold mv pmv
  split
  · rfl
  · split
    · rfl
    · split <;> rfl
theorem pmv_lt {f t p n : Nat} (hf : f < n) (ht : t < n) (hp : p < n) : pmv f t p < n := by
  unfold pmv
  split
  · omega
  · split
    · omega
    · split <;> omega
theorem pmv_inj {f t p q : Nat} (h : pmv f t p = pmv f t q) : p = q := by
  unfold pmv at h
  split at h <;> split at h <;> (try split at h) <;> (try split at h) <;> (try split at h) <;> (try split at h) <;> omega
theorem pmv_inv {f t p : Nat} : pmv f t (pmv t f p) = p := by
  rw [show pmv t f p = (if p = f then t else if f < p ∧ p ≤ t then p - 1 else if t ≤ p ∧ p < f then p + 1 else p) from rfl]
  split
  · unfold pmv; repeat' (first | omega | split)
  · split
    · unfold pmv; repeat' (first | omega | split)
    · split
      · unfold pmv; repeat' (first | omega | split)
      · unfold pmv; repeat' (first | omega | split)
theorem pmv_fix {f t p nb : Nat} (hf : f < nb) (ht : t < nb) (hp : nb ≤ p) : pmv f t p = p := by
  unfold pmv
  split
  · omega
  · split
    · omega
    · split <;> omega
theorem ws_mv {nb f t : Nat} {x : Sh} {k c : Nat} {q : Nat → Nat} (h : WS nb x) (hn : nb ≤ 6) (hf : f < nb) (ht : t < nb) (hk : k ≤ 3) (hc : c ≤ 99999) (hq : ∀ b, b < 6 → q b ≤ 99) : WS nb ((k, c), mv x.2.1 f t, q) := by
  obtain ⟨-, h2, h3, h4, h5, -⟩ := h
  refine ⟨⟨hk, hc⟩, fun p hp => ?_, fun p hp p' hp' e => ?_, fun b hb => ?_, fun p hp hnp => ?_, hq⟩
  · show mv x.2.1 f t p < 6
    rw [mv_p]
    exact h2 _ (pmv_lt (by omega) (by omega) hp)
  · have e : mv x.2.1 f t p = mv x.2.1 f t p' := e
    rw [mv_p, mv_p] at e
    exact pmv_inj (h3 _ (pmv_lt (by omega) (by omega) hp) _ (pmv_lt (by omega) (by omega) hp') e)
  · obtain ⟨p, hp, e⟩ := h4 b hb
    refine ⟨pmv t f p, pmv_lt (by omega) (by omega) hp, ?_⟩
    show mv x.2.1 f t _ = b
    rw [mv_p, pmv_inv]
    exact e
  · show mv x.2.1 f t p = p
    rw [mv_p, pmv_fix hf ht hnp]
    exact h5 p hp hnp
theorem inc_le {q : Nat → Nat} {b c : Nat} (h : q c ≤ 99) : inc q b c ≤ 99 := by
  unfold inc
  split
  · split <;> omega
  · exact h
theorem ws_srv {nb b : Nat} {x : Sh} (h : WS nb x) (hn : nb ≤ 6) (hb : b < nb) : WS nb (srv x b) := by
  have h1 := h.plt hn hb
  have h2 := gol_le x.1.1 (inc x.2.2 b) x.2.1 b (plc x.2.1 b)
  refine ws_mv h hn h1 (by unfold goS; omega) h.1.1 (by split <;> omega) (fun c hc => inc_le (h.2.2.2.2.2 c hc))
