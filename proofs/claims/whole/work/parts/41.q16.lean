/-! QUESTIONS: the best of all rows -/
def dig (nb c p : Nat) : Nat := if p < nb then c / nb ^ (nb - 1 - p) % nb else p
def mskL (nb : Nat) : Nat → Nat → Nat → Nat
  | 0, a, _ => a
  | m + 1, a, c => mskL nb m (a ||| 2 ^ (c % nb)) (c / nb)
def isR (nb c : Nat) : Bool := Nat.beq (mskL nb nb 0 c) (2 ^ nb - 1)
def nxA (r : Nat → Nat) : Nat → Option Nat
  | 0 => none
  | i + 1 => if r i ≤ r (i + 1) then some i else nxA r i
def nxB (r : Nat → Nat) (i : Nat) : Nat → Nat
  | 0 => 0
  | j + 1 => if j + 1 ≤ i + 1 then j + 1 else if r i ≤ r (j + 1) then j + 1 else nxB r i j
def sw (r : Nat → Nat) (i j : Nat) : Nat → Nat := fun p => if p = j then r i else if p = i then r j else r p
def rvF : Nat → (Nat → Nat) → Nat → Nat → (Nat → Nat)
  | 0, r, _, _ => r
  | m + 1, r, i, j => if j ≤ i then r else rvF m (sw r i j) (i + 1) (j - 1)
def nxt (nb : Nat) (r : Nat → Nat) : Option (Nat → Nat) := match nxA r (nb - 1) with
  | none => none
  | some i => some (rvF 6 (sw r i (nxB r i (nb - 1))) (i + 1) (nb - 1))
def cod (nb : Nat) (r : Nat → Nat) : Nat → Nat
  | 0 => 0
  | p + 1 => cod nb r p * nb + r p
def al6 (f : Nat → Bool) : Bool := f 0 && f 1 && f 2 && f 3 && f 4 && f 5
def an6 (f : Nat → Bool) : Bool := f 0 || f 1 || f 2 || f 3 || f 4 || f 5
def okR (nb c : Nat) : Bool := al6 (fun p => Nat.blt (dig nb c p) 6 && al6 (fun q => Nat.beq p q || !Nat.beq (dig nb c p) (dig nb c q)) && an6 (fun q => Nat.beq (dig nb c q) p))
def chk (nb : Nat) : Nat → Nat → Option Nat → Nat → Bool
  | 0, _, cur, _ => cur.isNone
  | m + 1, c, cur, k => match isR nb c with
    | false => chk nb m (c + 1) cur k
    | true => match cur with
      | none => false
      | some x => Nat.beq x c && okR nb c && Nat.blt k 720 && match nxt nb (dig nb c) with
        | none => chk nb m (c + 1) none (k + 1)
        | some r => al6 (fun p => Nat.beq (dig nb (cod nb r nb) p) (r p)) && chk nb m (c + 1) (some (cod nb r nb)) (k + 1)
theorem chk_1 : chk 1 (1 ^ 1) 0 (some (cod 1 (fun p => p) 1)) 0 = true := by decide +kernel
theorem chk_2 : chk 2 (2 ^ 2) 0 (some (cod 2 (fun p => p) 2)) 0 = true := by decide +kernel
theorem chk_3 : chk 3 (3 ^ 3) 0 (some (cod 3 (fun p => p) 3)) 0 = true := by decide +kernel
theorem chk_4 : chk 4 (4 ^ 4) 0 (some (cod 4 (fun p => p) 4)) 0 = true := by decide +kernel
theorem chk_5 : chk 5 (5 ^ 5) 0 (some (cod 5 (fun p => p) 5)) 0 = true := by decide +kernel
theorem chk_6 : chk 6 (6 ^ 6) 0 (some (cod 6 (fun p => p) 6)) 0 = true := by decide +kernel
theorem chk_ok : ∀ nb, 1 ≤ nb → nb ≤ 6 → chk nb (nb ^ nb) 0 (some (cod nb (fun p => p) nb)) 0 = true
  | 0, h, _ => absurd h (by omega)
  | 1, _, _ => chk_1
  | 2, _, _ => chk_2
  | 3, _, _ => chk_3
  | 4, _, _ => chk_4
  | 5, _, _ => chk_5
  | 6, _, _ => chk_6
  | _ + 7, _, h => absurd h (by omega)
theorem cod_id : ∀ nb, nb < 7 → ∀ p, p < 6 → dig nb (cod nb (fun p => p) nb) p = p := by decide +kernel
