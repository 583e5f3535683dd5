/-! THE FUNCTIONS: each method of the class and of the reference as a function over tables (by program out of the decode rows) -/
def fX4_begin_L12 (N : Nat) (l0 : Nat) : Nat → Int32 → FF → Option (Unit × FF)
  | 0, _, _ => none
  | n + 1, l2, F =>
    if 6 ≤ l2 then
      some ((), F)
    else
      gR 4 2 l0 fun v1 =>
      stT 0 v1 l2 l2 F fun F1 =>
      gR 4 3 l0 fun v2 =>
      stT 0 v2 l2 0 F1 fun F2 =>
      fX4_begin_L12 N l0 n (l2 + 1) F2
def fX4_begin (N : Nat) (l0 : Nat) (l1 : Int32) (F : FF) : Option (Unit × FF) :=
  pI 4 0 l0 l1 F fun F1 =>
  pI 4 1 l0 0 F1 fun F2 =>
  fX4_begin_L12 N l0 N 0 F2
def fX0_empty (N : Nat) (l0 : Nat) (F : FF) : Option (Unit × FF) :=
  pI 0 0 l0 4 F fun F1 =>
  pI 0 1 l0 0 F1 fun F2 =>
  pI 0 2 l0 0 F2 fun F3 =>
  pI 0 3 l0 0 F3 fun F4 =>
  some ((), F4)
def fX6_within (N : Nat) (l0 : Int32) (l1 : Int32) (l2 : Int32) (F : FF) : Option (Int32 × FF) :=
  some ((if l0 < l1 then 0 else (if l2 < l0 then 0 else 1) : Int32), F)
def pX6_within (l0 : Int32) (l1 : Int32) (l2 : Int32) (F : FF) : Int32 :=
  (if l0 < l1 then 0 else (if l2 < l0 then 0 else 1) : Int32)
def fX6_feed (N : Nat) (l1 : Int32) (F : FF) : Option (Int32 × FF) :=
  if ¬ (pX6_within l1 0 127 F) = 0 then
    if (F 33 1) < 160 then
      stT 1 34 (F 33 1) l1.toInt8.toInt32.toInt8.toInt32 F fun F1 =>
      nm (fput F1 33 1 ((F1 33 1) + 1)) fun F2 =>
      some (F2 33 1, F2)
    else
      some ((-3), F)
  else
    some ((-1), F)
def fX6_end (N : Nat) (l1 : Int32) (F : FF) : Option (Int32 × FF) :=
  if ¬ (pX6_within l1 0 (F 33 1) F) = 0 then
    nm (fput F 33 1 l1) fun F1 =>
    some (F 33 1, F1)
  else
    some ((-1), F)
def fX5_isLetter (N : Nat) (l0 : Int32) (F : FF) : Option (Int32 × FF) :=
  some ((if l0 < 97 then 0 else (if 122 < l0 then 0 else 1) : Int32), F)
def pX5_isLetter (l0 : Int32) (F : FF) : Int32 :=
  (if l0 < 97 then 0 else (if 122 < l0 then 0 else 1) : Int32)
def fX5_scanName_L5 (N : Nat) : Nat → FF → Option (Unit × FF)
  | 0, _ => none
  | n + 1, F =>
    if (F 33 1) ≤ (F 33 4) then
      some ((), F)
    else
      ldT 1 34 (F 33 4) F fun v1 =>
      if (pX5_isLetter v1 F) = 0 then
        some ((), F)
      else
        nm (fput F 33 4 ((F 33 4) + 1)) fun F1 =>
        fX5_scanName_L5 N n F1
def fX5_scanName (N : Nat) (F : FF) : Option (Unit × FF) :=
  nm (fput F 33 6 0) fun F1 =>
  fX5_scanName_L5 N N F1
def fX5_isFigure (N : Nat) (l0 : Int32) (F : FF) : Option (Int32 × FF) :=
  some ((if l0 < 48 then 0 else (if 57 < l0 then 0 else 1) : Int32), F)
def pX5_isFigure (l0 : Int32) (F : FF) : Int32 :=
  (if l0 < 48 then 0 else (if 57 < l0 then 0 else 1) : Int32)
def fX5_refuse (N : Nat) (l1 : Int32) (F : FF) : Option (Int32 × FF) :=
  if ¬ (F 33 2) = 0 then
    some (0, F)
  else
    nm (fput F 33 2 l1) fun F1 =>
    nm (fput F1 33 3 (F1 33 5)) fun F2 =>
    some (0, F2)
def fX5_scanNumber_b73 (N : Nat) (F : FF) : Option (Unit × FF) :=
  if ((F 33 4) - (F 33 5)) ≤ 2 then
    some ((), F)
  else
    nm (fput F 33 6 4) fun F1 =>
    bnd (fX5_refuse N 1 F1) fun v1 F2 =>
    some ((), F2)
def fX5_scanNumber_L10 (N : Nat) : Nat → FF → Option (Unit × FF)
  | 0, _ => none
  | n + 1, F =>
    if (F 33 1) ≤ (F 33 4) then
      fX5_scanNumber_b73 N F
    else
      ldT 1 34 (F 33 4) F fun v1 =>
      if (pX5_isFigure v1 F) = 0 then
        fX5_scanNumber_b73 N F
      else
        ldT 1 34 (F 33 4) F fun v2 =>
        nm (fput F 33 7 ((((F 33 7) * 10) + v2) - 48)) fun F1 =>
        nm (fput F1 33 4 ((F1 33 4) + 1)) fun F2 =>
        fX5_scanNumber_L10 N n F2
def fX5_scanNumber (N : Nat) (F : FF) : Option (Unit × FF) :=
  nm (fput F 33 6 1) fun F1 =>
  nm (fput F1 33 7 0) fun F2 =>
  fX5_scanNumber_L10 N N F2
def fX5_scan_b38 (N : Nat) (F : FF) : Option (Unit × FF) :=
  nm (fput F 33 5 (F 33 4)) fun F1 =>
  if (F1 33 4) < (F1 33 1) then
    ldT 1 34 (F1 33 4) F1 fun v1 =>
    if ¬ v1 = 59 then
      ldT 1 34 (F1 33 4) F1 fun v2 =>
      if (pX5_isLetter v2 F1) = 0 then
        ldT 1 34 (F1 33 4) F1 fun v3 =>
        if (pX5_isFigure v3 F1) = 0 then
          nm (fput F1 33 6 4) fun F2 =>
          bnd (fX5_refuse N 1 F2) fun v4 F3 =>
          some ((), F3)
        else
          bnd (fX5_scanNumber N F1) fun _ F4 =>
          some ((), F4)
      else
        bnd (fX5_scanName N F1) fun _ F5 =>
        some ((), F5)
    else
      nm (fput F1 33 4 ((F1 33 4) + 1)) fun F6 =>
      nm (fput F6 33 6 2) fun F7 =>
      some ((), F7)
  else
    nm (fput F1 33 6 3) fun F8 =>
    some ((), F8)
def fX5_scan_L0 (N : Nat) : Nat → FF → Option (Unit × FF)
  | 0, _ => none
  | n + 1, F =>
    if (F 33 1) ≤ (F 33 4) then
      fX5_scan_b38 N F
    else
      ldT 1 34 (F 33 4) F fun v1 =>
      if ¬ v1 = 32 then
        fX5_scan_b38 N F
      else
        nm (fput F 33 4 ((F 33 4) + 1)) fun F1 =>
        fX5_scan_L0 N n F1
def fX5_scan (N : Nat) (F : FF) : Option (Unit × FF) := fX5_scan_L0 N N F
def fX5_isNamed_L20 (N : Nat) (l1 : UInt32) : Nat → Int32 → FF → Option (Int32 × FF)
  | 0, _, _ => none
  | n + 1, l2, F =>
    sLen l1 fun v1 =>
    if v1 ≤ l2 then
      some (1, F)
    else
      ldT 1 34 ((F 33 5) + l2) F fun v2 =>
      sAt l1 l2 fun v3 =>
      if v2 = v3 then
        fX5_isNamed_L20 N l1 n (l2 + 1) F
      else
        some (0, F)
def fX5_isNamed (N : Nat) (l1 : UInt32) (F : FF) : Option (Int32 × FF) :=
  sLen l1 fun v1 =>
  if ((F 33 4) - (F 33 5)) = v1 then
    fX5_isNamed_L20 N l1 N 0 F
  else
    some (0, F)
def fX5_takeSemicolon (N : Nat) (F : FF) : Option (Int32 × FF) :=
  bnd (fX5_scan N F) fun _ F1 =>
  if (F1 33 6) = 2 then
    some (1, F1)
  else
    bnd (fX5_refuse N 2 F1) fun v1 F2 =>
    some ((if v1 = 0 then 0 else 1 : Int32), F2)
def fX5_takeBooks_b53 (N : Nat) (F : FF) : Option (Int32 × FF) :=
  bnd (fX5_refuse N 3 F) fun v1 F1 =>
  zr v1 F1
def fX5_takeBooks (N : Nat) (F : FF) : Option (Int32 × FF) :=
  if (F 33 8) = 0 then
    nm (fput F 33 8 1) fun F1 =>
    bnd (fX5_scan N F1) fun _ F2 =>
    if (F2 33 6) = 1 then
      if (F2 33 7) < 1 then
        fX5_takeBooks_b53 N F2
      else
        if (F2 33 7) ≤ 6 then
          nm (fput F2 16 0 (F2 33 7)) fun F3 =>
          bnd (fX5_takeSemicolon N F3) fun v1 F4 =>
          zr v1 F4
        else
          fX5_takeBooks_b53 N F2
    else
      bnd (fX5_refuse N 2 F2) fun v2 F5 =>
      zr v2 F5
  else
    bnd (fX5_refuse N 4 F) fun v3 F6 =>
    zr v3 F6
def fX0_addWant (N : Nat) (l0 : Nat) (l1 : Int32) (F : FF) : Option (Int32 × FF) :=
  gI 0 2 l0 F fun v1 =>
  if v1 < 16 then
    gR 0 5 l0 fun v2 =>
    gI 0 2 l0 F fun v3 =>
    stT 0 v2 v3 l1 F fun F1 =>
    gI 0 2 l0 F1 fun v4 =>
    pI 0 2 l0 (v4 + 1) F1 fun F2 =>
    some (1, F2)
  else
    some (0, F)
def fX5_takeWants_L2 (N : Nat) : Nat → Int32 → FF → Option (Int32 × FF)
  | 0, _, _ => none
  | n + 1, l2, F =>
    if 16 < l2 then
      some (0, F)
    else
      bnd (fX5_scan N F) fun _ F1 =>
      if ¬ (F1 33 6) = 2 then
        if (F1 33 6) = 1 then
          if (F1 16 2) < 16 then
            if (F1 33 7) < 6 then
              bnd (fX0_addWant N 16 (F1 33 7) F1) fun v1 F2 =>
              fX5_takeWants_L2 N n (l2 + 1) F2
            else
              bnd (fX5_refuse N 3 F1) fun v2 F3 =>
              zr v2 F3
          else
            bnd (fX5_refuse N 5 F1) fun v3 F4 =>
            zr v3 F4
        else
          bnd (fX5_refuse N 2 F1) fun v4 F5 =>
          zr v4 F5
      else
        some (1, F1)
def fX5_takeWants (N : Nat) (F : FF) : Option (Int32 × FF) :=
  fX5_takeWants_L2 N N 0 F
def fX5_kindNamed (N : Nat) (F : FF) : Option (Int32 × FF) :=
  bnd (fX5_isNamed N 2 F) fun v1 F1 =>
  if v1 = 0 then
    bnd (fX5_isNamed N 3 F1) fun v2 F2 =>
    if v2 = 0 then
      bnd (fX5_isNamed N 4 F2) fun v3 F3 =>
      if v3 = 0 then
        bnd (fX5_isNamed N 5 F3) fun v4 F4 =>
        some ((if v4 = 0 then ((-1)) else 3 : Int32), F4)
      else
        some (2, F3)
    else
      some (1, F2)
  else
    some (0, F1)
def fX0_addShelf (N : Nat) (l0 : Nat) (l1 : Int32) (F : FF) : Option (Int32 × FF) :=
  gI 0 1 l0 F fun v1 =>
  if v1 < 4 then
    gR 0 4 l0 fun v2 =>
    gI 0 1 l0 F fun v3 =>
    ldR 5 v2 v3 fun v4 =>
    cal 4 v4 (fX4_begin N v4 l1 F) fun _ F1 =>
    gI 0 1 l0 F1 fun v5 =>
    pI 0 1 l0 (v5 + 1) F1 fun F2 =>
    some (1, F2)
  else
    some (0, F)
def fX5_takeShelf (N : Nat) (l2 : Int32) (F : FF) : Option (Int32 × FF) :=
  bnd (fX0_addShelf N 16 l2 F) fun v1 F1 =>
  if ¬ v1 = 0 then
    bnd (fX5_takeSemicolon N F1) fun v2 F2 =>
    zr v2 F2
  else
    bnd (fX5_refuse N 5 F1) fun v3 F3 =>
    zr v3 F3
def fX5_takeLine (N : Nat) (F : FF) : Option (Int32 × FF) :=
  bnd (fX5_scan N F) fun _ F1 =>
  if ¬ (F1 33 6) = 3 then
    if (F1 33 6) = 0 then
      bnd (fX5_isNamed N 0 F1) fun v1 F2 =>
      if v1 = 0 then
        bnd (fX5_isNamed N 1 F2) fun v2 F3 =>
        if v2 = 0 then
          bnd (fX5_kindNamed N F3) fun v3 F4 =>
          if ¬ v3 = ((-1)) then
            bnd (fX5_takeShelf N v3 F4) fun v4 F5 =>
            zr v4 F5
          else
            bnd (fX5_refuse N 2 F4) fun v5 F6 =>
            zr v5 F6
        else
          bnd (fX5_takeWants N F3) fun v6 F7 =>
          zr v6 F7
      else
        bnd (fX5_takeBooks N F2) fun v7 F8 =>
        zr v7 F8
    else
      bnd (fX5_refuse N 2 F1) fun v8 F9 =>
      zr v8 F9
  else
    some (0, F1)
def fX0_hasBook (N : Nat) (l0 : Nat) (l1 : Int32) (F : FF) : Option (Int32 × FF) :=
  if l1 < 0 then
    some (0, F)
  else
    gI 0 0 l0 F fun v1 =>
    some ((if v1 ≤ l1 then 0 else 1 : Int32), F)
def pX0_hasBook (l0 : Nat) (l1 : Int32) (F : FF) : Int32 :=
  if l1 < 0 then 0 else ((if (F l0 0) ≤ l1 then 0 else 1 : Int32))
def fX0_wantsNoSuchBook_L2 (N : Nat) (l0 : Nat) : Nat → Int32 → FF → Option (Int32 × FF)
  | 0, _, _ => none
  | n + 1, l1, F =>
    gI 0 2 l0 F fun v1 =>
    if v1 ≤ l1 then
      some (0, F)
    else
      gR 0 5 l0 fun v2 =>
      ldT 0 v2 l1 F fun v3 =>
      okc 0 l0 <|
      if ¬ (pX0_hasBook l0 v3 F) = 0 then
        fX0_wantsNoSuchBook_L2 N l0 n (l1 + 1) F
      else
        some (1, F)
def fX0_wantsNoSuchBook (N : Nat) (l0 : Nat) (F : FF) : Option (Int32 × FF) :=
  fX0_wantsNoSuchBook_L2 N l0 N 0 F
def fX5_tellTo_b48 (N : Nat) (l2 : Int32) (F : FF) : Option (Int32 × FF) :=
  bnd (fX0_wantsNoSuchBook N 16 F) fun v1 F1 =>
  if v1 = 0 then
    some (l2, F1)
  else
    bnd (fX5_refuse N 6 F1) fun v2 F2 =>
    some (l2, F2)
def fX5_tellTo_L26 (N : Nat) : Nat → Int32 → FF → Option (Int32 × FF)
  | 0, _, _ => none
  | n + 1, l2, F =>
    if (F 33 1) < l2 then
      fX5_tellTo_b48 N l2 F
    else
      bnd (fX5_takeLine N F) fun v1 F1 =>
      if v1 = 0 then
        fX5_tellTo_b48 N l2 F1
      else
        fX5_tellTo_L26 N n (l2 + 1) F1
def fX5_tellTo (N : Nat) (F : FF) : Option (Int32 × FF) :=
  bnd (fX0_empty N 16 F) fun _ F1 =>
  nm (fput F1 33 4 0) fun F2 =>
  nm (fput F2 33 2 0) fun F3 =>
  nm (fput F3 33 3 0) fun F4 =>
  nm (fput F4 33 8 0) fun F5 =>
  fX5_tellTo_L26 N N 0 F5
def fX4_copy (N : Nat) (l0 : Nat) (l1 : Nat) (F : FF) : Option (Unit × FF) :=
  gI 4 0 l1 F fun v1 =>
  pI 4 0 l0 v1 F fun F1 =>
  gI 4 1 l1 F1 fun v2 =>
  pI 4 1 l0 v2 F1 fun F2 =>
  gR 4 2 l1 fun v3 =>
  gR 4 2 l0 fun v4 =>
  cpI v3 v4 6 F2 fun F3 =>
  gR 4 3 l1 fun v5 =>
  gR 4 3 l0 fun v6 =>
  cpI v5 v6 6 F3 fun F4 =>
  some ((), F4)
def fX0_copy_L34 (N : Nat) (l0 : Nat) (l1 : Nat) : Nat → Int32 → FF → Option (Unit × FF)
  | 0, _, _ => none
  | n + 1, l2, F =>
    gI 0 1 l0 F fun v1 =>
    if v1 ≤ l2 then
      gR 0 5 l1 fun v2 =>
      gR 0 5 l0 fun v3 =>
      cpI v2 v3 16 F fun F1 =>
      some ((), F1)
    else
      gR 0 4 l0 fun v4 =>
      ldR 5 v4 l2 fun v5 =>
      gR 0 4 l1 fun v6 =>
      ldR 5 v6 l2 fun v7 =>
      cal 4 v5 (fX4_copy N v5 v7 F) fun _ F2 =>
      fX0_copy_L34 N l0 l1 n (l2 + 1) F2
def fX0_copy (N : Nat) (l0 : Nat) (l1 : Nat) (F : FF) : Option (Unit × FF) :=
  gI 0 0 l1 F fun v1 =>
  pI 0 0 l0 v1 F fun F1 =>
  gI 0 1 l1 F1 fun v2 =>
  pI 0 1 l0 v2 F1 fun F2 =>
  gI 0 2 l1 F2 fun v3 =>
  pI 0 2 l0 v3 F2 fun F3 =>
  gI 0 3 l1 F3 fun v4 =>
  pI 0 3 l0 v4 F3 fun F4 =>
  fX0_copy_L34 N l0 l1 N 0 F4
def fX6_text_L62 (N : Nat) (l1 : Int32) : Nat → Int32 → FF → Option (Int32 × FF)
  | 0, _, _ => none
  | n + 1, l2, F =>
    if 2 ≤ l2 then
      some (l1, F)
    else
      stZ 32 l2 0 F fun F1 =>
      fX6_text_L62 N l1 n (l2 + 1) F1
def fX6_text (N : Nat) (F : FF) : Option (Int32 × FF) :=
  bnd (fX5_tellTo N F) fun v1 F1 =>
  nm (fput F1 33 1 0) fun F2 =>
  if (F2 33 2) = 0 then
    bnd (fX0_copy N 1 16 F2) fun _ F3 =>
    nm (fput F3 35 0 0) fun F4 =>
    fX6_text_L62 N v1 N 0 F4
  else
    some (((-10)) - (F2 33 3), F2)
def fX6_fault (N : Nat) (F : FF) : Option (Int32 × FF) :=
  some (F 33 2, F)
def pX6_fault (F : FF) : Int32 :=
  F 33 2
def fX0_turn (N : Nat) (l0 : Nat) (l1 : Int32) (F : FF) : Option (Int32 × FF) :=
  gI 0 2 l0 F fun v1 =>
  if v1 ≤ 0 then
    some ((-4), F)
  else
    gI 0 3 l0 F fun v2 =>
    gI 0 2 l0 F fun v3 =>
    dv v3 <|
    some (irem (v2 + l1) v3, F)
def fX1_reset (N : Nat) (l1 : Int32) (F : FF) : Option (Unit × FF) :=
  nm (fput F 40 0 ((-4))) fun F1 =>
  nm (fput F1 40 1 l1) fun F2 =>
  some ((), F2)
def fX1_offer (N : Nat) (l1 : Int32) (l2 : Int32) (F : FF) : Option (Unit × FF) :=
  if (F 40 1) ≤ l2 then
    some ((), F)
  else
    nm (fput F 40 0 l1) fun F1 =>
    nm (fput F1 40 1 l2) fun F2 =>
    some ((), F2)
def fX6_leastCost_L11 (N : Nat) : Nat → Int32 → FF → Option (Int32 × FF)
  | 0, _, _ => none
  | n + 1, l1, F =>
    if (F 1 1) ≤ l1 then
      some (F 40 0, F)
    else
      ldR 5 2 l1 fun v1 =>
      gI 4 1 v1 F fun v2 =>
      bnd (fX1_offer N l1 v2 F) fun _ F1 =>
      fX6_leastCost_L11 N n (l1 + 1) F1
def fX6_leastCost (N : Nat) (F : FF) : Option (Int32 × FF) :=
  bnd (fX1_reset N 1000000000 F) fun _ F1 =>
  fX6_leastCost_L11 N N 0 F1
def fX6_rule (N : Nat) (l1 : Int32) (F : FF) : Option (Int32 × FF) :=
  if l1 = 0 then
    some (F 1 0, F)
  else
  if l1 = 1 then
    some (F 1 1, F)
  else
  if l1 = 2 then
    some (F 1 2, F)
  else
  if l1 = 3 then
    some (F 1 3, F)
  else
  if l1 = 4 then
    bnd (fX0_turn N 1 0 F) fun v1 F1 =>
    some (v1, F1)
  else
  if l1 = 5 then
    bnd (fX6_leastCost N F) fun v2 F2 =>
    some (v2, F2)
  else
    some ((-1), F)
def fX0_hasShelf (N : Nat) (l0 : Nat) (l1 : Int32) (F : FF) : Option (Int32 × FF) :=
  if l1 < 0 then
    some (0, F)
  else
    gI 0 1 l0 F fun v1 =>
    some ((if v1 ≤ l1 then 0 else 1 : Int32), F)
def pX0_hasShelf (l0 : Nat) (l1 : Int32) (F : FF) : Int32 :=
  if l1 < 0 then 0 else ((if (F l0 1) ≤ l1 then 0 else 1 : Int32))
def fX6_shelf (N : Nat) (l1 : Int32) (l2 : Int32) (F : FF) : Option (Int32 × FF) :=
  if ¬ (pX0_hasShelf 1 l1 F) = 0 then
    ldR 5 2 l1 fun v1 =>
    if ¬ l2 = 0 then
      if ¬ l2 = 1 then
        if (pX6_within l2 10 ((10 + (F 1 0)) - 1) F) = 0 then
          if (pX6_within l2 20 ((20 + (F 1 0)) - 1) F) = 0 then
            some ((-1), F)
          else
            gR 4 3 v1 fun v2 =>
            ldT 0 v2 (l2 - 20) F fun v3 =>
            some (v3, F)
        else
          gR 4 2 v1 fun v4 =>
          ldT 0 v4 (l2 - 10) F fun v5 =>
          some (v5, F)
      else
        gI 4 1 v1 F fun v6 =>
        some (v6, F)
    else
      gI 4 0 v1 F fun v7 =>
      some (v7, F)
  else
    some ((-1), F)
def fX4_find_L2 (N : Nat) (l0 : Nat) (l1 : Int32) : Nat → Int32 → FF → Option (Int32 × FF)
  | 0, _, _ => none
  | n + 1, l2, F =>
    if 5 ≤ l2 then
      some (l2, F)
    else
      gR 4 2 l0 fun v1 =>
      ldT 0 v1 l2 F fun v2 =>
      if v2 = l1 then
        some (l2, F)
      else
        fX4_find_L2 N l0 l1 n (l2 + 1) F
def fX4_find (N : Nat) (l0 : Nat) (l1 : Int32) (F : FF) : Option (Int32 × FF) :=
  fX4_find_L2 N l0 l1 N 0 F
def fX6_place (N : Nat) (l1 : Int32) (l2 : Int32) (F : FF) : Option (Int32 × FF) :=
  if (pX0_hasShelf 1 l1 F) = 0 then
    some ((-1), F)
  else
    if (pX0_hasBook 1 l2 F) = 0 then
      some ((-1), F)
    else
      ldR 5 2 l1 fun v1 =>
      cal 4 v1 (fX4_find N v1 l2 F) fun v2 F1 =>
      some (v2, F1)
def fX0_hasWant (N : Nat) (l0 : Nat) (l1 : Int32) (F : FF) : Option (Int32 × FF) :=
  if l1 < 0 then
    some (0, F)
  else
    gI 0 2 l0 F fun v1 =>
    some ((if v1 ≤ l1 then 0 else 1 : Int32), F)
def pX0_hasWant (l0 : Nat) (l1 : Int32) (F : FF) : Int32 :=
  if l1 < 0 then 0 else ((if (F l0 2) ≤ l1 then 0 else 1 : Int32))
def fX6_want (N : Nat) (l1 : Int32) (F : FF) : Option (Int32 × FF) :=
  if (pX0_hasWant 1 l1 F) = 0 then
    some ((-1), F)
  else
    ldT 0 3 l1 F fun v1 =>
    some (v1, F)
def fX6_alter (N : Nat) (l1 : Int32) (l2 : Int32) (F : FF) : Option (Int32 × FF) :=
  if (pX0_hasShelf 1 l1 F) = 0 then
    some ((-1), F)
  else
    if ¬ (pX6_within l2 0 3 F) = 0 then
      ldR 5 2 l1 fun v1 =>
      gI 4 0 v1 F fun v2 =>
      ldR 5 2 l1 fun v3 =>
      pI 4 0 v3 l2 F fun F1 =>
      some (v2, F1)
    else
      some ((-1), F)
def fX6_put (N : Nat) (l1 : Int32) (F : FF) : Option (Int32 × FF) :=
  if ¬ (pX6_within l1 0 3 F) = 0 then
    bnd (fX0_addShelf N 1 l1 F) fun v1 F1 =>
    some ((if v1 = 0 then ((-3)) else (F1 1 1) : Int32), F1)
  else
    some ((-1), F)
def fX6_cut (N : Nat) (l1 : Int32) (F : FF) : Option (Int32 × FF) :=
  if ¬ (pX6_within l1 0 (F 1 1) F) = 0 then
    nm (fput F 1 1 l1) fun F1 =>
    some (F 1 1, F1)
  else
    some ((-1), F)
def fX4_shift_L41 (N : Nat) (l0 : Nat) (l2 : Int32) (l3 : Int32) : Nat → Int32 → FF → Option (Unit × FF)
  | 0, _, _ => none
  | n + 1, l4, F =>
    if l2 ≤ l4 then
      gR 4 2 l0 fun v1 =>
      stT 0 v1 l2 l3 F fun F1 =>
      some ((), F1)
    else
      gR 4 2 l0 fun v2 =>
      gR 4 2 l0 fun v3 =>
      ldT 0 v3 (l4 + 1) F fun v4 =>
      stT 0 v2 l4 v4 F fun F2 =>
      fX4_shift_L41 N l0 l2 l3 n (l4 + 1) F2
def fX4_shift_L10 (N : Nat) (l0 : Nat) (l1 : Int32) (l2 : Int32) (l3 : Int32) : Nat → Int32 → FF → Option (Unit × FF)
  | 0, _, _ => none
  | n + 1, l4, F =>
    if l4 ≤ l2 then
      fX4_shift_L41 N l0 l2 l3 N l1 F
    else
      gR 4 2 l0 fun v1 =>
      gR 4 2 l0 fun v2 =>
      ldT 0 v2 (l4 - 1) F fun v3 =>
      stT 0 v1 l4 v3 F fun F1 =>
      fX4_shift_L10 N l0 l1 l2 l3 n (l4 + ((-1))) F1
def fX4_shift (N : Nat) (l0 : Nat) (l1 : Int32) (l2 : Int32) (F : FF) : Option (Unit × FF) :=
  gR 4 2 l0 fun v1 =>
  ldT 0 v1 l1 F fun v2 =>
  fX4_shift_L10 N l0 l1 l2 v2 N l1 F
def fX6_stand (N : Nat) (l1 : Int32) (l2 : Int32) (l3 : Int32) (F : FF) : Option (Int32 × FF) :=
  if (pX0_hasShelf 1 l1 F) = 0 then
    some ((-1), F)
  else
    if (pX0_hasBook 1 l2 F) = 0 then
      some ((-1), F)
    else
      if ¬ (pX0_hasBook 1 l3 F) = 0 then
        ldR 5 2 l1 fun v1 =>
        cal 4 v1 (fX4_find N v1 l2 F) fun v2 F1 =>
        ldR 5 2 l1 fun v3 =>
        cal 4 v3 (fX4_shift N v3 v2 l3 F1) fun _ F2 =>
        some (v2, F2)
      else
        some ((-1), F)
def fX6_set (N : Nat) (l1 : Int32) (l2 : Int32) (F : FF) : Option (Int32 × FF) :=
  if (pX0_hasWant 1 l1 F) = 0 then
    some ((-1), F)
  else
    if ¬ (pX0_hasBook 1 l2 F) = 0 then
      ldT 0 3 l1 F fun v1 =>
      stT 0 3 l1 l2 F fun F1 =>
      some (v1, F1)
    else
      some ((-1), F)
def fX6_add (N : Nat) (l1 : Int32) (F : FF) : Option (Int32 × FF) :=
  if ¬ (pX0_hasBook 1 l1 F) = 0 then
    bnd (fX0_addWant N 1 l1 F) fun v1 F1 =>
    some ((if v1 = 0 then ((-3)) else (F1 1 2) : Int32), F1)
  else
    some ((-1), F)
def fX6_drop (N : Nat) (l1 : Int32) (F : FF) : Option (Int32 × FF) :=
  if ¬ (pX6_within l1 0 (F 1 2) F) = 0 then
    nm (fput F 1 2 l1) fun F1 =>
    some (F 1 2, F1)
  else
    some ((-1), F)
def fX4_payFor (N : Nat) (l0 : Nat) (l1 : Int32) (F : FF) : Option (Int32 × FF) :=
  gI 4 0 l0 F fun v1 =>
  some ((if ¬ v1 = 2 then (l1 + 1) else (if l1 = 0 then (l1 + 1) else (l1 + 2)) : Int32), F)
def pX4_payFor (l0 : Nat) (l1 : Int32) (F : FF) : Int32 :=
  (if ¬ (F l0 0) = 2 then (l1 + 1) else (if l1 = 0 then (l1 + 1) else (l1 + 2)) : Int32)
def fX4_goalOf_L33 (N : Nat) (l0 : Nat) (l1 : Int32) (l2 : Int32) : Nat → Int32 → FF → Option (Int32 × FF)
  | 0, _, _ => none
  | n + 1, l3, F =>
    gI 4 0 l0 F fun v1 =>
    if ¬ v1 = 3 then
      some (l3, F)
    else
      if l2 ≤ l3 then
        some (l3, F)
      else
        gR 4 3 l0 fun v2 =>
        gR 4 2 l0 fun v3 =>
        ldT 0 v3 l3 F fun v4 =>
        ldT 0 v2 v4 F fun v5 =>
        gR 4 3 l0 fun v6 =>
        ldT 0 v6 l1 F fun v7 =>
        if v5 < v7 then
          some (l3, F)
        else
          fX4_goalOf_L33 N l0 l1 l2 n (l3 + 1) F
def fX4_goalOf (N : Nat) (l0 : Nat) (l1 : Int32) (l2 : Int32) (F : FF) : Option (Int32 × FF) :=
  gI 4 0 l0 F fun v1 =>
  if ¬ v1 = 1 then
    gI 4 0 l0 F fun v2 =>
    fX4_goalOf_L33 N l0 l1 l2 N ((if ¬ v2 = 0 then 0 else l2 : Int32)) F
  else
    some ((if l2 ≤ 0 then 0 else (l2 - 1) : Int32), F)
def fX4_serve (N : Nat) (l0 : Nat) (l1 : Int32) (F : FF) : Option (Int32 × FF) :=
  cal 4 l0 (fX4_find N l0 l1 F) fun v1 F1 =>
  okc 4 l0 <|
  gI 4 1 l0 F1 fun v2 =>
  pI 4 1 l0 (mmin 99999 (v2 + (pX4_payFor l0 v1 F1))) F1 fun F2 =>
  gR 4 3 l0 fun v3 =>
  gR 4 3 l0 fun v4 =>
  ldT 0 v4 l1 F2 fun v5 =>
  stT 0 v3 l1 (mmin 99 (v5 + 1)) F2 fun F3 =>
  cal 4 l0 (fX4_goalOf N l0 l1 v1 F3) fun v6 F4 =>
  cal 4 l0 (fX4_shift N l0 v1 v6 F4) fun _ F5 =>
  some (pX4_payFor l0 v1 F1, F5)
def fX0_serveAll_L4 (N : Nat) (l0 : Nat) (l1 : Int32) : Nat → Int32 → Int32 → FF → Option (Int32 × FF)
  | 0, _, _, _ => none
  | n + 1, l2, l3, F =>
    gI 0 1 l0 F fun v1 =>
    if v1 ≤ l3 then
      some (l2, F)
    else
      gR 0 4 l0 fun v2 =>
      ldR 5 v2 l3 fun v3 =>
      cal 4 v3 (fX4_serve N v3 l1 F) fun v4 F1 =>
      fX0_serveAll_L4 N l0 l1 n (l2 + v4) (l3 + 1) F1
def fX0_serveAll (N : Nat) (l0 : Nat) (l1 : Int32) (F : FF) : Option (Int32 × FF) :=
  fX0_serveAll_L4 N l0 l1 N 0 0 F
def fX6_take (N : Nat) (l1 : Int32) (F : FF) : Option (Int32 × FF) :=
  if (pX0_hasBook 1 l1 F) = 0 then
    some ((-1), F)
  else
    bnd (fX0_serveAll N 1 l1 F) fun v1 F1 =>
    some (v1, F1)
def fX0_stepOn (N : Nat) (l0 : Nat) (F : FF) : Option (Int32 × FF) :=
  cal 0 l0 (fX0_turn N l0 0 F) fun v1 F1 =>
  gI 0 3 l0 F1 fun v2 =>
  pI 0 3 l0 (v2 + 1) F1 fun F2 =>
  if v1 < 0 then
    some (0, F2)
  else
    gR 0 5 l0 fun v3 =>
    ldT 0 v3 v1 F2 fun v4 =>
    if 0 ≤ v4 then
      gR 0 5 l0 fun v5 =>
      ldT 0 v5 v1 F2 fun v6 =>
      cal 0 l0 (fX0_serveAll N l0 v6 F2) fun v7 F3 =>
      some (v7, F3)
    else
      some (0, F2)
def fX6_steps_L34 (N : Nat) (l1 : Int32) : Nat → Int32 → Int32 → FF → Option (Int32 × FF)
  | 0, _, _, _ => none
  | n + 1, l2, l3, F =>
    if l1 ≤ l3 then
      some (l2, F)
    else
      bnd (fX0_stepOn N 1 F) fun v1 F1 =>
      fX6_steps_L34 N l1 n (l2 + v1) (l3 + 1) F1
def fX6_steps (N : Nat) (l1 : Int32) (F : FF) : Option (Int32 × FF) :=
  if ¬ (pX6_within l1 0 100 F) = 0 then
    if ((F 1 3) + l1) < 10000 then
      fX6_steps_L34 N l1 N 0 0 F
    else
      some ((-3), F)
  else
    some ((-1), F)
def fX0_serveTurn (N : Nat) (l0 : Nat) (l1 : Int32) (l2 : Int32) (F : FF) : Option (Int32 × FF) :=
  cal 0 l0 (fX0_turn N l0 l2 F) fun v1 F1 =>
  if v1 < 0 then
    some (0, F1)
  else
    gR 0 5 l0 fun v2 =>
    ldT 0 v2 v1 F1 fun v3 =>
    if 0 ≤ v3 then
      gR 0 4 l0 fun v4 =>
      ldR 5 v4 l1 fun v5 =>
      gR 0 5 l0 fun v6 =>
      ldT 0 v6 v1 F1 fun v7 =>
      cal 4 v5 (fX4_serve N v5 v7 F1) fun v8 F2 =>
      some (v8, F2)
    else
      some (0, F1)
def fX0_paidBy_L6 (N : Nat) (l0 : Nat) (l1 : Int32) (l2 : Int32) (l3 : Int32) : Nat → Int32 → Int32 → FF → Option (Int32 × FF)
  | 0, _, _, _ => none
  | n + 1, l4, l5, F =>
    if l2 ≤ l5 then
      some (l4, F)
    else
      if l3 ≤ l4 then
        some (l4, F)
      else
        cal 0 l0 (fX0_serveTurn N l0 l1 l5 F) fun v1 F1 =>
        fX0_paidBy_L6 N l0 l1 l2 l3 n (l4 + v1) (l5 + 1) F1
def fX0_paidBy (N : Nat) (l0 : Nat) (l1 : Int32) (l2 : Int32) (l3 : Int32) (F : FF) : Option (Int32 × FF) :=
  fX0_paidBy_L6 N l0 l1 l2 l3 N 0 0 F
def fX0_paidByAll_L5 (N : Nat) (l0 : Nat) (l1 : Int32) (l2 : Int32) : Nat → Int32 → Int32 → FF → Option (Int32 × FF)
  | 0, _, _, _ => none
  | n + 1, l3, l4, F =>
    gI 0 1 l0 F fun v1 =>
    if v1 ≤ l4 then
      some (l3, F)
    else
      if l2 ≤ l3 then
        some (l3, F)
      else
        cal 0 l0 (fX0_paidBy N l0 l4 l1 (l2 - l3) F) fun v2 F1 =>
        fX0_paidByAll_L5 N l0 l1 l2 n (l3 + v2) (l4 + 1) F1
def fX0_paidByAll (N : Nat) (l0 : Nat) (l1 : Int32) (l2 : Int32) (F : FF) : Option (Int32 × FF) :=
  fX0_paidByAll_L5 N l0 l1 l2 N 0 0 F
def fX6_cheapestIn_L11 (N : Nat) (l1 : Int32) : Nat → Int32 → FF → Option (Int32 × FF)
  | 0, _, _ => none
  | n + 1, l2, F =>
    if (F 16 1) ≤ l2 then
      some (F 40 0, F)
    else
      bnd (fX0_paidBy N 16 l2 l1 1000000000 F) fun v1 F1 =>
      bnd (fX1_offer N l2 v1 F1) fun _ F2 =>
      fX6_cheapestIn_L11 N l1 n (l2 + 1) F2
def fX6_cheapestIn (N : Nat) (l1 : Int32) (F : FF) : Option (Int32 × FF) :=
  bnd (fX1_reset N 1000000000 F) fun _ F1 =>
  fX6_cheapestIn_L11 N l1 N 0 F1
def fX0_dearestPay_L15 (N : Nat) (k4 : Int32 → Int32 → FF → Option (Int32 × FF)) (l0 : Nat) (l1 : Int32) (l3 : Int32) : Nat → Int32 → Int32 → FF → Option (Int32 × FF)
  | 0, _, _, _ => none
  | n + 1, l2, l4, F =>
    if l1 ≤ l4 then
      k4 l2 (l3 + 1) F
    else
      cal 0 l0 (fX0_serveTurn N l0 l3 l4 F) fun v1 F1 =>
      fX0_dearestPay_L15 N k4 l0 l1 l3 n (mmax l2 v1) (l4 + 1) F1
def fX0_dearestPay_L4 (N : Nat) (l0 : Nat) (l1 : Int32) : Nat → Int32 → Int32 → FF → Option (Int32 × FF)
  | 0, _, _, _ => none
  | n + 1, l2, l3, F =>
    gI 0 1 l0 F fun v1 =>
    if v1 ≤ l3 then
      some (l2, F)
    else
      fX0_dearestPay_L15 N (fun x2 x3 F => fX0_dearestPay_L4 N l0 l1 n x2 x3 F) l0 l1 l3 N l2 0 F
def fX0_dearestPay (N : Nat) (l0 : Nat) (l1 : Int32) (F : FF) : Option (Int32 × FF) :=
  fX0_dearestPay_L4 N l0 l1 N 0 0 F
def fX0_movesIn_b96 (N : Nat) (k4 : Int32 → Int32 → FF → Option (Int32 × FF)) (l0 : Nat) (l1 : Int32) (l2 : Int32) (l3 : Int32) (F : FF) : Option (Int32 × FF) :=
  k4 l2 (l3 + 1) F
def fX0_movesIn_L15 (N : Nat) (k4 : Int32 → Int32 → FF → Option (Int32 × FF)) (l0 : Nat) (l1 : Int32) (l3 : Int32) : Nat → Int32 → Int32 → FF → Option (Int32 × FF)
  | 0, _, _, _ => none
  | n + 1, l2, l4, F =>
    if l1 ≤ l4 then
      fX0_movesIn_b96 N k4 l0 l1 l2 l3 F
    else
      gI 0 2 l0 F fun v1 =>
      if v1 ≤ 0 then
        fX0_movesIn_b96 N k4 l0 l1 l2 l3 F
      else
        gR 0 5 l0 fun v2 =>
        cal 0 l0 (fX0_turn N l0 l4 F) fun v3 F1 =>
        ldT 0 v2 v3 F1 fun v4 =>
        gR 0 4 l0 fun v5 =>
        ldR 5 v5 l3 fun v6 =>
        cal 4 v6 (fX4_find N v6 v4 F1) fun v7 F2 =>
        gR 0 4 l0 fun v8 =>
        ldR 5 v8 l3 fun v9 =>
        cal 4 v9 (fX4_serve N v9 v4 F2) fun v10 F3 =>
        gR 0 4 l0 fun v11 =>
        ldR 5 v11 l3 fun v12 =>
        cal 4 v12 (fX4_find N v12 v4 F3) fun v13 F4 =>
        fX0_movesIn_L15 N k4 l0 l1 l3 n (l2 + ((if ¬ v13 = v7 then 1 else 0 : Int32))) (l4 + 1) F4
def fX0_movesIn_L4 (N : Nat) (l0 : Nat) (l1 : Int32) : Nat → Int32 → Int32 → FF → Option (Int32 × FF)
  | 0, _, _, _ => none
  | n + 1, l2, l3, F =>
    gI 0 1 l0 F fun v1 =>
    if v1 ≤ l3 then
      some (l2, F)
    else
      fX0_movesIn_L15 N (fun x2 x3 F => fX0_movesIn_L4 N l0 l1 n x2 x3 F) l0 l1 l3 N l2 0 F
def fX0_movesIn (N : Nat) (l0 : Nat) (l1 : Int32) (F : FF) : Option (Int32 × FF) :=
  fX0_movesIn_L4 N l0 l1 N 0 0 F
def fX6_runs (N : Nat) (l1 : Int32) (l2 : Int32) (F : FF) : Option (Int32 × FF) :=
  if ¬ (pX6_within l1 0 200 F) = 0 then
    bnd (fX0_copy N 16 1 F) fun _ F1 =>
    if l2 = 0 then
      bnd (fX0_paidByAll N 16 l1 1000000000 F1) fun v1 F2 =>
      some (v1, F2)
    else
    if l2 = 1 then
      bnd (fX6_cheapestIn N l1 F1) fun v2 F3 =>
      some (v2, F3)
    else
    if l2 = 2 then
      bnd (fX0_dearestPay N 16 l1 F1) fun v3 F4 =>
      some (v3, F4)
    else
    if l2 = 3 then
      bnd (fX0_movesIn N 16 l1 F1) fun v4 F5 =>
      some (v4, F5)
    else
      some ((-1), F1)
  else
    some ((-1), F)
def fX6_paid (N : Nat) (l1 : Int32) (l2 : Int32) (F : FF) : Option (Int32 × FF) :=
  if (pX0_hasShelf 1 l1 F) = 0 then
    some ((-1), F)
  else
    if ¬ (pX6_within l2 0 200 F) = 0 then
      bnd (fX0_copy N 16 1 F) fun _ F1 =>
      bnd (fX0_paidBy N 16 l1 l2 1000000000 F1) fun v1 F2 =>
      some (v1, F2)
    else
      some ((-1), F)
def fX6_ahead (N : Nat) (l1 : Int32) (l2 : Int32) (l3 : Int32) (F : FF) : Option (Int32 × FF) :=
  if (pX0_hasShelf 1 l1 F) = 0 then
    some ((-1), F)
  else
    if (pX6_within l2 0 200 F) = 0 then
      some ((-1), F)
    else
      if ¬ (pX0_hasBook 1 l3 F) = 0 then
        bnd (fX0_copy N 16 1 F) fun _ F1 =>
        bnd (fX0_paidBy N 16 l1 l2 1000000000 F1) fun v1 F2 =>
        ldR 5 17 l1 fun v2 =>
        gR 4 2 v2 fun v3 =>
        ldT 0 v3 l3 F2 fun v4 =>
        some (v4, F2)
      else
        some ((-1), F)
def fX6_when_L37 (N : Nat) (l1 : Int32) (l2 : Int32) : Nat → Int32 → FF → Option (Int32 × FF)
  | 0, _, _ => none
  | n + 1, l3, F =>
    if 200 < l3 then
      some ((-4), F)
    else
      ldR 5 17 l1 fun v1 =>
      gR 4 2 v1 fun v2 =>
      ldT 0 v2 0 F fun v3 =>
      if ¬ v3 = l2 then
        bnd (fX0_serveTurn N 16 l1 l3 F) fun v4 F1 =>
        fX6_when_L37 N l1 l2 n (l3 + 1) F1
      else
        some (l3, F)
def fX6_when (N : Nat) (l1 : Int32) (l2 : Int32) (F : FF) : Option (Int32 × FF) :=
  if (pX0_hasShelf 1 l1 F) = 0 then
    some ((-1), F)
  else
    if ¬ (pX0_hasBook 1 l2 F) = 0 then
      bnd (fX0_copy N 16 1 F) fun _ F1 =>
      fX6_when_L37 N l1 l2 N 0 F1
    else
      some ((-1), F)
def fX4_standsAs_L2 (N : Nat) (l0 : Nat) (l1 : Nat) : Nat → Int32 → FF → Option (Int32 × FF)
  | 0, _, _ => none
  | n + 1, l2, F =>
    if 6 ≤ l2 then
      some (1, F)
    else
      gR 4 2 l0 fun v1 =>
      ldT 0 v1 l2 F fun v2 =>
      gR 4 2 l1 fun v3 =>
      ldT 0 v3 l2 F fun v4 =>
      if v2 = v4 then
        fX4_standsAs_L2 N l0 l1 n (l2 + 1) F
      else
        some (0, F)
def fX4_standsAs (N : Nat) (l0 : Nat) (l1 : Nat) (F : FF) : Option (Int32 × FF) :=
  fX4_standsAs_L2 N l0 l1 N 0 F
def fX0_standsAs_L2 (N : Nat) (l0 : Nat) (l1 : Nat) : Nat → Int32 → FF → Option (Int32 × FF)
  | 0, _, _ => none
  | n + 1, l2, F =>
    gI 0 1 l0 F fun v1 =>
    if v1 ≤ l2 then
      some (1, F)
    else
      gR 0 4 l0 fun v2 =>
      ldR 5 v2 l2 fun v3 =>
      gR 0 4 l1 fun v4 =>
      ldR 5 v4 l2 fun v5 =>
      cal 4 v3 (fX4_standsAs N v3 v5 F) fun v6 F1 =>
      if ¬ v6 = 0 then
        fX0_standsAs_L2 N l0 l1 n (l2 + 1) F1
      else
        some (0, F1)
def fX0_standsAs (N : Nat) (l0 : Nat) (l1 : Nat) (F : FF) : Option (Int32 × FF) :=
  fX0_standsAs_L2 N l0 l1 N 0 F
def fX6_again_b63 (N : Nat) (k13 : Int32 → FF → Option (Int32 × FF)) (l1 : Int32) (F : FF) : Option (Int32 × FF) :=
  k13 (l1 + 1) F
def fX6_again_L13 (N : Nat) : Nat → Int32 → FF → Option (Int32 × FF)
  | 0, _, _ => none
  | n + 1, l1, F =>
    if 200 < l1 then
      some ((-4), F)
    else
      bnd (fX0_stepOn N 16 F) fun v1 F1 =>
      bnd (fX0_turn N 16 0 F1) fun v2 F2 =>
      bnd (fX0_turn N 1 0 F2) fun v3 F3 =>
      if ¬ v2 = v3 then
        fX6_again_b63 N (fun x1 F => fX6_again_L13 N n x1 F) l1 F3
      else
        bnd (fX0_standsAs N 16 1 F3) fun v4 F4 =>
        if v4 = 0 then
          fX6_again_b63 N (fun x1 F => fX6_again_L13 N n x1 F) l1 F4
        else
          some (l1, F4)
def fX6_again (N : Nat) (F : FF) : Option (Int32 × FF) :=
  bnd (fX0_copy N 16 1 F) fun _ F1 =>
  fX6_again_L13 N N 1 F1
def fX6_exchange (N : Nat) (l0 : Nat) (l1 : Int32) (l2 : Int32) (F : FF) : Option (Unit × FF) :=
  ldT 0 l0 l1 F fun v1 =>
  ldT 0 l0 l2 F fun v2 =>
  stT 0 l0 l1 v2 F fun F1 =>
  stT 0 l0 l2 v1 F1 fun F2 =>
  some ((), F2)
def fX6_nextRow_L73 (N : Nat) (l0 : Nat) : Nat → Int32 → Int32 → FF → Option (Int32 × FF)
  | 0, _, _, _ => none
  | n + 1, l4, l5, F =>
    if l5 ≤ l4 then
      some (1, F)
    else
      bnd (fX6_exchange N l0 l4 l5 F) fun _ F1 =>
      fX6_nextRow_L73 N l0 n (l4 + 1) (l5 + ((-1))) F1
def fX6_nextRow_b57 (N : Nat) (l0 : Nat) (l1 : Int32) (l2 : Int32) (l3 : Int32) (F : FF) : Option (Int32 × FF) :=
  bnd (fX6_exchange N l0 l2 l3 F) fun _ F1 =>
  fX6_nextRow_L73 N l0 N (l2 + 1) (l1 - 1) F1
def fX6_nextRow_L35 (N : Nat) (l0 : Nat) (l1 : Int32) (l2 : Int32) : Nat → Int32 → FF → Option (Int32 × FF)
  | 0, _, _ => none
  | n + 1, l3, F =>
    if l3 ≤ (l2 + 1) then
      fX6_nextRow_b57 N l0 l1 l2 l3 F
    else
      ldT 0 l0 l3 F fun v1 =>
      ldT 0 l0 l2 F fun v2 =>
      if v2 ≤ v1 then
        fX6_nextRow_b57 N l0 l1 l2 l3 F
      else
        fX6_nextRow_L35 N l0 l1 l2 n (l3 + ((-1))) F
def fX6_nextRow_b25 (N : Nat) (l0 : Nat) (l1 : Int32) (l2 : Int32) (F : FF) : Option (Int32 × FF) :=
  if 0 ≤ l2 then
    fX6_nextRow_L35 N l0 l1 l2 N (l1 - 1) F
  else
    some (0, F)
def fX6_nextRow_L4 (N : Nat) (l0 : Nat) (l1 : Int32) : Nat → Int32 → FF → Option (Int32 × FF)
  | 0, _, _ => none
  | n + 1, l2, F =>
    if l2 < 0 then
      fX6_nextRow_b25 N l0 l1 l2 F
    else
      ldT 0 l0 l2 F fun v1 =>
      ldT 0 l0 (l2 + 1) F fun v2 =>
      if v1 ≤ v2 then
        fX6_nextRow_b25 N l0 l1 l2 F
      else
        fX6_nextRow_L4 N l0 l1 n (l2 + ((-1))) F
def fX6_nextRow (N : Nat) (l0 : Nat) (l1 : Int32) (F : FF) : Option (Int32 × FF) :=
  fX6_nextRow_L4 N l0 l1 N (l1 - 2) F
def fX6_findBestRow_b134 (N : Nat) (k51 : Int32 → Int32 → Int32 → FF → Option (Int32 × FF)) (l1 : Int32) (l2 : Nat) (l3 : Int32) (l5 : Int32) (F : FF) : Option (Int32 × FF) :=
  bnd (fX6_nextRow N 41 (F 1 0) F) fun v1 F1 =>
  k51 l3 v1 (l5 + 1) F1
def fX6_findBestRow_L51 (N : Nat) (l1 : Int32) (l2 : Nat) : Nat → Int32 → Int32 → Int32 → FF → Option (Int32 × FF)
  | 0, _, _, _, _ => none
  | n + 1, l3, l4, l5, F =>
    if 720 ≤ l5 then
      some (l3, F)
    else
      if l4 = 0 then
        some (l3, F)
      else
        ldR 5 2 l1 fun v1 =>
        cal 4 l2 (fX4_copy N l2 v1 F) fun _ F1 =>
        gR 4 2 l2 fun v2 =>
        cpI 41 v2 6 F1 fun F2 =>
        bnd (fX0_paidBy N 16 l1 (F2 1 2) l3 F2) fun v3 F3 =>
        if l3 ≤ v3 then
          fX6_findBestRow_b134 N (fun x3 x4 x5 F => fX6_findBestRow_L51 N l1 l2 n x3 x4 x5 F) l1 l2 l3 l5 F3
        else
          cpI 41 42 6 F3 fun F4 =>
          fX6_findBestRow_b134 N (fun x3 x4 x5 F => fX6_findBestRow_L51 N l1 l2 n x3 x4 x5 F) l1 l2 v3 l5 F4
def fX6_findBestRow_L23 (N : Nat) (l1 : Int32) (l2 : Nat) : Nat → Int32 → FF → Option (Int32 × FF)
  | 0, _, _ => none
  | n + 1, l3, F =>
    if 6 ≤ l3 then
      fX6_findBestRow_L51 N l1 l2 N 1000000000 1 0 F
    else
      stT 0 41 l3 l3 F fun F1 =>
      fX6_findBestRow_L23 N l1 l2 n (l3 + 1) F1
def fX6_findBestRow (N : Nat) (l1 : Int32) (F : FF) : Option (Int32 × FF) :=
  bnd (fX0_copy N 16 1 F) fun _ F1 =>
  ldR 5 17 l1 fun v1 =>
  fX6_findBestRow_L23 N l1 v1 N 0 F1
def fX6_order_b40 (N : Nat) (l1 : Int32) (l2 : Int32) (l3 : Int32) (F : FF) : Option (Int32 × FF) :=
  bnd (fX6_findBestRow N l1 F) fun v1 F1 =>
  if l3 = 0 then
    some (v1, F1)
  else
    ldT 0 42 (l2 - 10) F1 fun v2 =>
    some (v2, F1)
def fX6_order (N : Nat) (l1 : Int32) (l2 : Int32) (F : FF) : Option (Int32 × FF) :=
  if (pX0_hasShelf 1 l1 F) = 0 then
    some ((-1), F)
  else
    if l2 = 0 then
      fX6_order_b40 N l1 l2 (pX6_within l2 10 ((10 + (F 1 0)) - 1) F) F
    else
      if ¬ (pX6_within l2 10 ((10 + (F 1 0)) - 1) F) = 0 then
        fX6_order_b40 N l1 l2 (pX6_within l2 10 ((10 + (F 1 0)) - 1) F) F
      else
        some ((-1), F)
def fX1_answer (N : Nat) (l1 : Int32) (F : FF) : Option (Int32 × FF) :=
  some ((if (F 40 0) = ((-4)) then (F 40 0) else (if ¬ l1 = 0 then (F 40 1) else (F 40 0)) : Int32), F)
def pX1_answer (l1 : Int32) (F : FF) : Int32 :=
  (if (F 40 0) = ((-4)) then (F 40 0) else (if ¬ l1 = 0 then (F 40 1) else (F 40 0)) : Int32)
def fX6_kind_L56 (N : Nat) (l1 : Int32) (l2 : Int32) (l3 : Int32) : Nat → Int32 → FF → Option (Int32 × FF)
  | 0, _, _ => none
  | n + 1, l4, F =>
    if 3 < l4 then
      some (pX1_answer l3 F, F)
    else
      ldR 5 17 l1 fun v1 =>
      ldR 5 2 l1 fun v2 =>
      cal 4 v1 (fX4_copy N v1 v2 F) fun _ F1 =>
      ldR 5 17 l1 fun v3 =>
      pI 4 0 v3 l4 F1 fun F2 =>
      bnd (fX0_paidBy N 16 l1 l2 (F2 40 1) F2) fun v4 F3 =>
      bnd (fX1_offer N l4 v4 F3) fun _ F4 =>
      fX6_kind_L56 N l1 l2 l3 n (l4 + 1) F4
def fX6_kind (N : Nat) (l1 : Int32) (l2 : Int32) (l3 : Int32) (F : FF) : Option (Int32 × FF) :=
  if (pX0_hasShelf 1 l1 F) = 0 then
    some ((-1), F)
  else
    if (pX6_within l2 0 200 F) = 0 then
      some ((-1), F)
    else
      if ¬ (pX6_within l3 0 1 F) = 0 then
        bnd (fX0_copy N 16 1 F) fun _ F1 =>
        bnd (fX1_reset N 1000000000 F1) fun _ F2 =>
        fX6_kind_L56 N l1 l2 l3 N 0 F2
      else
        some ((-1), F)
def fX6_first_L67 (N : Nat) (l1 : Int32) (l2 : Int32) (l3 : Int32) (l4 : Nat) : Nat → Int32 → FF → Option (Int32 × FF)
  | 0, _, _ => none
  | n + 1, l5, F =>
    if (F 1 0) ≤ l5 then
      some (pX1_answer l3 F, F)
    else
      ldR 5 2 l1 fun v1 =>
      cal 4 l4 (fX4_copy N l4 v1 F) fun _ F1 =>
      cal 4 l4 (fX4_find N l4 l5 F1) fun v2 F2 =>
      cal 4 l4 (fX4_shift N l4 v2 0 F2) fun _ F3 =>
      bnd (fX0_paidBy N 16 l1 l2 (F3 40 1) F3) fun v3 F4 =>
      bnd (fX1_offer N l5 v3 F4) fun _ F5 =>
      fX6_first_L67 N l1 l2 l3 l4 n (l5 + 1) F5
def fX6_first (N : Nat) (l1 : Int32) (l2 : Int32) (l3 : Int32) (F : FF) : Option (Int32 × FF) :=
  if (pX0_hasShelf 1 l1 F) = 0 then
    some ((-1), F)
  else
    if (pX6_within l2 0 200 F) = 0 then
      some ((-1), F)
    else
      if ¬ (pX6_within l3 0 1 F) = 0 then
        bnd (fX0_copy N 16 1 F) fun _ F1 =>
        ldR 5 17 l1 fun v1 =>
        bnd (fX1_reset N 1000000000 F1) fun _ F2 =>
        fX6_first_L67 N l1 l2 l3 v1 N 0 F2
      else
        some ((-1), F)
def fX6_resetToPaidNow (N : Nat) (l1 : Int32) (F : FF) : Option (Unit × FF) :=
  bnd (fX0_copy N 16 1 F) fun _ F1 =>
  bnd (fX0_paidByAll N 16 l1 1000000000 F1) fun v1 F2 =>
  bnd (fX1_reset N v1 F2) fun _ F3 =>
  some ((), F3)
def fX6_swap_b132 (N : Nat) (k45 : Int32 → FF → Option (Int32 × FF)) (l1 : Int32) (l2 : Int32) (l3 : Int32) (l4 : Int32) (F : FF) : Option (Int32 × FF) :=
  k45 (l4 + 1) F
def fX6_swap_L45 (N : Nat) (k29 : Int32 → FF → Option (Int32 × FF)) (l1 : Int32) (l2 : Int32) (l3 : Int32) : Nat → Int32 → FF → Option (Int32 × FF)
  | 0, _, _ => none
  | n + 1, l4, F =>
    if (F 1 2) ≤ l4 then
      k29 (l3 + 1) F
    else
      ldT 0 3 l3 F fun v1 =>
      ldT 0 3 l4 F fun v2 =>
      if v1 = v2 then
        fX6_swap_b132 N (fun x4 F => fX6_swap_L45 N k29 l1 l2 l3 n x4 F) l1 l2 l3 l4 F
      else
        bnd (fX0_copy N 16 1 F) fun _ F1 =>
        bnd (fX6_exchange N 18 l3 l4 F1) fun _ F2 =>
        bnd (fX0_paidByAll N 16 l1 (F2 40 1) F2) fun v3 F3 =>
        bnd (fX1_offer N ((100 * l3) + l4) v3 F3) fun _ F4 =>
        fX6_swap_b132 N (fun x4 F => fX6_swap_L45 N k29 l1 l2 l3 n x4 F) l1 l2 l3 l4 F4
def fX6_swap_L29 (N : Nat) (l1 : Int32) (l2 : Int32) : Nat → Int32 → FF → Option (Int32 × FF)
  | 0, _, _ => none
  | n + 1, l3, F =>
    if (F 1 2) ≤ l3 then
      some (pX1_answer l2 F, F)
    else
      fX6_swap_L45 N (fun x3 F => fX6_swap_L29 N l1 l2 n x3 F) l1 l2 l3 N (l3 + 1) F
def fX6_swap (N : Nat) (l1 : Int32) (l2 : Int32) (F : FF) : Option (Int32 × FF) :=
  if (pX6_within l1 0 200 F) = 0 then
    some ((-1), F)
  else
    if ¬ (pX6_within l2 0 1 F) = 0 then
      bnd (fX6_resetToPaidNow N l1 F) fun _ F1 =>
      fX6_swap_L29 N l1 l2 N 0 F1
    else
      some ((-1), F)
def fX6_lose_L29 (N : Nat) (l1 : Int32) (l2 : Int32) : Nat → Int32 → FF → Option (Int32 × FF)
  | 0, _, _ => none
  | n + 1, l3, F =>
    if (F 1 2) ≤ l3 then
      some (pX1_answer l2 F, F)
    else
      bnd (fX0_copy N 16 1 F) fun _ F1 =>
      stT 0 18 l3 ((-1)) F1 fun F2 =>
      bnd (fX0_paidByAll N 16 l1 (F2 40 1) F2) fun v1 F3 =>
      bnd (fX1_offer N l3 v1 F3) fun _ F4 =>
      fX6_lose_L29 N l1 l2 n (l3 + 1) F4
def fX6_lose (N : Nat) (l1 : Int32) (l2 : Int32) (F : FF) : Option (Int32 × FF) :=
  if (pX6_within l1 0 200 F) = 0 then
    some ((-1), F)
  else
    if ¬ (pX6_within l2 0 1 F) = 0 then
      bnd (fX6_resetToPaidNow N l1 F) fun _ F1 =>
      fX6_lose_L29 N l1 l2 N 0 F1
    else
      some ((-1), F)
def fX6_areOdds (N : Nat) (l0 : Int32) (l1 : Int32) (l2 : Int32) (F : FF) : Option (Int32 × FF) :=
  some ((if (pX6_within l0 0 10 F) = 0 then 0 else (if (pX6_within l1 0 8 F) = 0 then 0 else (if (pX6_within l2 0 1 F) = 0 then 0 else 1)) : Int32), F)
def pX6_areOdds (l0 : Int32) (l1 : Int32) (l2 : Int32) (F : FF) : Int32 :=
  (if (pX6_within l0 0 10 F) = 0 then 0 else (if (pX6_within l1 0 8 F) = 0 then 0 else (if (pX6_within l2 0 1 F) = 0 then 0 else 1)) : Int32)
def fJ6_bitCount_0f7a4 (N : Nat) (l0 : Int32) (F : FF) : Option (Int32 × FF) :=
  some ((((((((l0 - ((iushr l0 1) &&& 1431655765)) &&& 858993459) + ((iushr (l0 - ((iushr l0 1) &&& 1431655765)) 2) &&& 858993459)) + (iushr (((l0 - ((iushr l0 1) &&& 1431655765)) &&& 858993459) + ((iushr (l0 - ((iushr l0 1) &&& 1431655765)) 2) &&& 858993459)) 4)) &&& 252645135) + (iushr (((((l0 - ((iushr l0 1) &&& 1431655765)) &&& 858993459) + ((iushr (l0 - ((iushr l0 1) &&& 1431655765)) 2) &&& 858993459)) + (iushr (((l0 - ((iushr l0 1) &&& 1431655765)) &&& 858993459) + ((iushr (l0 - ((iushr l0 1) &&& 1431655765)) 2) &&& 858993459)) 4)) &&& 252645135) 8)) + (iushr ((((((l0 - ((iushr l0 1) &&& 1431655765)) &&& 858993459) + ((iushr (l0 - ((iushr l0 1) &&& 1431655765)) 2) &&& 858993459)) + (iushr (((l0 - ((iushr l0 1) &&& 1431655765)) &&& 858993459) + ((iushr (l0 - ((iushr l0 1) &&& 1431655765)) 2) &&& 858993459)) 4)) &&& 252645135) + (iushr (((((l0 - ((iushr l0 1) &&& 1431655765)) &&& 858993459) + ((iushr (l0 - ((iushr l0 1) &&& 1431655765)) 2) &&& 858993459)) + (iushr (((l0 - ((iushr l0 1) &&& 1431655765)) &&& 858993459) + ((iushr (l0 - ((iushr l0 1) &&& 1431655765)) 2) &&& 858993459)) 4)) &&& 252645135) 8)) 16)) &&& 63, F)
def pJ6_bitCount_0f7a4 (l0 : Int32) (F : FF) : Int32 :=
  (((((((l0 - ((iushr l0 1) &&& 1431655765)) &&& 858993459) + ((iushr (l0 - ((iushr l0 1) &&& 1431655765)) 2) &&& 858993459)) + (iushr (((l0 - ((iushr l0 1) &&& 1431655765)) &&& 858993459) + ((iushr (l0 - ((iushr l0 1) &&& 1431655765)) 2) &&& 858993459)) 4)) &&& 252645135) + (iushr (((((l0 - ((iushr l0 1) &&& 1431655765)) &&& 858993459) + ((iushr (l0 - ((iushr l0 1) &&& 1431655765)) 2) &&& 858993459)) + (iushr (((l0 - ((iushr l0 1) &&& 1431655765)) &&& 858993459) + ((iushr (l0 - ((iushr l0 1) &&& 1431655765)) 2) &&& 858993459)) 4)) &&& 252645135) 8)) + (iushr ((((((l0 - ((iushr l0 1) &&& 1431655765)) &&& 858993459) + ((iushr (l0 - ((iushr l0 1) &&& 1431655765)) 2) &&& 858993459)) + (iushr (((l0 - ((iushr l0 1) &&& 1431655765)) &&& 858993459) + ((iushr (l0 - ((iushr l0 1) &&& 1431655765)) 2) &&& 858993459)) 4)) &&& 252645135) + (iushr (((((l0 - ((iushr l0 1) &&& 1431655765)) &&& 858993459) + ((iushr (l0 - ((iushr l0 1) &&& 1431655765)) 2) &&& 858993459)) + (iushr (((l0 - ((iushr l0 1) &&& 1431655765)) &&& 858993459) + ((iushr (l0 - ((iushr l0 1) &&& 1431655765)) 2) &&& 858993459)) 4)) &&& 252645135) 8)) 16)) &&& 63
def fX6_power_L5 (N : Nat) (l0 : Int32) (l1 : Int32) : Nat → Int64 → Int32 → FF → Option (Int64 × FF)
  | 0, _, _, _ => none
  | n + 1, l2, l4, F =>
    if l1 ≤ l4 then
      some (l2, F)
    else
      fX6_power_L5 N l0 l1 n (l2 * l0.toInt64) (l4 + 1) F
def fX6_power (N : Nat) (l0 : Int32) (l1 : Int32) (F : FF) : Option (Int64 × FF) :=
  fX6_power_L5 N l0 l1 N 1 0 F
def fX6_weightOf (N : Nat) (l0 : Int32) (l1 : Int32) (l2 : Int32) (F : FF) : Option (Int64 × FF) :=
  bnd (fX6_power N l1 (pJ6_bitCount_0f7a4 l0 F) F) fun v1 F1 =>
  bnd (fX6_power N (10 - l1) (l2 - (pJ6_bitCount_0f7a4 l0 F)) F1) fun v2 F2 =>
  some (v1 * v2, F2)
def fX0_paidWithout_b33 (N : Nat) (k6 : Int32 → Int32 → FF → Option (Int32 × FF)) (l0 : Nat) (l1 : Int32) (l2 : Int32) (l3 : Int32) (l4 : Int32) (l5 : Int32) (F : FF) : Option (Int32 × FF) :=
  k6 l4 (l5 + 1) F
def fX0_paidWithout_L6 (N : Nat) (l0 : Nat) (l1 : Int32) (l2 : Int32) (l3 : Int32) : Nat → Int32 → Int32 → FF → Option (Int32 × FF)
  | 0, _, _, _ => none
  | n + 1, l4, l5, F =>
    if l3 ≤ l5 then
      some (l4, F)
    else
      if ¬ ((l1 >>> (l5 &&& 31)) &&& 1) = 0 then
        fX0_paidWithout_b33 N (fun x4 x5 F => fX0_paidWithout_L6 N l0 l1 l2 l3 n x4 x5 F) l0 l1 l2 l3 l4 l5 F
      else
        cal 0 l0 (fX0_serveTurn N l0 l2 l5 F) fun v1 F1 =>
        fX0_paidWithout_b33 N (fun x4 x5 F => fX0_paidWithout_L6 N l0 l1 l2 l3 n x4 x5 F) l0 l1 l2 l3 (l4 + v1) l5 F1
def fX0_paidWithout (N : Nat) (l0 : Nat) (l1 : Int32) (l2 : Int32) (l3 : Int32) (F : FF) : Option (Int32 × FF) :=
  fX0_paidWithout_L6 N l0 l1 l2 l3 N 0 0 F
def fX6_inLowestTerms_b44 (N : Nat) (l0 : Int64) (l2 : Int64) (l4 : Int32) (l5 : Int64) (F : FF) : Option (Int64 × FF) :=
  if ¬ (lg_cmp l5 0) = 0 then
    if ¬ l4 = 0 then
      dvl l5 <|
      some (l2 / l5, F)
    else
      dvl l5 <|
      some (l0 / l5, F)
  else
    some (-1, F)
def fX6_inLowestTerms_L9 (N : Nat) (l0 : Int64) (l2 : Int64) (l4 : Int32) : Nat → Int64 → Int64 → Int32 → FF → Option (Int64 × FF)
  | 0, _, _, _, _ => none
  | n + 1, l5, l7, l9, F =>
    if 100 ≤ l9 then
      fX6_inLowestTerms_b44 N l0 l2 l4 l5 F
    else
      if (lg_cmp l7 0) = 0 then
        fX6_inLowestTerms_b44 N l0 l2 l4 l5 F
      else
        dvl l7 <|
        fX6_inLowestTerms_L9 N l0 l2 l4 n l7 (lrem l5 l7) (l9 + 1) F
def fX6_inLowestTerms (N : Nat) (l0 : Int64) (l2 : Int64) (l4 : Int32) (F : FF) : Option (Int64 × FF) :=
  fX6_inLowestTerms_L9 N l0 l2 l4 N l2 l0 0 F
def fX6_luck_b143 (N : Nat) (k54 : Int64 → Int32 → FF → Option (Int64 × FF)) (l1 : Int32) (l2 : Int32) (l3 : Int32) (l4 : Int32) (l5 : Int32) (l6 : Int64) (l8 : Int32) (F : FF) : Option (Int64 × FF) :=
  k54 l6 (l8 + 1) F
def fX6_luck_L54 (N : Nat) (l1 : Int32) (l2 : Int32) (l3 : Int32) (l4 : Int32) (l5 : Int32) : Nat → Int64 → Int32 → FF → Option (Int64 × FF)
  | 0, _, _, _ => none
  | n + 1, l6, l8, F =>
    if (1 <<< (l4 &&& 31)) ≤ l8 then
      bnd (fX6_power N 10 l4 F) fun v1 F1 =>
      bnd (fX6_inLowestTerms N l6 v1 l5 F1) fun v2 F2 =>
      some (v2, F2)
    else
      bnd (fX6_weightOf N l8 l1 l4 F) fun v3 F3 =>
      if (lg_cmp v3 0) ≤ 0 then
        fX6_luck_b143 N (fun x6 x8 F => fX6_luck_L54 N l1 l2 l3 l4 l5 n x6 x8 F) l1 l2 l3 l4 l5 l6 l8 F3
      else
        ldR 5 17 l2 fun v4 =>
        ldR 5 2 l2 fun v5 =>
        cal 4 v4 (fX4_copy N v4 v5 F3) fun _ F4 =>
        bnd (fX0_paidWithout N 16 l8 l2 l4 F4) fun v6 F5 =>
        ldR 5 17 l2 fun v7 =>
        gR 4 2 v7 fun v8 =>
        ldT 0 v8 0 F5 fun v9 =>
        fX6_luck_b143 N (fun x6 x8 F => fX6_luck_L54 N l1 l2 l3 l4 l5 n x6 x8 F) l1 l2 l3 l4 l5 (l6 + ((if ¬ v9 = l3 then 0 else v3 : Int64))) l8 F5
def fX6_luck (N : Nat) (l1 : Int32) (l2 : Int32) (l3 : Int32) (l4 : Int32) (l5 : Int32) (F : FF) : Option (Int64 × FF) :=
  if (pX6_areOdds l1 l4 l5 F) = 0 then
    some (-1, F)
  else
    if (pX0_hasShelf 1 l2 F) = 0 then
      some (-1, F)
    else
      if ¬ (pX0_hasBook 1 l3 F) = 0 then
        bnd (fX0_copy N 16 1 F) fun _ F1 =>
        fX6_luck_L54 N l1 l2 l3 l4 l5 N 0 0 F1
      else
        some (-1, F)
def fX6_mean_b119 (N : Nat) (k30 : Int64 → Int32 → FF → Option (Int64 × FF)) (l1 : Int32) (l2 : Int32) (l3 : Int32) (l4 : Int64) (l6 : Int32) (F : FF) : Option (Int64 × FF) :=
  k30 l4 (l6 + 1) F
def fX6_mean_L50 (N : Nat) (k30 : Int64 → Int32 → FF → Option (Int64 × FF)) (l1 : Int32) (l2 : Int32) (l3 : Int32) (l6 : Int32) (l7 : Int64) : Nat → Int64 → Int32 → FF → Option (Int64 × FF)
  | 0, _, _, _ => none
  | n + 1, l4, l9, F =>
    if (F 1 1) ≤ l9 then
      fX6_mean_b119 N k30 l1 l2 l3 l4 l6 F
    else
      if (lg_cmp l7 0) ≤ 0 then
        fX6_mean_b119 N k30 l1 l2 l3 l4 l6 F
      else
        ldR 5 17 l9 fun v1 =>
        ldR 5 2 l9 fun v2 =>
        cal 4 v1 (fX4_copy N v1 v2 F) fun _ F1 =>
        bnd (fX0_paidWithout N 16 l6 l9 l2 F1) fun v3 F2 =>
        fX6_mean_L50 N k30 l1 l2 l3 l6 l7 n (l4 + (l7 * v3.toInt64)) (l9 + 1) F2
def fX6_mean_L30 (N : Nat) (l1 : Int32) (l2 : Int32) (l3 : Int32) : Nat → Int64 → Int32 → FF → Option (Int64 × FF)
  | 0, _, _, _ => none
  | n + 1, l4, l6, F =>
    if (1 <<< (l2 &&& 31)) ≤ l6 then
      bnd (fX6_power N 10 l2 F) fun v1 F1 =>
      bnd (fX6_inLowestTerms N l4 v1 l3 F1) fun v2 F2 =>
      some (v2, F2)
    else
      bnd (fX6_weightOf N l6 l1 l2 F) fun v3 F3 =>
      fX6_mean_L50 N (fun x4 x6 F => fX6_mean_L30 N l1 l2 l3 n x4 x6 F) l1 l2 l3 l6 v3 N l4 0 F3
def fX6_mean (N : Nat) (l1 : Int32) (l2 : Int32) (l3 : Int32) (F : FF) : Option (Int64 × FF) :=
  if ¬ (pX6_areOdds l1 l2 l3 F) = 0 then
    bnd (fX0_copy N 16 1 F) fun _ F1 =>
    fX6_mean_L30 N l1 l2 l3 N 0 0 F1
  else
    some (-1, F)
def fX2_note (N : Nat) (l1 : Int32) (l2 : Int32) (l3 : Int32) (F : FF) : Option (Int32 × FF) :=
  if (F 35 0) < 6 then
    stT 0 36 (F 35 0) l1 F fun F1 =>
    stT 0 37 (F1 35 0) l2 F1 fun F2 =>
    stT 0 38 (F2 35 0) l3 F2 fun F3 =>
    nm (fput F3 35 0 ((F3 35 0) + 1)) fun F4 =>
    some (1, F4)
  else
    some (0, F)
def fX6_see (N : Nat) (l1 : Int32) (l2 : Int32) (l3 : Int32) (F : FF) : Option (Int32 × FF) :=
  if (pX6_within l1 0 40 F) = 0 then
    some ((-1), F)
  else
    if (pX0_hasShelf 1 l2 F) = 0 then
      some ((-1), F)
    else
      if ¬ (pX0_hasBook 1 l3 F) = 0 then
        bnd (fX2_note N l1 l2 l3 F) fun v1 F1 =>
        some ((if v1 = 0 then ((-3)) else (F1 35 0) : Int32), F1)
      else
        some ((-1), F)
def fX6_forget (N : Nat) (l1 : Int32) (F : FF) : Option (Int32 × FF) :=
  if ¬ (pX6_within l1 0 (F 35 0) F) = 0 then
    nm (fput F 35 0 l1) fun F1 =>
    some (F 35 0, F1)
  else
    some ((-1), F)
def fX2_latest_L4 (N : Nat) : Nat → Int32 → Int32 → FF → Option (Int32 × FF)
  | 0, _, _, _ => none
  | n + 1, l1, l2, F =>
    if (F 35 0) ≤ l2 then
      some (l1, F)
    else
      ldT 0 36 l2 F fun v1 =>
      fX2_latest_L4 N n (mmax l1 v1) (l2 + 1) F
def fX2_latest (N : Nat) (F : FF) : Option (Int32 × FF) :=
  fX2_latest_L4 N N 0 0 F
def fX2_isSoBehind_b60 (N : Nat) (k2 : Int32 → FF → Option (Int32 × FF)) (l1 : Int32) (l3 : Int32) (F : FF) : Option (Int32 × FF) :=
  k2 (l3 + 1) F
def fX2_isSoBehind_L2 (N : Nat) (l1 : Int32) : Nat → Int32 → FF → Option (Int32 × FF)
  | 0, _, _ => none
  | n + 1, l3, F =>
    if (F 35 0) ≤ l3 then
      some (1, F)
    else
      ldT 0 36 l3 F fun v1 =>
      if ¬ v1 = l1 then
        fX2_isSoBehind_b60 N (fun x3 F => fX2_isSoBehind_L2 N l1 n x3 F) l1 l3 F
      else
        ldT 0 37 l3 F fun v2 =>
        if (pX0_hasShelf 16 v2 F) = 0 then
          some (0, F)
        else
          ldR 5 17 v2 fun v3 =>
          gR 4 2 v3 fun v4 =>
          ldT 0 v4 0 F fun v5 =>
          ldT 0 38 l3 F fun v6 =>
          if v5 = v6 then
            fX2_isSoBehind_b60 N (fun x3 F => fX2_isSoBehind_L2 N l1 n x3 F) l1 l3 F
          else
            some (0, F)
def fX2_isSoBehind (N : Nat) (l1 : Int32) (F : FF) : Option (Int32 × FF) :=
  fX2_isSoBehind_L2 N l1 N 0 F
def fX2_isSoIn_L7 (N : Nat) (l2 : Int32) : Nat → Int32 → FF → Option (Int32 × FF)
  | 0, _, _ => none
  | n + 1, l3, F =>
    if l2 < l3 then
      some (1, F)
    else
      bnd (fX2_isSoBehind N l3 F) fun v1 F1 =>
      if ¬ v1 = 0 then
        bnd (fX0_stepOn N 16 F1) fun v2 F2 =>
        fX2_isSoIn_L7 N l2 n (l3 + 1) F2
      else
        some (0, F1)
def fX2_isSoIn (N : Nat) (F : FF) : Option (Int32 × FF) :=
  bnd (fX2_latest N F) fun v1 F1 =>
  fX2_isSoIn_L7 N v1 N 0 F1
def fX6_kinds_L17 (N : Nat) (l1 : Int32) : Nat → Int32 → Int32 → FF → Option (Int32 × FF)
  | 0, _, _, _ => none
  | n + 1, l2, l3, F =>
    if 3 < l3 then
      some (l2, F)
    else
      bnd (fX0_copy N 16 1 F) fun _ F1 =>
      ldR 5 17 l1 fun v1 =>
      pI 4 0 v1 l3 F1 fun F2 =>
      bnd (fX2_isSoIn N F2) fun v2 F3 =>
      fX6_kinds_L17 N l1 n (l2 ||| ((if v2 = 0 then 0 else (1 <<< (l3 &&& 31)) : Int32))) (l3 + 1) F3
def fX6_kinds (N : Nat) (l1 : Int32) (F : FF) : Option (Int32 × FF) :=
  if ¬ (pX0_hasShelf 1 l1 F) = 0 then
    fX6_kinds_L17 N l1 N 0 0 F
  else
    some ((-1), F)
def fX6_candidates_L4 (N : Nat) (l1 : Int32) : Nat → Int32 → Int32 → FF → Option (Int32 × FF)
  | 0, _, _, _ => none
  | n + 1, l2, l3, F =>
    if (F 1 0) ≤ l3 then
      some (l2, F)
    else
      bnd (fX0_copy N 16 1 F) fun _ F1 =>
      stT 0 18 l1 l3 F1 fun F2 =>
      bnd (fX2_isSoIn N F2) fun v1 F3 =>
      fX6_candidates_L4 N l1 n (l2 ||| ((if v1 = 0 then 0 else (1 <<< (l3 &&& 31)) : Int32))) (l3 + 1) F3
def fX6_candidates (N : Nat) (l1 : Int32) (F : FF) : Option (Int32 × FF) :=
  fX6_candidates_L4 N l1 N 0 0 F
def fX6_books (N : Nat) (l1 : Int32) (F : FF) : Option (Int32 × FF) :=
  if (pX0_hasWant 1 l1 F) = 0 then
    some ((-1), F)
  else
    bnd (fX6_candidates N l1 F) fun v1 F1 =>
    some (v1, F1)
def fX6_countLooksOfTrial_L10 (N : Nat) (k2 : Int32 → FF → Option (Unit × FF)) (l1 : Int32) : Nat → Int32 → FF → Option (Unit × FF)
  | 0, _, _ => none
  | n + 1, l2, F =>
    if (F 16 1) ≤ l2 then
      bnd (fX0_stepOn N 16 F) fun v1 F1 =>
      k2 (l1 + 1) F1
    else
      ldT 0 43 ((l1 * 4) + l2) F fun v2 =>
      ldR 5 17 l2 fun v3 =>
      gR 4 2 v3 fun v4 =>
      ldT 0 v4 0 F fun v5 =>
      stT 0 43 ((l1 * 4) + l2) (v2 + (1 <<< ((4 * v5) &&& 31))) F fun F2 =>
      fX6_countLooksOfTrial_L10 N k2 l1 n (l2 + 1) F2
def fX6_countLooksOfTrial_L2 (N : Nat) : Nat → Int32 → FF → Option (Unit × FF)
  | 0, _, _ => none
  | n + 1, l1, F =>
    if 40 < l1 then
      some ((), F)
    else
      fX6_countLooksOfTrial_L10 N (fun x1 F => fX6_countLooksOfTrial_L2 N n x1 F) l1 N 0 F
def fX6_countLooksOfTrial (N : Nat) (F : FF) : Option (Unit × FF) :=
  fX6_countLooksOfTrial_L2 N N 0 F
def fX6_countLooks_b71 (N : Nat) (k26 : Int32 → FF → Option (Unit × FF)) (l1 : Int32) (l2 : Int32) (l3 : Int32) (F : FF) : Option (Unit × FF) :=
  k26 (l3 + 1) F
def fX6_countLooks_L26 (N : Nat) (l1 : Int32) (l2 : Int32) : Nat → Int32 → FF → Option (Unit × FF)
  | 0, _, _ => none
  | n + 1, l3, F =>
    if (F 1 0) ≤ l3 then
      some ((), F)
    else
      if ¬ ((l2 >>> (l3 &&& 31)) &&& 1) = 1 then
        fX6_countLooks_b71 N (fun x3 F => fX6_countLooks_L26 N l1 l2 n x3 F) l1 l2 l3 F
      else
        bnd (fX0_copy N 16 1 F) fun _ F1 =>
        stT 0 18 l1 l3 F1 fun F2 =>
        bnd (fX6_countLooksOfTrial N F2) fun _ F3 =>
        fX6_countLooks_b71 N (fun x3 F => fX6_countLooks_L26 N l1 l2 n x3 F) l1 l2 l3 F3
def fX6_countLooks_L2 (N : Nat) (l1 : Int32) (l2 : Int32) : Nat → Int32 → FF → Option (Unit × FF)
  | 0, _, _ => none
  | n + 1, l3, F =>
    if (nI 164) ≤ l3 then
      fX6_countLooks_L26 N l1 l2 N 0 F
    else
      stT 0 43 l3 0 F fun F1 =>
      fX6_countLooks_L2 N l1 l2 n (l3 + 1) F1
def fX6_countLooks (N : Nat) (l1 : Int32) (l2 : Int32) (F : FF) : Option (Unit × FF) :=
  fX6_countLooks_L2 N l1 l2 N 0 F
def fX6_mostShowingOne_L4 (N : Nat) (l0 : Int32) : Nat → Int32 → Int32 → FF → Option (Int32 × FF)
  | 0, _, _, _ => none
  | n + 1, l1, l2, F =>
    if 6 ≤ l2 then
      some (l1, F)
    else
      fX6_mostShowingOne_L4 N l0 n (mmax l1 ((l0 >>> ((4 * l2) &&& 31)) &&& 15)) (l2 + 1) F
def fX6_mostShowingOne (N : Nat) (l0 : Int32) (F : FF) : Option (Int32 × FF) :=
  fX6_mostShowingOne_L4 N l0 N 0 0 F
def fX6_ask_L58 (N : Nat) (k48 : Int32 → FF → Option (Int32 × FF)) (l2 : Int32) (l4 : Int32) : Nat → Int32 → FF → Option (Int32 × FF)
  | 0, _, _ => none
  | n + 1, l5, F =>
    if (F 1 1) ≤ l5 then
      k48 (l4 + 1) F
    else
      ldT 0 43 ((l4 * 4) + l5) F fun v1 =>
      bnd (fX6_mostShowingOne N v1 F) fun v2 F1 =>
      bnd (fX1_offer N ((10 * l4) + l5) v2 F1) fun _ F2 =>
      fX6_ask_L58 N k48 l2 l4 n (l5 + 1) F2
def fX6_ask_L48 (N : Nat) (l2 : Int32) : Nat → Int32 → FF → Option (Int32 × FF)
  | 0, _, _ => none
  | n + 1, l4, F =>
    if 40 < l4 then
      some (pX1_answer l2 F, F)
    else
      fX6_ask_L58 N (fun x4 F => fX6_ask_L48 N l2 n x4 F) l2 l4 N 0 F
def fX6_ask (N : Nat) (l1 : Int32) (l2 : Int32) (F : FF) : Option (Int32 × FF) :=
  if (pX0_hasWant 1 l1 F) = 0 then
    some ((-1), F)
  else
    if ¬ (pX6_within l2 0 1 F) = 0 then
      bnd (fX6_candidates N l1 F) fun v1 F1 =>
      bnd (fX6_countLooks N l1 v1 F1) fun _ F2 =>
      bnd (fX1_reset N (pJ6_bitCount_0f7a4 v1 F2) F2) fun _ F3 =>
      fX6_ask_L48 N l2 N 0 F3
    else
      some ((-1), F)
def fX6_paidBySeed_L9 (N : Nat) (l1 : Nat) (l3 : Int32) : Nat → Int32 → Int32 → Int32 → FF → Option (Int32 × FF)
  | 0, _, _, _, _ => none
  | n + 1, l4, l5, l6, F =>
    if l3 ≤ l6 then
      some (l5, F)
    else
      dv (mmax 1 (F 1 0)) <|
      cal 4 l1 (fX4_serve N l1 (irem ((iushr ((l4 * 1103515245) + 12345) 16) &&& 32767) (mmax 1 (F 1 0))) F) fun v1 F1 =>
      fX6_paidBySeed_L9 N l1 l3 n ((l4 * 1103515245) + 12345) (l5 + v1) (l6 + 1) F1
def fX6_paidBySeed (N : Nat) (l1 : Nat) (l2 : Int32) (l3 : Int32) (F : FF) : Option (Int32 × FF) :=
  fX6_paidBySeed_L9 N l1 l3 N l2 0 0 F
def fX6_drift_L61 (N : Nat) (l1 : Int32) (l2 : Int32) (l3 : Int32) : Nat → Int32 → Int32 → FF → Option (Int32 × FF)
  | 0, _, _, _ => none
  | n + 1, l4, l5, F =>
    if (F 16 1) ≤ l5 then
      some ((if ¬ l3 = 0 then (F 40 0) else l4 : Int32), F)
    else
      ldR 5 17 l5 fun v1 =>
      bnd (fX6_paidBySeed N v1 l1 l2 F) fun v2 F1 =>
      bnd (fX1_offer N l5 v2 F1) fun _ F2 =>
      fX6_drift_L61 N l1 l2 l3 n (l4 + v2) (l5 + 1) F2
def fX6_drift (N : Nat) (l1 : Int32) (l2 : Int32) (l3 : Int32) (F : FF) : Option (Int32 × FF) :=
  if (pX6_within l2 1 200 F) = 0 then
    some ((-1), F)
  else
    if ¬ (pX6_within l3 0 1 F) = 0 then
      if ¬ (F 1 1) = 0 then
        bnd (fX0_copy N 16 1 F) fun _ F1 =>
        bnd (fX1_reset N 1000000000 F1) fun _ F2 =>
        fX6_drift_L61 N l1 l2 l3 N 0 0 F2
      else
        some ((-2), F)
    else
      some ((-1), F)
def fX6_keep (N : Nat) (l1 : Int32) (F : FF) : Option (Int32 × FF) :=
  if ¬ (pX6_within l1 0 1 F) = 0 then
    ldT 2 32 l1 F fun v1 =>
    ldR 3 31 l1 fun v2 =>
    cal 0 v2 (fX0_copy N v2 1 F) fun _ F1 =>
    stZ 32 l1 1 F1 fun F2 =>
    some ((if v1 = 0 then 0 else 1 : Int32), F2)
  else
    some ((-1), F)
def fX6_back (N : Nat) (l1 : Int32) (F : FF) : Option (Int32 × FF) :=
  if ¬ (pX6_within l1 0 1 F) = 0 then
    ldT 2 32 l1 F fun v1 =>
    if ¬ v1 = 0 then
      ldR 3 31 l1 fun v2 =>
      bnd (fX0_copy N 1 v2 F) fun _ F1 =>
      some (F1 1 3, F1)
    else
      some ((-2), F)
  else
    some ((-1), F)
def fX3_begin_L12 (N : Nat) (l0 : Nat) : Nat → Int32 → FF → Option (Unit × FF)
  | 0, _, _ => none
  | n + 1, l3, F =>
    if 40 ≤ l3 then
      some ((), F)
    else
      gR 3 2 l0 fun v1 =>
      stT 0 v1 l3 0 F fun F1 =>
      fX3_begin_L12 N l0 n (l3 + 1) F1
def fX3_begin (N : Nat) (l0 : Nat) (l1 : Int32) (l2 : Int32) (F : FF) : Option (Unit × FF) :=
  pI 3 0 l0 l1 F fun F1 =>
  pI 3 1 l0 l2 F1 fun F2 =>
  fX3_begin_L12 N l0 N 0 F2
def fX6_sheet (N : Nat) (l1 : Int32) (l2 : Int32) (l3 : Int32) (F : FF) : Option (Int32 × FF) :=
  if (pX6_within l1 0 3 F) = 0 then
    some ((-1), F)
  else
    if (pX6_within l2 0 2 F) = 0 then
      some ((-1), F)
    else
      if l3 ≤ 40 then
        if 0 ≤ l3 then
          ldR 4 39 l1 fun v1 =>
          cal 3 v1 (fX3_begin N v1 l2 l3 F) fun _ F1 =>
          some (1, F1)
        else
          some ((-14), F)
      else
        some ((-1), F)
def fX3_faultOf (N : Nat) (l0 : Nat) (l1 : Int32) (l2 : Int32) (F : FF) : Option (Int32 × FF) :=
  gI 3 0 l0 F fun v1 =>
  if ¬ v1 = ((-1)) then
    gI 3 0 l0 F fun v2 =>
    if v2 = l1 then
      if l2 < 0 then
        some (2, F)
      else
        gI 3 1 l0 F fun v3 =>
        some ((if v3 ≤ l2 then 2 else 0 : Int32), F)
    else
      some (3, F)
  else
    some (1, F)
def pX3_faultOf (l0 : Nat) (l1 : Int32) (l2 : Int32) (F : FF) : Int32 :=
  if ¬ (F l0 0) = ((-1)) then (if (F l0 0) = l1 then (if l2 < 0 then 2 else ((if (F l0 1) ≤ l2 then 2 else 0 : Int32))) else 3) else 1
def fX3_write (N : Nat) (l0 : Nat) (l1 : Int32) (l2 : Int32) (F : FF) : Option (Unit × FF) :=
  gI 3 0 l0 F fun v1 =>
  if v1 = 0 then
    gR 3 2 l0 fun v2 =>
    stT 0 v2 l1 l2.toInt8.toInt32 F fun F1 =>
    some ((), F1)
  else
  if v1 = 1 then
    gR 3 2 l0 fun v3 =>
    stT 0 v3 l1 l2.toInt16.toInt32 F fun F2 =>
    some ((), F2)
  else
    gR 3 2 l0 fun v4 =>
    stT 0 v4 l1 l2 F fun F3 =>
    some ((), F3)
def fX6_lay (N : Nat) (l1 : Int32) (l2 : Int32) (l3 : Int32) (F : FF) : Option (Int32 × FF) :=
  if ¬ (pX6_within l1 0 3 F) = 0 then
    ldR 4 39 l1 fun v1 =>
    ldR 4 39 l1 fun v2 =>
    gI 3 0 v2 F fun v3 =>
    okc 3 v1 <|
    if (pX3_faultOf v1 v3 l2 F) = 0 then
      ldR 4 39 l1 fun v4 =>
      cal 3 v4 (fX3_write N v4 l2 l3 F) fun _ F1 =>
      some (1, F1)
    else
      some (((-10)) - (pX3_faultOf v1 v3 l2 F), F)
  else
    some ((-1), F)
def fX6_read_L54 (N : Nat) (l2 : Int32) (l3 : Int32) (l4 : Int32) (l5 : Nat) (l6 : Int32) : Nat → Int32 → Int32 → FF → Option (Int32 × FF)
  | 0, _, _, _ => none
  | n + 1, l7, l8, F =>
    if l4 ≤ l8 then
      nm (fput F 0 11 l7) fun F1 =>
      some (l8, F1)
    else
      if ¬ l7 = 0 then
        nm (fput F 0 11 l7) fun F2 =>
        some (l8, F2)
      else
        okc 3 l5 <|
        if ¬ (pX3_faultOf l5 l2 (l3 + l8) F) = 0 then
          fX6_read_L54 N l2 l3 l4 l5 l6 n (pX3_faultOf l5 l2 (l3 + l8) F) l8 F
        else
          gR 3 2 l5 fun v1 =>
          ldT 0 v1 (l3 + l8) F fun v2 =>
          bnd (fX6_add N v2 F) fun v3 F3 =>
          if 0 ≤ v3 then
            fX6_read_L54 N l2 l3 l4 l5 l6 n (pX3_faultOf l5 l2 (l3 + l8) F) (l8 + 1) F3
          else
            nm (fput F3 1 2 l6) fun F4 =>
            some (((-20)) - l8, F4)
def fX6_read (N : Nat) (l1 : Int32) (l2 : Int32) (l3 : Int32) (l4 : Int32) (F : FF) : Option (Int32 × FF) :=
  if (pX6_within l1 0 3 F) = 0 then
    some ((-1), F)
  else
    if (pX6_within l2 0 2 F) = 0 then
      some ((-1), F)
    else
      if ¬ (pX6_within l4 0 40 F) = 0 then
        ldR 4 39 l1 fun v1 =>
        fX6_read_L54 N l2 l3 l4 v1 (F 1 2) N 0 0 F
      else
        some ((-1), F)
def fX6_torn (N : Nat) (F : FF) : Option (Int32 × FF) :=
  some (F 0 11, F)
def pX6_torn (F : FF) : Int32 :=
  F 0 11
def fX6_imagesKept_L4 (N : Nat) : Nat → Int32 → Int32 → FF → Option (Int32 × FF)
  | 0, _, _, _ => none
  | n + 1, l1, l2, F =>
    if 2 ≤ l2 then
      some (l1, F)
    else
      ldT 2 32 l2 F fun v1 =>
      fX6_imagesKept_L4 N n (l1 + ((if v1 = 0 then 0 else 1 : Int32))) (l2 + 1) F
def fX6_imagesKept (N : Nat) (F : FF) : Option (Int32 × FF) :=
  fX6_imagesKept_L4 N N 0 0 F
def fX0_costOfAll_L4 (N : Nat) (l0 : Nat) : Nat → Int32 → Int32 → FF → Option (Int32 × FF)
  | 0, _, _, _ => none
  | n + 1, l1, l2, F =>
    gI 0 1 l0 F fun v1 =>
    if v1 ≤ l2 then
      some (l1, F)
    else
      gR 0 4 l0 fun v2 =>
      ldR 5 v2 l2 fun v3 =>
      gI 4 1 v3 F fun v4 =>
      fX0_costOfAll_L4 N l0 n (l1 + v4) (l2 + 1) F
def fX0_costOfAll (N : Nat) (l0 : Nat) (F : FF) : Option (Int32 × FF) :=
  fX0_costOfAll_L4 N l0 N 0 0 F
def fX0_wantsSummed_L4 (N : Nat) (l0 : Nat) : Nat → Int32 → Int32 → FF → Option (Int32 × FF)
  | 0, _, _, _ => none
  | n + 1, l1, l2, F =>
    gI 0 2 l0 F fun v1 =>
    if v1 ≤ l2 then
      some (l1, F)
    else
      gR 0 5 l0 fun v2 =>
      ldT 0 v2 l2 F fun v3 =>
      fX0_wantsSummed_L4 N l0 n (l1 + v3) (l2 + 1) F
def fX0_wantsSummed (N : Nat) (l0 : Nat) (F : FF) : Option (Int32 × FF) :=
  fX0_wantsSummed_L4 N l0 N 0 0 F
def fX6_count (N : Nat) (l1 : Int32) (F : FF) : Option (Int32 × FF) :=
  if l1 = 0 then
    some (F 35 0, F)
  else
  if l1 = 1 then
    bnd (fX6_imagesKept N F) fun v1 F1 =>
    some (v1, F1)
  else
  if l1 = 2 then
    some (F 33 1, F)
  else
  if l1 = 3 then
    some ((if ¬ (F 74 0) = ((-1)) then (F 74 1) else ((-4)) : Int32), F)
  else
  if l1 = 4 then
    bnd (fX0_costOfAll N 1 F) fun v2 F2 =>
    some (v2, F2)
  else
  if l1 = 5 then
    bnd (fX0_wantsSummed N 1 F) fun v3 F3 =>
    some (v3, F3)
  else
    some ((-1), F)
def fX7_in (N : Nat) (l0 : Int64) (l2 : Int64) (l4 : Int64) (F : FF) : Option (Int32 × FF) :=
  some ((if (lg_cmp l0 l2) < 0 then 0 else (if 0 < (lg_cmp l0 l4) then 0 else 1) : Int32), F)
def pX7_in (l0 : Int64) (l2 : Int64) (l4 : Int64) (F : FF) : Int32 :=
  (if (lg_cmp l0 l2) < 0 then 0 else (if 0 < (lg_cmp l0 l4) then 0 else 1) : Int32)
def fX7_feed (N : Nat) (l1 : Int32) (F : FF) : Option (Int32 × FF) :=
  if ¬ (pX7_in l1.toInt64 0 127 F) = 0 then
    if ¬ (F 82 7) = 160 then
      stT 0 85 (F 82 7) l1 F fun F1 =>
      nm (fput F1 82 7 ((F1 82 7) + 1)) fun F2 =>
      some (F2 82 7, F2)
    else
      some ((-3), F)
  else
    some ((-1), F)
def fX7_end (N : Nat) (l1 : Int32) (F : FF) : Option (Int32 × FF) :=
  if ¬ (pX7_in l1.toInt64 0 ((F 82 7).toInt64) F) = 0 then
    nm (fput F 82 7 l1) fun F1 =>
    some (F 82 7, F1)
  else
    some ((-1), F)
def fX7_byteAt (N : Nat) (l1 : Int32) (F : FF) : Option (Int32 × FF) :=
  if (F 82 7) ≤ l1 then
    some ((-4), F)
  else
    ldT 0 85 l1 F fun v1 =>
    some (v1, F)
def fX7_fails (N : Nat) (l1 : Int32) (F : FF) : Option (Unit × FF) :=
  if ¬ (F 82 9) = 0 then
    some ((), F)
  else
    nm (fput F 82 9 l1) fun F1 =>
    nm (fput F1 82 10 (F1 82 12)) fun F2 =>
    some ((), F2)
def fX7_readsOn_b201 (N : Nat) (k140 : FF → Option (Unit × FF)) (s1 : Int32) (F : FF) : Option (Unit × FF) :=
  nm (fput F 82 14 s1) fun F1 =>
  nm (fput F1 82 11 ((F1 82 11) + 1)) fun F2 =>
  k140 F2
def fX7_readsOn_L140 (N : Nat) : Nat → FF → Option (Unit × FF)
  | 0, _ => none
  | n + 1, F =>
    bnd (fX7_byteAt N (F 82 11) F) fun v1 F1 =>
    if (pX7_in v1.toInt64 48 57 F1) = 0 then
      nm (fput F1 82 13 2) fun F2 =>
      if ((F2 82 11) - (F2 82 12)) ≤ 2 then
        some ((), F2)
      else
        bnd (fX7_fails N 1 F2) fun _ F3 =>
        some ((), F3)
    else
      if 2 ≤ ((F1 82 11) - (F1 82 12)) then
        fX7_readsOn_b201 N (fun  F => fX7_readsOn_L140 N n F) (F1 82 14) F1
      else
        bnd (fX7_byteAt N (F1 82 11) F1) fun v2 F4 =>
        fX7_readsOn_b201 N (fun  F => fX7_readsOn_L140 N n F) (((10 * (F1 82 14)) + v2) - 48) F4
def fX7_readsOn_L84 (N : Nat) : Nat → FF → Option (Unit × FF)
  | 0, _ => none
  | n + 1, F =>
    bnd (fX7_byteAt N (F 82 11) F) fun v1 F1 =>
    if (pX7_in v1.toInt64 97 122 F1) = 0 then
      nm (fput F1 82 13 1) fun F2 =>
      some ((), F2)
    else
      nm (fput F1 82 11 ((F1 82 11) + 1)) fun F3 =>
      fX7_readsOn_L84 N n F3
def fX7_readsOn_L8 (N : Nat) : Nat → FF → Option (Unit × FF)
  | 0, _ => none
  | n + 1, F =>
    bnd (fX7_byteAt N (F 82 11) F) fun v1 F1 =>
    if ¬ v1 = 32 then
      nm (fput F1 82 12 (F1 82 11)) fun F2 =>
      bnd (fX7_byteAt N (F2 82 11) F2) fun v2 F3 =>
      nm (fput F3 82 14 0) fun F4 =>
      if ¬ v2 = ((-4)) then
        if (pX7_in v2.toInt64 97 122 F4) = 0 then
          if (pX7_in v2.toInt64 48 57 F4) = 0 then
            nm (fput F4 82 13 3) fun F5 =>
            nm (fput F5 82 11 ((F5 82 11) + 1)) fun F6 =>
            if v2 = 59 then
              some ((), F6)
            else
              bnd (fX7_fails N 1 F6) fun _ F7 =>
              some ((), F7)
          else
            fX7_readsOn_L140 N N F4
        else
          fX7_readsOn_L84 N N F4
      else
        nm (fput F4 82 13 0) fun F8 =>
        some ((), F8)
    else
      nm (fput F1 82 11 ((F1 82 11) + 1)) fun F9 =>
      fX7_readsOn_L8 N n F9
def fX7_readsOn (N : Nat) (F : FF) : Option (Unit × FF) :=
  if (F 82 9) ≤ 0 then
    fX7_readsOn_L8 N N F
  else
    some ((), F)
def fX7_nameHere_b106 (N : Nat) (k2 : Int32 → FF → Option (Int32 × FF)) (l1 : Int32) (l2 : Int32) (F : FF) : Option (Int32 × FF) :=
  if l2 = 0 then
    k2 (l1 + 1) F
  else
    some (l1, F)
def fX7_nameHere_L51 (N : Nat) (k2 : Int32 → FF → Option (Int32 × FF)) (l1 : Int32) : Nat → Int32 → Int32 → FF → Option (Int32 × FF)
  | 0, _, _, _ => none
  | n + 1, l2, l3, F =>
    if l2 = 0 then
      fX7_nameHere_b106 N k2 l1 l2 F
    else
      if ((F 82 11) - (F 82 12)) ≤ l3 then
        fX7_nameHere_b106 N k2 l1 l2 F
      else
        bnd (fX7_byteAt N ((F 82 12) + l3) F) fun v1 F1 =>
        ldT 0 86 l1 F1 fun v2 =>
        ldT 0 87 (v2 + l3) F1 fun v3 =>
        fX7_nameHere_L51 N k2 l1 n ((if ¬ v1 = v3 then 0 else 1 : Int32)) (l3 + 1) F1
def fX7_nameHere_L2 (N : Nat) : Nat → Int32 → FF → Option (Int32 × FF)
  | 0, _, _ => none
  | n + 1, l1, F =>
    if 6 ≤ l1 then
      some ((-4), F)
    else
      if ¬ (F 82 13) = 1 then
        some ((-4), F)
      else
        ldT 0 86 (l1 + 1) F fun v1 =>
        ldT 0 86 l1 F fun v2 =>
        fX7_nameHere_L51 N (fun x1 F => fX7_nameHere_L2 N n x1 F) l1 N ((if ¬ ((F 82 11) - (F 82 12)) = (v1 - v2) then 0 else 1 : Int32)) 0 F
def fX7_nameHere (N : Nat) (F : FF) : Option (Int32 × FF) :=
  fX7_nameHere_L2 N N 0 F
def fX7_number_b47 (N : Nat) (l1 : Int32) (F : FF) : Option (Int32 × FF) :=
  bnd (fX7_readsOn N F) fun _ F1 =>
  some ((if ¬ (F 82 9) = 0 then l1 else (F 82 14) : Int32), F1)
def fX7_number_b20 (N : Nat) (l1 : Int32) (l2 : Int32) (F : FF) : Option (Int32 × FF) :=
  if ¬ (F 82 9) = 0 then
    fX7_number_b47 N l1 F
  else
    if ¬ (pX7_in ((F 82 14).toInt64) l1.toInt64 l2.toInt64 F) = 0 then
      fX7_number_b47 N l1 F
    else
      bnd (fX7_fails N 3 F) fun _ F1 =>
      fX7_number_b47 N l1 F1
def fX7_number (N : Nat) (l1 : Int32) (l2 : Int32) (F : FF) : Option (Int32 × FF) :=
  if ¬ (F 82 9) = 0 then
    fX7_number_b20 N l1 l2 F
  else
    if (F 82 13) = 2 then
      fX7_number_b20 N l1 l2 F
    else
      bnd (fX7_fails N 2 F) fun _ F1 =>
      fX7_number_b20 N l1 l2 F1
def fX7_readWants_L0 (N : Nat) : Nat → FF → Option (Unit × FF)
  | 0, _ => none
  | n + 1, F =>
    if ¬ (F 82 9) = 0 then
      some ((), F)
    else
      if ¬ (F 82 13) = 2 then
        some ((), F)
      else
        if ¬ (F 84 25) = 16 then
          bnd (fX7_number N 0 5 F) fun v1 F1 =>
          nm (fput F1 82 5 ((if v1 ≤ (F1 82 5) then (F1 82 5) else v1 : Int32))) fun F2 =>
          stT 0 84 (9 + (F 84 25)) v1 F2 fun F3 =>
          nm (fput F3 84 25 ((F3 84 25) + 1)) fun F4 =>
          fX7_readWants_L0 N n F4
        else
          bnd (fX7_fails N 5 F) fun _ F5 =>
          some ((), F5)
def fX7_readWants (N : Nat) (F : FF) : Option (Unit × FF) := fX7_readWants_L0 N N F
def fX7_readMore (N : Nat) (l1 : Int32) (F : FF) : Option (Unit × FF) :=
  if 3 < l1 then
    if ¬ l1 = 4 then
      bnd (fX7_readWants N F) fun _ F1 =>
      some ((), F1)
    else
      bnd (fX7_number N 1 6 F) fun v1 F2 =>
      nm (fput F2 82 3 v1) fun F3 =>
      some ((), F3)
  else
    stT 0 84 (F 84 8) l1 F fun F4 =>
    nm (fput F4 84 8 ((F4 84 8) + 1)) fun F5 =>
    some ((), F5)
def fX7_readLine_b119 (N : Nat) (F : FF) : Option (Unit × FF) :=
  bnd (fX7_readsOn N F) fun _ F1 =>
  some ((), F1)
def fX7_readLine_b61 (N : Nat) (l1 : Int32) (F : FF) : Option (Unit × FF) :=
  pZ 7 4 82 ((if ¬ (F 82 4) = 0 then 1 else (if ¬ l1 = 4 then 0 else 1) : Int32)) F fun F1 =>
  bnd (fX7_readsOn N F1) fun _ F2 =>
  if (F2 82 9) ≤ 0 then
    bnd (fX7_readMore N l1 F2) fun _ F3 =>
    if ¬ (F3 82 9) = 0 then
      fX7_readLine_b119 N F3
    else
      if (F3 82 13) = 3 then
        fX7_readLine_b119 N F3
      else
        bnd (fX7_fails N 2 F3) fun _ F4 =>
        fX7_readLine_b119 N F4
  else
    some ((), F2)
def fX7_readLine_b44 (N : Nat) (l1 : Int32) (F : FF) : Option (Unit × FF) :=
  if ¬ l1 = 4 then
    fX7_readLine_b61 N l1 F
  else
    if (F 82 4) = 0 then
      fX7_readLine_b61 N l1 F
    else
      bnd (fX7_fails N 4 F) fun _ F1 =>
      fX7_readLine_b61 N l1 F1
def fX7_readLine (N : Nat) (F : FF) : Option (Unit × FF) :=
  bnd (fX7_nameHere N F) fun v1 F1 =>
  if ¬ (pX7_in v1.toInt64 0 5 F1) = 0 then
    if 3 < v1 then
      fX7_readLine_b44 N v1 F1
    else
      if ¬ (F1 84 8) = 4 then
        fX7_readLine_b44 N v1 F1
      else
        bnd (fX7_fails N 5 F1) fun _ F2 =>
        fX7_readLine_b44 N v1 F2
  else
    bnd (fX7_fails N 2 F1) fun _ F3 =>
    some ((), F3)
def fX7_ordersFirst_L2 (N : Nat) (l1 : Int32) : Nat → Int32 → FF → Option (Unit × FF)
  | 0, _, _ => none
  | n + 1, l2, F =>
    if 6 ≤ l2 then
      stT 0 83 (4 + l1) 0 F fun F1 =>
      some ((), F1)
    else
      stT 0 83 ((27 + (6 * l1)) + l2) l2 F fun F2 =>
      stT 0 83 ((51 + (6 * l1)) + l2) 0 F2 fun F3 =>
      fX7_ordersFirst_L2 N l1 n (l2 + 1) F3
def fX7_ordersFirst (N : Nat) (l1 : Int32) (F : FF) : Option (Unit × FF) :=
  fX7_ordersFirst_L2 N l1 N 0 F
def fX7_text_L164 (N : Nat) (l1 : Int32) : Nat → Int32 → FF → Option (Int32 × FF)
  | 0, _, _ => none
  | n + 1, l2, F =>
    if (F 83 8) ≤ l2 then
      nm (fput F 82 22 0) fun F1 =>
      nm (fput F1 91 0 0) fun F2 =>
      nm (fput F2 91 1 0) fun F3 =>
      some (l1, F3)
    else
      bnd (fX7_ordersFirst N l2 F) fun _ F4 =>
      fX7_text_L164 N l1 n (l2 + 1) F4
def fX7_text_L130 (N : Nat) (l1 : Int32) : Nat → Int32 → FF → Option (Int32 × FF)
  | 0, _, _ => none
  | n + 1, l2, F =>
    if 75 ≤ l2 then
      nm (fput F 82 1 (F 82 3)) fun F1 =>
      fX7_text_L164 N l1 N 0 F1
    else
      ldT 0 84 l2 F fun v1 =>
      stT 0 83 l2 v1 F fun F2 =>
      fX7_text_L130 N l1 n (l2 + 1) F2
def fX7_text_b100 (N : Nat) (l1 : Int32) (F : FF) : Option (Int32 × FF) :=
  nm (fput F 82 7 0) fun F1 =>
  nm (fput F1 82 8 (F1 82 9)) fun F2 =>
  if (F2 82 9) ≤ 0 then
    fX7_text_L130 N l1 N 0 F2
  else
    some (((-10)) - (F2 82 10), F2)
def fX7_text_b76 (N : Nat) (l1 : Int32) (F : FF) : Option (Int32 × FF) :=
  if ¬ (F 82 9) = 0 then
    fX7_text_b100 N l1 F
  else
    if (F 82 5) < (F 82 3) then
      fX7_text_b100 N l1 F
    else
      bnd (fX7_fails N 6 F) fun _ F1 =>
      fX7_text_b100 N l1 F1
def fX7_text_L52 (N : Nat) : Nat → Int32 → FF → Option (Int32 × FF)
  | 0, _, _ => none
  | n + 1, l1, F =>
    if ¬ (F 82 9) = 0 then
      fX7_text_b76 N l1 F
    else
      if (F 82 13) = 0 then
        fX7_text_b76 N l1 F
      else
        bnd (fX7_readLine N F) fun _ F1 =>
        fX7_text_L52 N n (l1 + 1) F1
def fX7_text_L29 (N : Nat) (l1 : Int32) : Nat → Int32 → FF → Option (Int32 × FF)
  | 0, _, _ => none
  | n + 1, l2, F =>
    if 75 ≤ l2 then
      bnd (fX7_readsOn N F) fun _ F1 =>
      fX7_text_L52 N N l1 F1
    else
      stT 0 84 l2 0 F fun F2 =>
      fX7_text_L29 N l1 n (l2 + 1) F2
def fX7_text (N : Nat) (F : FF) : Option (Int32 × FF) :=
  nm (fput F 82 9 0) fun F1 =>
  nm (fput F1 82 11 0) fun F2 =>
  nm (fput F2 82 3 4) fun F3 =>
  nm (fput F3 82 4 0) fun F4 =>
  nm (fput F4 82 5 ((-1))) fun F5 =>
  fX7_text_L29 N 0 N 0 F5
def fX7_fault (N : Nat) (F : FF) : Option (Int32 × FF) :=
  some (F 82 8, F)
def pX7_fault (F : FF) : Int32 :=
  F 82 8
def fX7_turnOn (N : Nat) (l1 : Int32) (F : FF) : Option (Int32 × FF) :=
  ldT 0 83 (l1 + 25) F fun v1 =>
  if ¬ v1 = 0 then
    ldT 0 83 (l1 + 26) F fun v2 =>
    ldT 0 83 (l1 + 25) F fun v3 =>
    dv v3 <|
    some (irem v2 v3, F)
  else
    some ((-4), F)
def fX7_rule_b46 (N : Nat) (k5 : Int32 → Int32 → FF → Option (Int32 × FF)) (l1 : Int32) (l3 : Int32) (s0 : Int32) (F : FF) : Option (Int32 × FF) :=
  k5 s0 (l3 + 1) F
def fX7_rule_b41 (N : Nat) (k5 : Int32 → Int32 → FF → Option (Int32 × FF)) (l1 : Int32) (l3 : Int32) (F : FF) : Option (Int32 × FF) :=
  fX7_rule_b46 N k5 l1 l3 l3 F
def fX7_rule_L5 (N : Nat) (l1 : Int32) : Nat → Int32 → Int32 → FF → Option (Int32 × FF)
  | 0, _, _, _ => none
  | n + 1, l2, l3, F =>
    if (F 83 8) ≤ l3 then
      if l1 = 0 then
        some (F 82 1, F)
      else
      if l1 = 1 then
        some (F 83 8, F)
      else
      if l1 = 2 then
        some (F 83 25, F)
      else
      if l1 = 3 then
        some (F 83 26, F)
      else
      if l1 = 4 then
        bnd (fX7_turnOn N 0 F) fun v1 F1 =>
        some (v1, F1)
      else
      if l1 = 5 then
        some (l2, F)
      else
        some ((-1), F)
    else
      if l2 = ((-4)) then
        fX7_rule_b41 N (fun x2 x3 F => fX7_rule_L5 N l1 n x2 x3 F) l1 l3 F
      else
        ldT 0 83 (4 + l3) F fun v2 =>
        ldT 0 83 (4 + l2) F fun v3 =>
        fX7_rule_L5 N l1 n ((if v3 ≤ v2 then l2 else l3 : Int32)) (l3 + 1) F
def fX7_rule (N : Nat) (l1 : Int32) (F : FF) : Option (Int32 × FF) :=
  fX7_rule_L5 N l1 N ((-4)) 0 F
def fX7_isShelf (N : Nat) (l1 : Int32) (F : FF) : Option (Int32 × FF) :=
  zr (pX7_in l1.toInt64 0 (((F 83 8) - 1).toInt64) F) F
def fX7_isBook (N : Nat) (l1 : Int32) (F : FF) : Option (Int32 × FF) :=
  zr (pX7_in l1.toInt64 0 (((F 82 1) - 1).toInt64) F) F
def fX7_shelf_b19 (N : Nat) (l1 : Int32) (l2 : Int32) (F : FF) : Option (Int32 × FF) :=
  ldT 0 83 ((4 * l2) + l1) F fun v1 =>
  some (v1, F)
def fX7_shelf (N : Nat) (l1 : Int32) (l2 : Int32) (F : FF) : Option (Int32 × FF) :=
  bnd (fX7_isShelf N l1 F) fun v1 F1 =>
  if ¬ v1 = 0 then
    if l2 = 0 then
      fX7_shelf_b19 N l1 l2 F1
    else
      if ¬ l2 = 1 then
        bnd (fX7_isBook N (l2 - 10) F1) fun v2 F2 =>
        if v2 = 0 then
          bnd (fX7_isBook N (l2 - 20) F2) fun v3 F3 =>
          if v3 = 0 then
            some ((-1), F3)
          else
            ldT 0 83 (((51 + (6 * l1)) + l2) - 20) F3 fun v4 =>
            some (v4, F3)
        else
          ldT 0 83 (((27 + (6 * l1)) + l2) - 10) F2 fun v5 =>
          some (v5, F2)
      else
        fX7_shelf_b19 N l1 l2 F1
  else
    some ((-1), F1)
def fX7_placeOn_L6 (N : Nat) (l1 : Int32) (l2 : Int32) (l3 : Int32) : Nat → Int32 → Int32 → FF → Option (Int32 × FF)
  | 0, _, _, _ => none
  | n + 1, l4, l5, F =>
    if (F 82 1) ≤ l5 then
      some (l4, F)
    else
      ldT 0 83 (((l1 + 27) + (6 * l2)) + l5) F fun v1 =>
      fX7_placeOn_L6 N l1 l2 l3 n ((if ¬ v1 = l3 then l4 else l5 : Int32)) (l5 + 1) F
def fX7_placeOn (N : Nat) (l1 : Int32) (l2 : Int32) (l3 : Int32) (F : FF) : Option (Int32 × FF) :=
  fX7_placeOn_L6 N l1 l2 l3 N 0 0 F
def fX7_place (N : Nat) (l1 : Int32) (l2 : Int32) (F : FF) : Option (Int32 × FF) :=
  bnd (fX7_isShelf N l1 F) fun v1 F1 =>
  if v1 = 0 then
    some ((-1), F1)
  else
    bnd (fX7_isBook N l2 F1) fun v2 F2 =>
    if v2 = 0 then
      some ((-1), F2)
    else
      bnd (fX7_placeOn N 0 l1 l2 F2) fun v3 F3 =>
      some (v3, F3)
def fX7_isWant (N : Nat) (l1 : Int32) (F : FF) : Option (Int32 × FF) :=
  zr (pX7_in l1.toInt64 0 (((F 83 25) - 1).toInt64) F) F
def fX7_want (N : Nat) (l1 : Int32) (F : FF) : Option (Int32 × FF) :=
  bnd (fX7_isWant N l1 F) fun v1 F1 =>
  if v1 = 0 then
    some ((-1), F1)
  else
    ldT 0 83 (9 + l1) F1 fun v2 =>
    some (v2, F1)
def fX7_puts (N : Nat) (l1 : Int32) (l2 : Int32) (l3 : Int32) (F : FF) : Option (Int32 × FF) :=
  if ¬ l1 = 0 then
    ldT 0 83 l2 F fun v1 =>
    stT 0 83 l2 l3 F fun F1 =>
    some (v1, F1)
  else
    some ((-1), F)
def fX7_alter (N : Nat) (l1 : Int32) (l2 : Int32) (F : FF) : Option (Int32 × FF) :=
  bnd (fX7_isShelf N l1 F) fun v1 F1 =>
  bnd (fX7_puts N ((if v1 = 0 then 0 else (if (pX7_in l2.toInt64 0 3 F1) = 0 then 0 else 1) : Int32)) l1 l2 F1) fun v2 F2 =>
  some (v2, F2)
def fX7_put (N : Nat) (l1 : Int32) (F : FF) : Option (Int32 × FF) :=
  if ¬ (pX7_in l1.toInt64 0 3 F) = 0 then
    if ¬ (F 83 8) = 4 then
      stT 0 83 (F 83 8) l1 F fun F1 =>
      bnd (fX7_ordersFirst N (F 83 8) F1) fun _ F2 =>
      nm (fput F2 83 8 ((F2 83 8) + 1)) fun F3 =>
      some (F3 83 8, F3)
    else
      some ((-3), F)
  else
    some ((-1), F)
def fX7_cut (N : Nat) (l1 : Int32) (F : FF) : Option (Int32 × FF) :=
  bnd (fX7_puts N (pX7_in l1.toInt64 0 ((F 83 8).toInt64) F) 8 l1 F) fun v1 F1 =>
  some (v1, F1)
def fX7_standsOn_L63 (N : Nat) (l4 : Int32) (l5 : Int32) (l6 : Int32) : Nat → Int32 → FF → Option (Unit × FF)
  | 0, _, _ => none
  | n + 1, l7, F =>
    if l4 ≤ l7 then
      stT 0 83 (l5 + l4) l6 F fun F1 =>
      some ((), F1)
    else
      ldT 0 83 ((l5 + l7) + 1) F fun v1 =>
      stT 0 83 (l5 + l7) v1 F fun F2 =>
      fX7_standsOn_L63 N l4 l5 l6 n (l7 + 1) F2
def fX7_standsOn_L25 (N : Nat) (l3 : Int32) (l4 : Int32) (l5 : Int32) (l6 : Int32) : Nat → Int32 → FF → Option (Unit × FF)
  | 0, _, _ => none
  | n + 1, l7, F =>
    if l7 ≤ l4 then
      fX7_standsOn_L63 N l4 l5 l6 N l3 F
    else
      ldT 0 83 ((l5 + l7) - 1) F fun v1 =>
      stT 0 83 (l5 + l7) v1 F fun F1 =>
      fX7_standsOn_L25 N l3 l4 l5 l6 n (l7 + ((-1))) F1
def fX7_standsOn (N : Nat) (l1 : Int32) (l2 : Int32) (l3 : Int32) (l4 : Int32) (F : FF) : Option (Unit × FF) :=
  ldT 0 83 (((l1 + 27) + (6 * l2)) + l3) F fun v1 =>
  fX7_standsOn_L25 N l3 l4 ((l1 + 27) + (6 * l2)) v1 N l3 F
def fX7_stand (N : Nat) (l1 : Int32) (l2 : Int32) (l3 : Int32) (F : FF) : Option (Int32 × FF) :=
  bnd (fX7_isShelf N l1 F) fun v1 F1 =>
  if v1 = 0 then
    some ((-1), F1)
  else
    bnd (fX7_isBook N l2 F1) fun v2 F2 =>
    if v2 = 0 then
      some ((-1), F2)
    else
      bnd (fX7_isBook N l3 F2) fun v3 F3 =>
      if ¬ v3 = 0 then
        bnd (fX7_placeOn N 0 l1 l2 F3) fun v4 F4 =>
        bnd (fX7_standsOn N 0 l1 v4 l3 F4) fun _ F5 =>
        some (v4, F5)
      else
        some ((-1), F3)
def fX7_set_b22 (N : Nat) (l1 : Int32) (l2 : Int32) (s1 : Int32) (F : FF) : Option (Int32 × FF) :=
  bnd (fX7_puts N s1 (9 + l1) l2 F) fun v1 F1 =>
  some (v1, F1)
def fX7_set_b21 (N : Nat) (l1 : Int32) (l2 : Int32) (F : FF) : Option (Int32 × FF) :=
  fX7_set_b22 N l1 l2 0 F
def fX7_set (N : Nat) (l1 : Int32) (l2 : Int32) (F : FF) : Option (Int32 × FF) :=
  bnd (fX7_isWant N l1 F) fun v1 F1 =>
  if v1 = 0 then
    fX7_set_b21 N l1 l2 F1
  else
    bnd (fX7_isBook N l2 F1) fun v2 F2 =>
    bnd (fX7_puts N ((if v2 = 0 then 0 else 1 : Int32)) (9 + l1) l2 F2) fun v3 F3 =>
    some (v3, F3)
def fX7_adds (N : Nat) (l1 : Int32) (F : FF) : Option (Int32 × FF) :=
  bnd (fX7_isBook N l1 F) fun v1 F1 =>
  if ¬ v1 = 0 then
    if ¬ (F1 83 25) = 16 then
      stT 0 83 (9 + (F1 83 25)) l1 F1 fun F2 =>
      nm (fput F2 83 25 ((F2 83 25) + 1)) fun F3 =>
      some (F3 83 25, F3)
    else
      some ((-3), F1)
  else
    some ((-1), F1)
def fX7_add (N : Nat) (l1 : Int32) (F : FF) : Option (Int32 × FF) :=
  bnd (fX7_adds N l1 F) fun v1 F1 =>
  some (v1, F1)
def fX7_drop (N : Nat) (l1 : Int32) (F : FF) : Option (Int32 × FF) :=
  bnd (fX7_puts N (pX7_in l1.toInt64 0 ((F 83 25).toInt64) F) 25 l1 F) fun v1 F1 =>
  some (v1, F1)
def fX7_goalOn_L66 (N : Nat) (l3 : Int32) (l5 : Int32) (l6 : Int32) : Nat → Int32 → FF → Option (Int32 × FF)
  | 0, _, _ => none
  | n + 1, l7, F =>
    if l3 ≤ l7 then
      some (l3, F)
    else
      ldT 0 83 (l6 + l7) F fun v1 =>
      ldT 0 83 (l5 + v1) F fun v2 =>
      ldT 0 83 (l6 + l3) F fun v3 =>
      ldT 0 83 (l5 + v3) F fun v4 =>
      if v4 ≤ v2 then
        fX7_goalOn_L66 N l3 l5 l6 n (l7 + 1) F
      else
        some (l7, F)
def fX7_goalOn (N : Nat) (l1 : Int32) (l2 : Int32) (l3 : Int32) (F : FF) : Option (Int32 × FF) :=
  ldT 0 83 (l1 + l2) F fun v1 =>
  if v1 = 0 then
    some (l3, F)
  else
    if ¬ l3 = 0 then
      if 3 ≤ v1 then
        fX7_goalOn_L66 N l3 ((l1 + 51) + (6 * l2)) ((l1 + 27) + (6 * l2)) N 0 F
      else
        some ((if ¬ v1 = 1 then 0 else (l3 - 1) : Int32), F)
    else
      some (l3, F)
def fX7_asksOn_L5 (N : Nat) (l1 : Int32) (l2 : Int32) : Nat → Int32 → Int32 → FF → Option (Int32 × FF)
  | 0, _, _, _ => none
  | n + 1, l3, l4, F =>
    ldT 0 83 (l1 + 8) F fun v1 =>
    if v1 ≤ l4 then
      some (l3, F)
    else
      bnd (fX7_placeOn N l1 l4 l2 F) fun v2 F1 =>
      ldT 0 83 (l1 + l4) F1 fun v3 =>
      ldT 0 83 ((l1 + 4) + l4) F1 fun v4 =>
      stT 0 83 ((l1 + 4) + l4) ((if (v4 + ((v2 + 1) + ((if ¬ v3 = 2 then 0 else (if v2 ≤ 0 then 0 else 1) : Int32)))) ≤ 99999 then (v4 + ((v2 + 1) + ((if ¬ v3 = 2 then 0 else (if v2 ≤ 0 then 0 else 1) : Int32)))) else 99999 : Int32)) F1 fun F2 =>
      ldT 0 83 (((l1 + 51) + (6 * l4)) + l2) F2 fun v5 =>
      ldT 0 83 (((l1 + 51) + (6 * l4)) + l2) F2 fun v6 =>
      stT 0 83 (((l1 + 51) + (6 * l4)) + l2) (v5 + ((if 99 ≤ v6 then 0 else 1 : Int32))) F2 fun F3 =>
      bnd (fX7_goalOn N l1 l4 v2 F3) fun v7 F4 =>
      bnd (fX7_standsOn N l1 l4 v2 v7 F4) fun _ F5 =>
      ldT 0 88 l4 F5 fun v8 =>
      stT 0 88 l4 (v8 + ((v2 + 1) + ((if ¬ v3 = 2 then 0 else (if v2 ≤ 0 then 0 else 1) : Int32)))) F5 fun F6 =>
      nm (fput F6 82 18 ((if ((v2 + 1) + ((if ¬ v3 = 2 then 0 else (if v2 ≤ 0 then 0 else 1) : Int32))) ≤ (F6 82 18) then (F6 82 18) else ((v2 + 1) + ((if ¬ v3 = 2 then 0 else (if v2 ≤ 0 then 0 else 1) : Int32))) : Int32))) fun F7 =>
      nm (fput F7 82 19 ((F7 82 19) + ((if ¬ v7 = v2 then 1 else 0 : Int32)))) fun F8 =>
      fX7_asksOn_L5 N l1 l2 n (l3 + ((v2 + 1) + ((if ¬ v3 = 2 then 0 else (if v2 ≤ 0 then 0 else 1) : Int32)))) (l4 + 1) F8
def fX7_asksOn (N : Nat) (l1 : Int32) (l2 : Int32) (F : FF) : Option (Int32 × FF) :=
  fX7_asksOn_L5 N l1 l2 N 0 0 F
def fX7_take (N : Nat) (l1 : Int32) (F : FF) : Option (Int32 × FF) :=
  bnd (fX7_isBook N l1 F) fun v1 F1 =>
  if v1 = 0 then
    some ((-1), F1)
  else
    bnd (fX7_asksOn N 0 l1 F1) fun v2 F2 =>
    some (v2, F2)
def fX7_starts_L2 (N : Nat) : Nat → Int32 → FF → Option (Unit × FF)
  | 0, _, _ => none
  | n + 1, l1, F =>
    if 4 ≤ l1 then
      nm (fput F 82 18 0) fun F1 =>
      nm (fput F1 82 19 0) fun F2 =>
      some ((), F2)
    else
      stT 0 88 l1 0 F fun F3 =>
      fX7_starts_L2 N n (l1 + 1) F3
def fX7_starts (N : Nat) (F : FF) : Option (Unit × FF) :=
  fX7_starts_L2 N N 0 F
def fX7_stepOn_b41 (N : Nat) (l1 : Int32) (F : FF) : Option (Unit × FF) :=
  ldT 0 83 (l1 + 26) F fun v1 =>
  stT 0 83 (l1 + 26) (v1 + 1) F fun F1 =>
  some ((), F1)
def fX7_stepOn (N : Nat) (l1 : Int32) (l2 : Int32) (F : FF) : Option (Unit × FF) :=
  bnd (fX7_turnOn N l1 F) fun v1 F1 =>
  if v1 = ((-4)) then
    fX7_stepOn_b41 N l1 F1
  else
    if v1 = (F1 82 20) then
      fX7_stepOn_b41 N l1 F1
    else
      if ¬ l2 = 0 then
        fX7_stepOn_b41 N l1 F1
      else
        ldT 0 83 ((l1 + 9) + v1) F1 fun v2 =>
        bnd (fX7_asksOn N l1 v2 F1) fun v3 F2 =>
        fX7_stepOn_b41 N l1 F2
def fX7_paidAll_L4 (N : Nat) : Nat → Int32 → Int32 → FF → Option (Int32 × FF)
  | 0, _, _, _ => none
  | n + 1, l1, l2, F =>
    if 4 ≤ l2 then
      some (l1, F)
    else
      ldT 0 88 l2 F fun v1 =>
      fX7_paidAll_L4 N n (l1 + v1) (l2 + 1) F
def fX7_paidAll (N : Nat) (F : FF) : Option (Int32 × FF) :=
  fX7_paidAll_L4 N N 0 0 F
def fX7_steps_L38 (N : Nat) (l1 : Int32) : Nat → Int32 → FF → Option (Int32 × FF)
  | 0, _, _ => none
  | n + 1, l2, F =>
    if l1 ≤ l2 then
      bnd (fX7_paidAll N F) fun v1 F1 =>
      some (v1, F1)
    else
      bnd (fX7_stepOn N 0 0 F) fun _ F2 =>
      fX7_steps_L38 N l1 n (l2 + 1) F2
def fX7_steps (N : Nat) (l1 : Int32) (F : FF) : Option (Int32 × FF) :=
  if ¬ (pX7_in l1.toInt64 0 100 F) = 0 then
    if ((F 83 26) + l1) ≤ 9999 then
      bnd (fX7_starts N F) fun _ F1 =>
      fX7_steps_L38 N l1 N 0 F1
    else
      some ((-3), F)
  else
    some ((-1), F)
def fX7_copies_L2 (N : Nat) (l1 : Int32) (l2 : Int32) : Nat → Int32 → FF → Option (Unit × FF)
  | 0, _, _ => none
  | n + 1, l3, F =>
    if 75 ≤ l3 then
      some ((), F)
    else
      ldT 0 83 (l1 + l3) F fun v1 =>
      stT 0 83 (l2 + l3) v1 F fun F1 =>
      fX7_copies_L2 N l1 l2 n (l3 + 1) F1
def fX7_copies (N : Nat) (l1 : Int32) (l2 : Int32) (F : FF) : Option (Unit × FF) :=
  fX7_copies_L2 N l1 l2 N 0 F
def fX7_stepsGo_L14 (N : Nat) (l2 : Int32) : Nat → Int32 → FF → Option (Int32 × FF)
  | 0, _, _ => none
  | n + 1, l3, F =>
    if l2 ≤ l3 then
      bnd (fX7_paidAll N F) fun v1 F1 =>
      some (v1, F1)
    else
      bnd (fX7_stepOn N 300 0 F) fun _ F2 =>
      fX7_stepsGo_L14 N l2 n (l3 + 1) F2
def fX7_stepsGo (N : Nat) (l1 : Int32) (l2 : Int32) (F : FF) : Option (Int32 × FF) :=
  bnd (fX7_copies N l1 300 F) fun _ F1 =>
  bnd (fX7_starts N F1) fun _ F2 =>
  fX7_stepsGo_L14 N l2 N 0 F2
def fX7_cheapest_b42 (N : Nat) (k5 : Int32 → Int32 → FF → Option (Int32 × FF)) (l2 : Int32) (s0 : Int32) (F : FF) : Option (Int32 × FF) :=
  k5 s0 (l2 + 1) F
def fX7_cheapest_b37 (N : Nat) (k5 : Int32 → Int32 → FF → Option (Int32 × FF)) (l2 : Int32) (F : FF) : Option (Int32 × FF) :=
  fX7_cheapest_b42 N k5 l2 l2 F
def fX7_cheapest_L5 (N : Nat) : Nat → Int32 → Int32 → FF → Option (Int32 × FF)
  | 0, _, _, _ => none
  | n + 1, l1, l2, F =>
    if (F 83 8) ≤ l2 then
      some (l1, F)
    else
      if l1 = ((-4)) then
        fX7_cheapest_b37 N (fun x1 x2 F => fX7_cheapest_L5 N n x1 x2 F) l2 F
      else
        ldT 0 88 l2 F fun v1 =>
        ldT 0 88 l1 F fun v2 =>
        fX7_cheapest_L5 N n ((if v2 ≤ v1 then l1 else l2 : Int32)) (l2 + 1) F
def fX7_cheapest (N : Nat) (F : FF) : Option (Int32 × FF) :=
  fX7_cheapest_L5 N N ((-4)) 0 F
def fX7_runs (N : Nat) (l1 : Int32) (l2 : Int32) (F : FF) : Option (Int32 × FF) :=
  if (pX7_in l1.toInt64 0 200 F) = 0 then
    some ((-1), F)
  else
    if ¬ (pX7_in l2.toInt64 0 3 F) = 0 then
      bnd (fX7_stepsGo N 0 l1 F) fun v1 F1 =>
      if ¬ l2 = 0 then
        if ¬ l2 = 1 then
          some ((if ¬ l2 = 2 then (F1 82 19) else (F1 82 18) : Int32), F1)
        else
          bnd (fX7_cheapest N F1) fun v2 F2 =>
          some (v2, F2)
      else
        some (v1, F1)
    else
      some ((-1), F)
def fX7_paid (N : Nat) (l1 : Int32) (l2 : Int32) (F : FF) : Option (Int32 × FF) :=
  bnd (fX7_isShelf N l1 F) fun v1 F1 =>
  if v1 = 0 then
    some ((-1), F1)
  else
    if ¬ (pX7_in l2.toInt64 0 200 F1) = 0 then
      bnd (fX7_stepsGo N 0 l2 F1) fun v2 F2 =>
      ldT 0 88 l1 F2 fun v3 =>
      some (v3, F2)
    else
      some ((-1), F1)
def fX7_ahead (N : Nat) (l1 : Int32) (l2 : Int32) (l3 : Int32) (F : FF) : Option (Int32 × FF) :=
  bnd (fX7_isShelf N l1 F) fun v1 F1 =>
  if v1 = 0 then
    some ((-1), F1)
  else
    if (pX7_in l2.toInt64 0 200 F1) = 0 then
      some ((-1), F1)
    else
      bnd (fX7_isBook N l3 F1) fun v2 F2 =>
      if ¬ v2 = 0 then
        bnd (fX7_stepsGo N 0 l2 F2) fun v3 F3 =>
        ldT 0 83 ((327 + (6 * l1)) + l3) F3 fun v4 =>
        some (v4, F3)
      else
        some ((-1), F2)
def fX7_when_L28 (N : Nat) (l1 : Int32) (l2 : Int32) : Nat → Int32 → FF → Option (Int32 × FF)
  | 0, _, _ => none
  | n + 1, l3, F =>
    if 200 < l3 then
      some ((-4), F)
    else
      ldT 0 83 (327 + (6 * l1)) F fun v1 =>
      if ¬ v1 = l2 then
        bnd (fX7_stepOn N 300 0 F) fun _ F1 =>
        fX7_when_L28 N l1 l2 n (l3 + 1) F1
      else
        some (l3, F)
def fX7_when (N : Nat) (l1 : Int32) (l2 : Int32) (F : FF) : Option (Int32 × FF) :=
  bnd (fX7_isShelf N l1 F) fun v1 F1 =>
  if v1 = 0 then
    some ((-1), F1)
  else
    bnd (fX7_isBook N l2 F1) fun v2 F2 =>
    if ¬ v2 = 0 then
      bnd (fX7_copies N 0 300 F2) fun _ F3 =>
      fX7_when_L28 N l1 l2 N 0 F3
    else
      some ((-1), F2)
def fX7_again_b119 (N : Nat) (k67 : Int32 → Int32 → FF → Option (Int32 × FF)) (l1 : Int32) (l2 : Int32) (l4 : Int32) (l5 : Int32) (s0 : Int32) (F : FF) : Option (Int32 × FF) :=
  k67 s0 (l5 + 1) F
def fX7_again_b118 (N : Nat) (k67 : Int32 → Int32 → FF → Option (Int32 × FF)) (l1 : Int32) (l2 : Int32) (l4 : Int32) (l5 : Int32) (F : FF) : Option (Int32 × FF) :=
  fX7_again_b119 N k67 l1 l2 l4 l5 0 F
def fX7_again_L67 (N : Nat) (k52 : Int32 → Int32 → FF → Option (Int32 × FF)) (l1 : Int32) (l2 : Int32) (l4 : Int32) : Nat → Int32 → Int32 → FF → Option (Int32 × FF)
  | 0, _, _, _ => none
  | n + 1, l3, l5, F =>
    if (F 82 1) ≤ l5 then
      k52 l3 (l4 + 1) F
    else
      if l3 = 0 then
        fX7_again_b118 N (fun x3 x5 F => fX7_again_L67 N k52 l1 l2 l4 n x3 x5 F) l1 l2 l4 l5 F
      else
        ldT 0 83 (300 + ((27 + (6 * l4)) + l5)) F fun v1 =>
        ldT 0 83 ((27 + (6 * l4)) + l5) F fun v2 =>
        fX7_again_L67 N k52 l1 l2 l4 n ((if ¬ v1 = v2 then 0 else 1 : Int32)) (l5 + 1) F
def fX7_again_L52 (N : Nat) (k18 : Int32 → FF → Option (Int32 × FF)) (l1 : Int32) (l2 : Int32) : Nat → Int32 → Int32 → FF → Option (Int32 × FF)
  | 0, _, _, _ => none
  | n + 1, l3, l4, F =>
    if (F 83 8) ≤ l4 then
      if l3 = 0 then
        k18 (l2 + 1) F
      else
        some (l2, F)
    else
      fX7_again_L67 N (fun x3 x4 F => fX7_again_L52 N k18 l1 l2 n x3 x4 F) l1 l2 l4 N l3 0 F
def fX7_again_b48 (N : Nat) (k18 : Int32 → FF → Option (Int32 × FF)) (l1 : Int32) (l2 : Int32) (s0 : Int32) (F : FF) : Option (Int32 × FF) :=
  fX7_again_L52 N k18 l1 l2 N s0 0 F
def fX7_again_b43 (N : Nat) (k18 : Int32 → FF → Option (Int32 × FF)) (l1 : Int32) (l2 : Int32) (F : FF) : Option (Int32 × FF) :=
  fX7_again_b48 N k18 l1 l2 1 F
def fX7_again_L18 (N : Nat) (l1 : Int32) : Nat → Int32 → FF → Option (Int32 × FF)
  | 0, _, _ => none
  | n + 1, l2, F =>
    if 200 < l2 then
      some ((-4), F)
    else
      bnd (fX7_stepOn N 300 0 F) fun _ F1 =>
      if l1 = 0 then
        fX7_again_b43 N (fun x2 F => fX7_again_L18 N l1 n x2 F) l1 l2 F1
      else
        dv l1 <|
        fX7_again_L52 N (fun x2 F => fX7_again_L18 N l1 n x2 F) l1 l2 N ((if ¬ (irem l2 l1) = 0 then 0 else 1 : Int32)) 0 F1
def fX7_again (N : Nat) (F : FF) : Option (Int32 × FF) :=
  bnd (fX7_copies N 0 300 F) fun _ F1 =>
  fX7_again_L18 N (F1 83 25) N 1 F1
def fX7_isRow_L7 (N : Nat) : Nat → Int32 → Int32 → Int32 → FF → Option (Int32 × FF)
  | 0, _, _, _, _ => none
  | n + 1, l2, l3, l4, F =>
    if (F 82 1) ≤ l4 then
      some ((if ¬ l2 = ((1 <<< ((F 82 1) &&& 31)) - 1) then 0 else 1 : Int32), F)
    else
      dv (F 82 1) <|
      dv (F 82 1) <|
      fX7_isRow_L7 N n (l2 ||| (1 <<< ((irem l3 (F 82 1)) &&& 31))) (l3 / (F 82 1)) (l4 + 1) F
def fX7_isRow (N : Nat) (l1 : Int32) (F : FF) : Option (Int32 × FF) :=
  fX7_isRow_L7 N N 0 l1 0 F
def fX7_ordered_L21 (N : Nat) (l1 : Int32) : Nat → Int32 → Int32 → Int32 → FF → Option (Int32 × FF)
  | 0, _, _, _, _ => none
  | n + 1, l3, l4, l5, F =>
    if l5 < 0 then
      some ((if ¬ l3 = ((1 <<< ((F 82 1) &&& 31)) - 1) then 0 else 1 : Int32), F)
    else
      dv (F 82 1) <|
      dv (F 82 1) <|
      stT 0 83 ((402 + (6 * l1)) + l5) (irem l4 (F 82 1)) F fun F1 =>
      dv (F1 82 1) <|
      fX7_ordered_L21 N l1 n (l3 ||| (1 <<< ((irem l4 (F 82 1)) &&& 31))) (l4 / (F1 82 1)) (l5 + ((-1))) F1
def fX7_ordered (N : Nat) (l1 : Int32) (l2 : Int32) (F : FF) : Option (Int32 × FF) :=
  bnd (fX7_copies N 0 375 F) fun _ F1 =>
  fX7_ordered_L21 N l1 N 0 l2 ((F1 82 1) - 1) F1
def fX7_order_b188 (N : Nat) (l2 : Int32) (l4 : Int32) (l5 : Int32) (F : FF) : Option (Int32 × FF) :=
  if ¬ l2 = 0 then
    dv (F 82 1) <|
    some (irem l5 (F 82 1), F)
  else
    some (l4, F)
def fX7_order_L160 (N : Nat) (l2 : Int32) (l4 : Int32) : Nat → Int32 → Int32 → FF → Option (Int32 × FF)
  | 0, _, _, _ => none
  | n + 1, l5, l6, F =>
    if l6 ≤ (l2 - 10) then
      fX7_order_b188 N l2 l4 l5 F
    else
      if l2 ≤ 0 then
        fX7_order_b188 N l2 l4 l5 F
      else
        dv (F 82 1) <|
        fX7_order_L160 N l2 l4 n (l5 / (F 82 1)) (l6 + ((-1))) F
def fX7_order_b146 (N : Nat) (k62 : Int32 → Int32 → Int32 → FF → Option (Int32 × FF)) (l1 : Int32) (l2 : Int32) (l3 : Int32) (l4 : Int32) (l5 : Int32) (l6 : Int32) (F : FF) : Option (Int32 × FF) :=
  k62 l4 l5 (l6 + 1) F
def fX7_order_b144 (N : Nat) (k62 : Int32 → Int32 → Int32 → FF → Option (Int32 × FF)) (l1 : Int32) (l2 : Int32) (l3 : Int32) (l5 : Int32) (l6 : Int32) (s0 : Int32) (F : FF) : Option (Int32 × FF) :=
  fX7_order_b146 N k62 l1 l2 l3 s0 l5 l6 F
def fX7_order_L62 (N : Nat) (l1 : Int32) (l2 : Int32) (l3 : Int32) : Nat → Int32 → Int32 → Int32 → FF → Option (Int32 × FF)
  | 0, _, _, _, _ => none
  | n + 1, l4, l5, l6, F =>
    if l3 ≤ l6 then
      fX7_order_L160 N l2 l4 N l5 ((F 82 1) - 1) F
    else
      bnd (fX7_isRow N l6 F) fun v1 F1 =>
      if v1 = 0 then
        fX7_order_b146 N (fun x4 x5 x6 F => fX7_order_L62 N l1 l2 l3 n x4 x5 x6 F) l1 l2 l3 l4 l5 l6 F1
      else
        bnd (fX7_ordered N l1 l6 F1) fun v2 F2 =>
        if v2 = 0 then
          fX7_order_b146 N (fun x4 x5 x6 F => fX7_order_L62 N l1 l2 l3 n x4 x5 x6 F) l1 l2 l3 l4 l5 l6 F2
        else
          bnd (fX7_stepsGo N 375 (F2 83 25) F2) fun v3 F3 =>
          ldT 0 88 l1 F3 fun v4 =>
          ldT 0 88 l1 F3 fun v5 =>
          if l4 ≤ v5 then
            fX7_order_b144 N (fun x4 x5 x6 F => fX7_order_L62 N l1 l2 l3 n x4 x5 x6 F) l1 l2 l3 ((if l4 ≤ v4 then l5 else l6 : Int32)) l6 l4 F3
          else
            ldT 0 88 l1 F3 fun v6 =>
            fX7_order_b144 N (fun x4 x5 x6 F => fX7_order_L62 N l1 l2 l3 n x4 x5 x6 F) l1 l2 l3 ((if l4 ≤ v4 then l5 else l6 : Int32)) l6 v6 F3
def fX7_order_L30 (N : Nat) (l1 : Int32) (l2 : Int32) : Nat → Int32 → Int32 → FF → Option (Int32 × FF)
  | 0, _, _, _ => none
  | n + 1, l3, l4, F =>
    if (F 82 1) ≤ l4 then
      fX7_order_L62 N l1 l2 l3 N 1000000 0 0 F
    else
      fX7_order_L30 N l1 l2 n (l3 * (F 82 1)) (l4 + 1) F
def fX7_order_b25 (N : Nat) (l1 : Int32) (l2 : Int32) (F : FF) : Option (Int32 × FF) :=
  fX7_order_L30 N l1 l2 N 1 0 F
def fX7_order (N : Nat) (l1 : Int32) (l2 : Int32) (F : FF) : Option (Int32 × FF) :=
  bnd (fX7_isShelf N l1 F) fun v1 F1 =>
  if v1 = 0 then
    some ((-1), F1)
  else
    if l2 = 0 then
      fX7_order_b25 N l1 l2 F1
    else
      bnd (fX7_isBook N (l2 - 10) F1) fun v2 F2 =>
      if ¬ v2 = 0 then
        fX7_order_b25 N l1 l2 F2
      else
        some ((-1), F2)
def fX7_kind_b119 (N : Nat) (k50 : Int32 → Int32 → Int32 → FF → Option (Int32 × FF)) (l1 : Int32) (l2 : Int32) (l3 : Int32) (l5 : Int32) (l6 : Int32) (s0 : Int32) (F : FF) : Option (Int32 × FF) :=
  k50 s0 l5 (l6 + 1) F
def fX7_kind_L50 (N : Nat) (l1 : Int32) (l2 : Int32) (l3 : Int32) : Nat → Int32 → Int32 → Int32 → FF → Option (Int32 × FF)
  | 0, _, _, _, _ => none
  | n + 1, l4, l5, l6, F =>
    if 4 ≤ l6 then
      some ((if ¬ l3 = 0 then l4 else l5 : Int32), F)
    else
      stT 0 83 (375 + l1) l6 F fun F1 =>
      bnd (fX7_stepsGo N 375 l2 F1) fun v1 F2 =>
      ldT 0 88 l1 F2 fun v2 =>
      ldT 0 88 l1 F2 fun v3 =>
      if l4 ≤ v3 then
        fX7_kind_b119 N (fun x4 x5 x6 F => fX7_kind_L50 N l1 l2 l3 n x4 x5 x6 F) l1 l2 l3 ((if l4 ≤ v2 then l5 else l6 : Int32)) l6 l4 F2
      else
        ldT 0 88 l1 F2 fun v4 =>
        fX7_kind_b119 N (fun x4 x5 x6 F => fX7_kind_L50 N l1 l2 l3 n x4 x5 x6 F) l1 l2 l3 ((if l4 ≤ v2 then l5 else l6 : Int32)) l6 v4 F2
def fX7_kind (N : Nat) (l1 : Int32) (l2 : Int32) (l3 : Int32) (F : FF) : Option (Int32 × FF) :=
  bnd (fX7_isShelf N l1 F) fun v1 F1 =>
  if v1 = 0 then
    some ((-1), F1)
  else
    if (pX7_in l2.toInt64 0 200 F1) = 0 then
      some ((-1), F1)
    else
      if ¬ (pX7_in l3.toInt64 0 1 F1) = 0 then
        bnd (fX7_copies N 0 375 F1) fun _ F2 =>
        fX7_kind_L50 N l1 l2 l3 N 1000000 0 0 F2
      else
        some ((-1), F1)
def fX7_first_b129 (N : Nat) (k42 : Int32 → Int32 → Int32 → FF → Option (Int32 × FF)) (l1 : Int32) (l2 : Int32) (l3 : Int32) (l5 : Int32) (l6 : Int32) (s0 : Int32) (F : FF) : Option (Int32 × FF) :=
  k42 s0 l5 (l6 + 1) F
def fX7_first_L42 (N : Nat) (l1 : Int32) (l2 : Int32) (l3 : Int32) : Nat → Int32 → Int32 → Int32 → FF → Option (Int32 × FF)
  | 0, _, _, _, _ => none
  | n + 1, l4, l5, l6, F =>
    if (F 82 1) ≤ l6 then
      some ((if ¬ l3 = 0 then l4 else l5 : Int32), F)
    else
      bnd (fX7_copies N 0 375 F) fun _ F1 =>
      bnd (fX7_placeOn N 375 l1 l6 F1) fun v1 F2 =>
      bnd (fX7_standsOn N 375 l1 v1 0 F2) fun _ F3 =>
      bnd (fX7_stepsGo N 375 l2 F3) fun v2 F4 =>
      ldT 0 88 l1 F4 fun v3 =>
      ldT 0 88 l1 F4 fun v4 =>
      if l4 ≤ v4 then
        fX7_first_b129 N (fun x4 x5 x6 F => fX7_first_L42 N l1 l2 l3 n x4 x5 x6 F) l1 l2 l3 ((if l4 ≤ v3 then l5 else l6 : Int32)) l6 l4 F4
      else
        ldT 0 88 l1 F4 fun v5 =>
        fX7_first_b129 N (fun x4 x5 x6 F => fX7_first_L42 N l1 l2 l3 n x4 x5 x6 F) l1 l2 l3 ((if l4 ≤ v3 then l5 else l6 : Int32)) l6 v5 F4
def fX7_first (N : Nat) (l1 : Int32) (l2 : Int32) (l3 : Int32) (F : FF) : Option (Int32 × FF) :=
  bnd (fX7_isShelf N l1 F) fun v1 F1 =>
  if v1 = 0 then
    some ((-1), F1)
  else
    if (pX7_in l2.toInt64 0 200 F1) = 0 then
      some ((-1), F1)
    else
      if ¬ (pX7_in l3.toInt64 0 1 F1) = 0 then
        fX7_first_L42 N l1 l2 l3 N 1000000 0 0 F1
      else
        some ((-1), F1)
def fX7_swap_L56 (N : Nat) (k38 : Int32 → Int32 → Int32 → FF → Option (Int32 × FF)) (l1 : Int32) (l2 : Int32) (l5 : Int32) : Nat → Int32 → Int32 → Int32 → FF → Option (Int32 × FF)
  | 0, _, _, _, _ => none
  | n + 1, l3, l4, l6, F =>
    if (F 83 25) ≤ l6 then
      k38 l3 l4 (l5 + 1) F
    else
      bnd (fX7_copies N 0 375 F) fun _ F1 =>
      ldT 0 83 (9 + l6) F1 fun v1 =>
      stT 0 83 (384 + l5) v1 F1 fun F2 =>
      ldT 0 83 (9 + l5) F2 fun v2 =>
      stT 0 83 (384 + l6) v2 F2 fun F3 =>
      bnd (fX7_stepsGo N 375 l1 F3) fun v3 F4 =>
      fX7_swap_L56 N k38 l1 l2 l5 n ((if l3 ≤ v3 then l3 else v3 : Int32)) ((if l3 ≤ v3 then l4 else ((100 * l5) + l6) : Int32)) (l6 + 1) F4
def fX7_swap_L38 (N : Nat) (l1 : Int32) (l2 : Int32) : Nat → Int32 → Int32 → Int32 → FF → Option (Int32 × FF)
  | 0, _, _, _, _ => none
  | n + 1, l3, l4, l5, F =>
    if (F 83 25) ≤ l5 then
      some ((if l4 = ((-4)) then l4 else (if ¬ l2 = 0 then l3 else l4) : Int32), F)
    else
      fX7_swap_L56 N (fun x3 x4 x5 F => fX7_swap_L38 N l1 l2 n x3 x4 x5 F) l1 l2 l5 N l3 l4 (l5 + 1) F
def fX7_swap (N : Nat) (l1 : Int32) (l2 : Int32) (F : FF) : Option (Int32 × FF) :=
  if (pX7_in l1.toInt64 0 200 F) = 0 then
    some ((-1), F)
  else
    if ¬ (pX7_in l2.toInt64 0 1 F) = 0 then
      bnd (fX7_stepsGo N 0 l1 F) fun v1 F1 =>
      fX7_swap_L38 N l1 l2 N v1 ((-4)) 0 F1
    else
      some ((-1), F)
def fX7_lose_L38 (N : Nat) (l1 : Int32) (l2 : Int32) : Nat → Int32 → Int32 → Int32 → FF → Option (Int32 × FF)
  | 0, _, _, _, _ => none
  | n + 1, l3, l4, l5, F =>
    if (F 83 25) ≤ l5 then
      some ((if l4 = ((-4)) then l4 else (if ¬ l2 = 0 then l3 else l4) : Int32), F)
    else
      nm (fput F 82 20 l5) fun F1 =>
      bnd (fX7_stepsGo N 0 l1 F1) fun v1 F2 =>
      nm (fput F2 82 20 ((-4))) fun F3 =>
      fX7_lose_L38 N l1 l2 n ((if l3 ≤ v1 then l3 else v1 : Int32)) ((if l3 ≤ v1 then l4 else l5 : Int32)) (l5 + 1) F3
def fX7_lose (N : Nat) (l1 : Int32) (l2 : Int32) (F : FF) : Option (Int32 × FF) :=
  if (pX7_in l1.toInt64 0 200 F) = 0 then
    some ((-1), F)
  else
    if ¬ (pX7_in l2.toInt64 0 1 F) = 0 then
      bnd (fX7_stepsGo N 0 l1 F) fun v1 F1 =>
      fX7_lose_L38 N l1 l2 N v1 ((-4)) 0 F1
    else
      some ((-1), F)
def fX7_lowest_L6 (N : Nat) (l0 : Int64) (l2 : Int64) (l4 : Int32) : Nat → Int64 → Int64 → FF → Option (Int64 × FF)
  | 0, _, _, _ => none
  | n + 1, l5, l7, F =>
    if (lg_cmp l7 0) = 0 then
      dvl l5 <|
      some (((if ¬ l4 = 0 then l2 else l0 : Int64)) / l5, F)
    else
      dvl l7 <|
      fX7_lowest_L6 N l0 l2 l4 n l7 (lrem l5 l7) F
def fX7_lowest (N : Nat) (l0 : Int64) (l2 : Int64) (l4 : Int32) (F : FF) : Option (Int64 × FF) :=
  fX7_lowest_L6 N l0 l2 l4 N l0 l2 F
def fX7_byNothing_b159 (N : Nat) (k33 : Int64 → Int32 → FF → Option (Int64 × FF)) (l1 : Int32) (l2 : Int32) (l3 : Int32) (l4 : Int32) (l5 : Int32) (l8 : Int64) (l10 : Int32) (s0 : Int64) (s1 : Int64) (s2 : Int32) (F : FF) : Option (Int64 × FF) :=
  k33 (s0 + (s1 * s2.toInt64)) (l10 + 1) F
def fX7_byNothing_L60 (N : Nat) (k33 : Int64 → Int32 → FF → Option (Int64 × FF)) (l1 : Int32) (l2 : Int32) (l3 : Int32) (l4 : Int32) (l5 : Int32) (l6 : Int64) (l8 : Int64) (l10 : Int32) : Nat → Int64 → Int32 → FF → Option (Int64 × FF)
  | 0, _, _, _ => none
  | n + 1, l11, l13, F =>
    if l4 ≤ l13 then
      if ¬ l2 = ((-4)) then
        ldT 0 83 (327 + (6 * l2)) F fun v1 =>
        k33 (l6 + (l11 * (((if ¬ v1 = l3 then 0 else 1 : Int32)).toInt64))) (l10 + 1) F
      else
        bnd (fX7_paidAll N F) fun v2 F1 =>
        fX7_byNothing_b159 N k33 l1 l2 l3 l4 l5 l8 l10 l6 l11 v2 F1
    else
      bnd (fX7_stepOn N 300 ((if ¬ ((l10 >>> (l13 &&& 31)) &&& 1) = 1 then 0 else 1 : Int32)) F) fun _ F2 =>
      fX7_byNothing_L60 N k33 l1 l2 l3 l4 l5 l6 l8 l10 n (l11 * ((if ((if ¬ ((l10 >>> (l13 &&& 31)) &&& 1) = 1 then 0 else 1 : Int32)) = 0 then ((10 - l1).toInt64) else l1.toInt64 : Int64))) (l13 + 1) F2
def fX7_byNothing_L33 (N : Nat) (l1 : Int32) (l2 : Int32) (l3 : Int32) (l4 : Int32) (l5 : Int32) (l8 : Int64) : Nat → Int64 → Int32 → FF → Option (Int64 × FF)
  | 0, _, _, _ => none
  | n + 1, l6, l10, F =>
    if (1 <<< (l4 &&& 31)) ≤ l10 then
      bnd (fX7_lowest N l6 l8 l5 F) fun v1 F1 =>
      some (v1, F1)
    else
      bnd (fX7_copies N 0 300 F) fun _ F2 =>
      bnd (fX7_starts N F2) fun _ F3 =>
      fX7_byNothing_L60 N (fun x6 x10 F => fX7_byNothing_L33 N l1 l2 l3 l4 l5 l8 n x6 x10 F) l1 l2 l3 l4 l5 l6 l8 l10 N 1 0 F3
def fX7_byNothing_L9 (N : Nat) (l1 : Int32) (l2 : Int32) (l3 : Int32) (l4 : Int32) (l5 : Int32) (l6 : Int64) : Nat → Int64 → Int32 → FF → Option (Int64 × FF)
  | 0, _, _, _ => none
  | n + 1, l8, l10, F =>
    if l4 ≤ l10 then
      fX7_byNothing_L33 N l1 l2 l3 l4 l5 l8 N l6 0 F
    else
      fX7_byNothing_L9 N l1 l2 l3 l4 l5 l6 n (l8 * 10) (l10 + 1) F
def fX7_byNothing (N : Nat) (l1 : Int32) (l2 : Int32) (l3 : Int32) (l4 : Int32) (l5 : Int32) (F : FF) : Option (Int64 × FF) :=
  fX7_byNothing_L9 N l1 l2 l3 l4 l5 0 N 1 0 F
def fX7_luck (N : Nat) (l1 : Int32) (l2 : Int32) (l3 : Int32) (l4 : Int32) (l5 : Int32) (F : FF) : Option (Int64 × FF) :=
  if (pX7_in l1.toInt64 0 10 F) = 0 then
    some (-1, F)
  else
    bnd (fX7_isShelf N l2 F) fun v1 F1 =>
    if v1 = 0 then
      some (-1, F1)
    else
      bnd (fX7_isBook N l3 F1) fun v2 F2 =>
      if v2 = 0 then
        some (-1, F2)
      else
        if (pX7_in l4.toInt64 0 8 F2) = 0 then
          some (-1, F2)
        else
          if (pX7_in l5.toInt64 0 1 F2) = 0 then
            some (-1, F2)
          else
            bnd (fX7_byNothing N l1 l2 l3 l4 l5 F2) fun v3 F3 =>
            some (v3, F3)
def fX7_mean (N : Nat) (l1 : Int32) (l2 : Int32) (l3 : Int32) (F : FF) : Option (Int64 × FF) :=
  if (pX7_in l1.toInt64 0 10 F) = 0 then
    some (-1, F)
  else
    if (pX7_in l2.toInt64 0 8 F) = 0 then
      some (-1, F)
    else
      if (pX7_in l3.toInt64 0 1 F) = 0 then
        some (-1, F)
      else
        bnd (fX7_byNothing N l1 ((-4)) 0 l2 l3 F) fun v1 F1 =>
        some (v1, F1)
def fX7_see (N : Nat) (l1 : Int32) (l2 : Int32) (l3 : Int32) (F : FF) : Option (Int32 × FF) :=
  if (pX7_in l1.toInt64 0 40 F) = 0 then
    some ((-1), F)
  else
    bnd (fX7_isShelf N l2 F) fun v1 F1 =>
    if v1 = 0 then
      some ((-1), F1)
    else
      bnd (fX7_isBook N l3 F1) fun v2 F2 =>
      if ¬ v2 = 0 then
        if ¬ (F2 82 22) = 6 then
          stT 0 89 (3 * (F2 82 22)) l1 F2 fun F3 =>
          stT 0 89 ((3 * (F3 82 22)) + 1) l2 F3 fun F4 =>
          stT 0 89 ((3 * (F4 82 22)) + 2) l3 F4 fun F5 =>
          nm (fput F5 82 22 ((F5 82 22) + 1)) fun F6 =>
          some (F6 82 22, F6)
        else
          some ((-3), F2)
      else
        some ((-1), F2)
def fX7_forget (N : Nat) (l1 : Int32) (F : FF) : Option (Int32 × FF) :=
  if ¬ (pX7_in l1.toInt64 0 ((F 82 22).toInt64) F) = 0 then
    nm (fput F 82 22 l1) fun F1 =>
    some (F 82 22, F1)
  else
    some ((-1), F)
def fX7_isAsSeen_b169 (N : Nat) (k73 : Int32 → Int32 → FF → Option (Int32 × FF)) (l1 : Int32) (l3 : Int32) (l4 : Int32) (s0 : Int32) (F : FF) : Option (Int32 × FF) :=
  k73 s0 (l4 + 1) F
def fX7_isAsSeen_b168 (N : Nat) (k73 : Int32 → Int32 → FF → Option (Int32 × FF)) (l1 : Int32) (l3 : Int32) (l4 : Int32) (F : FF) : Option (Int32 × FF) :=
  fX7_isAsSeen_b169 N k73 l1 l3 l4 0 F
def fX7_isAsSeen_b140 (N : Nat) (k73 : Int32 → Int32 → FF → Option (Int32 × FF)) (l1 : Int32) (l2 : Int32) (l3 : Int32) (l4 : Int32) (s0 : Int32) (F : FF) : Option (Int32 × FF) :=
  if l2 = 0 then
    fX7_isAsSeen_b168 N k73 l1 l3 l4 F
  else
    ldT 0 89 (3 * l4) F fun v1 =>
    k73 ((if ¬ v1 = l3 then 1 else (if s0 = 0 then 0 else 1) : Int32)) (l4 + 1) F
def fX7_isAsSeen_b139 (N : Nat) (k73 : Int32 → Int32 → FF → Option (Int32 × FF)) (l1 : Int32) (l2 : Int32) (l3 : Int32) (l4 : Int32) (F : FF) : Option (Int32 × FF) :=
  fX7_isAsSeen_b140 N k73 l1 l2 l3 l4 0 F
def fX7_isAsSeen_L73 (N : Nat) (k12 : Int32 → Int32 → FF → Option (Int32 × FF)) (l1 : Int32) (l3 : Int32) : Nat → Int32 → Int32 → FF → Option (Int32 × FF)
  | 0, _, _, _ => none
  | n + 1, l2, l4, F =>
    if (F 82 22) ≤ l4 then
      bnd (fX7_stepOn N 300 0 F) fun _ F1 =>
      k12 l2 (l3 + 1) F1
    else
      ldT 0 89 ((3 * l4) + 1) F fun v1 =>
      if (F 83 8) ≤ v1 then
        fX7_isAsSeen_b139 N (fun x2 x4 F => fX7_isAsSeen_L73 N k12 l1 l3 n x2 x4 F) l1 l2 l3 l4 F
      else
        ldT 0 83 (327 + (6 * v1)) F fun v2 =>
        ldT 0 89 ((3 * l4) + 2) F fun v3 =>
        if l2 = 0 then
          fX7_isAsSeen_b168 N (fun x2 x4 F => fX7_isAsSeen_L73 N k12 l1 l3 n x2 x4 F) l1 l3 l4 F
        else
          ldT 0 89 (3 * l4) F fun v4 =>
          fX7_isAsSeen_L73 N k12 l1 l3 n ((if ¬ v4 = l3 then 1 else (if ((if ¬ v2 = v3 then 0 else 1 : Int32)) = 0 then 0 else 1) : Int32)) (l4 + 1) F
def fX7_isAsSeen_L21 (N : Nat) (k12 : Int32 → Int32 → FF → Option (Int32 × FF)) (l1 : Int32) (l2 : Int32) (l3 : Int32) : Nat → Int32 → FF → Option (Int32 × FF)
  | 0, _, _ => none
  | n + 1, l4, F =>
    if (F 83 8) ≤ l4 then
      fX7_isAsSeen_L73 N k12 l1 l3 N l2 0 F
    else
      ldT 0 83 (327 + (6 * l4)) F fun v1 =>
      stT 0 90 (((164 * l1) + (4 * l3)) + l4) v1 F fun F1 =>
      fX7_isAsSeen_L21 N k12 l1 l2 l3 n (l4 + 1) F1
def fX7_isAsSeen_L12 (N : Nat) (l1 : Int32) : Nat → Int32 → Int32 → FF → Option (Int32 × FF)
  | 0, _, _, _ => none
  | n + 1, l2, l3, F =>
    if 40 < l3 then
      zr l2 F
    else
      fX7_isAsSeen_L21 N (fun x2 x3 F => fX7_isAsSeen_L12 N l1 n x2 x3 F) l1 l2 l3 N 0 F
def fX7_isAsSeen (N : Nat) (l1 : Int32) (F : FF) : Option (Int32 × FF) :=
  bnd (fX7_copies N 0 300 F) fun _ F1 =>
  fX7_isAsSeen_L12 N l1 N 1 0 F1
def fX7_numbersAt_L13 (N : Nat) (l1 : Int32) (l2 : Int32) (l3 : Int32) : Nat → Int32 → Int32 → FF → Option (Int32 × FF)
  | 0, _, _, _ => none
  | n + 1, l4, l5, F =>
    if l2 ≤ l5 then
      stT 0 83 l1 l3 F fun F1 =>
      some (l4, F1)
    else
      stT 0 83 l1 l5 F fun F2 =>
      bnd (fX7_isAsSeen N l5 F2) fun v1 F3 =>
      fX7_numbersAt_L13 N l1 l2 l3 n (l4 ||| ((if v1 = 0 then 0 else (1 <<< (l5 &&& 31)) : Int32))) (l5 + 1) F3
def fX7_numbersAt (N : Nat) (l1 : Int32) (l2 : Int32) (F : FF) : Option (Int32 × FF) :=
  ldT 0 83 l1 F fun v1 =>
  fX7_numbersAt_L13 N l1 l2 v1 N 0 0 F
def fX7_kinds (N : Nat) (l1 : Int32) (F : FF) : Option (Int32 × FF) :=
  bnd (fX7_isShelf N l1 F) fun v1 F1 =>
  if v1 = 0 then
    some ((-1), F1)
  else
    bnd (fX7_numbersAt N l1 4 F1) fun v2 F2 =>
    some (v2, F2)
def fX7_books (N : Nat) (l1 : Int32) (F : FF) : Option (Int32 × FF) :=
  bnd (fX7_isWant N l1 F) fun v1 F1 =>
  if v1 = 0 then
    some ((-1), F1)
  else
    bnd (fX7_numbersAt N (9 + l1) (F1 82 1) F1) fun v2 F2 =>
    some (v2, F2)
def fX7_worstAt_b94 (N : Nat) (k5 : Int32 → Int32 → FF → Option (Int32 × FF)) (l1 : Int32) (l2 : Int32) (l3 : Int32) (l4 : Int32) (l5 : Int32) (F : FF) : Option (Int32 × FF) :=
  k5 ((if l5 ≤ l3 then l3 else l5 : Int32)) (l4 + 1) F
def fX7_worstAt_b85 (N : Nat) (k20 : Int32 → Int32 → FF → Option (Int32 × FF)) (l1 : Int32) (l2 : Int32) (l3 : Int32) (l4 : Int32) (l6 : Int32) (s0 : Int32) (s1 : Int32) (F : FF) : Option (Int32 × FF) :=
  k20 (s0 + s1) (l6 + 1) F
def fX7_worstAt_b84 (N : Nat) (k20 : Int32 → Int32 → FF → Option (Int32 × FF)) (l1 : Int32) (l2 : Int32) (l3 : Int32) (l4 : Int32) (l6 : Int32) (s0 : Int32) (F : FF) : Option (Int32 × FF) :=
  fX7_worstAt_b85 N k20 l1 l2 l3 l4 l6 s0 0 F
def fX7_worstAt_L20 (N : Nat) (k5 : Int32 → Int32 → FF → Option (Int32 × FF)) (l1 : Int32) (l2 : Int32) (l3 : Int32) (l4 : Int32) : Nat → Int32 → Int32 → FF → Option (Int32 × FF)
  | 0, _, _, _ => none
  | n + 1, l5, l6, F =>
    if (F 82 1) ≤ l6 then
      fX7_worstAt_b94 N k5 l1 l2 l3 l4 l5 F
    else
      if ¬ ((l1 >>> (l4 &&& 31)) &&& 1) = 1 then
        fX7_worstAt_b94 N k5 l1 l2 l3 l4 l5 F
      else
        if ¬ ((l1 >>> (l6 &&& 31)) &&& 1) = 1 then
          fX7_worstAt_b84 N (fun x5 x6 F => fX7_worstAt_L20 N k5 l1 l2 l3 l4 n x5 x6 F) l1 l2 l3 l4 l6 l5 F
        else
          ldT 0 90 ((164 * l4) + l2) F fun v1 =>
          ldT 0 90 ((164 * l6) + l2) F fun v2 =>
          fX7_worstAt_L20 N k5 l1 l2 l3 l4 n (l5 + ((if ¬ v1 = v2 then 0 else 1 : Int32))) (l6 + 1) F
def fX7_worstAt_L5 (N : Nat) (l1 : Int32) (l2 : Int32) : Nat → Int32 → Int32 → FF → Option (Int32 × FF)
  | 0, _, _, _ => none
  | n + 1, l3, l4, F =>
    if (F 82 1) ≤ l4 then
      some (l3, F)
    else
      fX7_worstAt_L20 N (fun x3 x4 F => fX7_worstAt_L5 N l1 l2 n x3 x4 F) l1 l2 l3 l4 N 0 0 F
def fX7_worstAt (N : Nat) (l1 : Int32) (l2 : Int32) (F : FF) : Option (Int32 × FF) :=
  fX7_worstAt_L5 N l1 l2 N 0 0 F
def fX7_ask_L82 (N : Nat) (k72 : Int32 → Int32 → Int32 → FF → Option (Int32 × FF)) (l2 : Int32) (l3 : Int32) (l6 : Int32) : Nat → Int32 → Int32 → Int32 → FF → Option (Int32 × FF)
  | 0, _, _, _, _ => none
  | n + 1, l4, l5, l7, F =>
    if (F 83 8) ≤ l7 then
      k72 l4 l5 (l6 + 1) F
    else
      bnd (fX7_worstAt N l3 ((4 * l6) + l7) F) fun v1 F1 =>
      fX7_ask_L82 N k72 l2 l3 l6 n ((if l4 ≤ v1 then l4 else v1 : Int32)) ((if l4 ≤ v1 then l5 else ((10 * l6) + l7) : Int32)) (l7 + 1) F1
def fX7_ask_L72 (N : Nat) (l2 : Int32) (l3 : Int32) : Nat → Int32 → Int32 → Int32 → FF → Option (Int32 × FF)
  | 0, _, _, _, _ => none
  | n + 1, l4, l5, l6, F =>
    if 40 < l6 then
      some ((if l5 = ((-4)) then l5 else (if ¬ l2 = 0 then l4 else l5) : Int32), F)
    else
      fX7_ask_L82 N (fun x4 x5 x6 F => fX7_ask_L72 N l2 l3 n x4 x5 x6 F) l2 l3 l6 N l4 l5 0 F
def fX7_ask_L39 (N : Nat) (l2 : Int32) (l3 : Int32) : Nat → Int32 → Int32 → FF → Option (Int32 × FF)
  | 0, _, _, _ => none
  | n + 1, l4, l5, F =>
    if (F 82 1) ≤ l5 then
      fX7_ask_L72 N l2 l3 N l4 ((-4)) 0 F
    else
      fX7_ask_L39 N l2 l3 n (l4 + ((l3 >>> (l5 &&& 31)) &&& 1)) (l5 + 1) F
def fX7_ask (N : Nat) (l1 : Int32) (l2 : Int32) (F : FF) : Option (Int32 × FF) :=
  bnd (fX7_isWant N l1 F) fun v1 F1 =>
  if v1 = 0 then
    some ((-1), F1)
  else
    if ¬ (pX7_in l2.toInt64 0 1 F1) = 0 then
      bnd (fX7_numbersAt N (9 + l1) (F1 82 1) F1) fun v2 F2 =>
      fX7_ask_L39 N l2 v2 N 0 0 F2
    else
      some ((-1), F1)
def fX7_drift_L55 (N : Nat) (l2 : Int32) (l3 : Int32) : Nat → Int32 → Int32 → FF → Option (Int32 × FF)
  | 0, _, _, _ => none
  | n + 1, l4, l5, F =>
    if l2 ≤ l5 then
      if ¬ l3 = 0 then
        bnd (fX7_cheapest N F) fun v1 F1 =>
        some (v1, F1)
      else
        bnd (fX7_paidAll N F) fun v2 F2 =>
        some (v2, F2)
    else
      dv (F 82 1) <|
      bnd (fX7_asksOn N 300 (irem ((((l4 * 1103515245) + 12345) >>> (16 &&& 31)) &&& 32767) (F 82 1)) F) fun v3 F3 =>
      fX7_drift_L55 N l2 l3 n ((l4 * 1103515245) + 12345) (l5 + 1) F3
def fX7_drift (N : Nat) (l1 : Int32) (l2 : Int32) (l3 : Int32) (F : FF) : Option (Int32 × FF) :=
  if (pX7_in l2.toInt64 1 200 F) = 0 then
    some ((-1), F)
  else
    if ¬ (pX7_in l3.toInt64 0 1 F) = 0 then
      if ¬ (F 83 8) = 0 then
        bnd (fX7_copies N 0 300 F) fun _ F1 =>
        bnd (fX7_starts N F1) fun _ F2 =>
        fX7_drift_L55 N l2 l3 N l1 0 F2
      else
        some ((-2), F)
    else
      some ((-1), F)
def fX7_keep (N : Nat) (l1 : Int32) (F : FF) : Option (Int32 × FF) :=
  if ¬ (pX7_in l1.toInt64 0 1 F) = 0 then
    bnd (fX7_copies N 0 (75 * (l1 + 1)) F) fun _ F1 =>
    ldT 2 91 l1 F1 fun v1 =>
    stZ 91 l1 1 F1 fun F2 =>
    some ((if v1 = 0 then 0 else 1 : Int32), F2)
  else
    some ((-1), F)
def fX7_back (N : Nat) (l1 : Int32) (F : FF) : Option (Int32 × FF) :=
  if ¬ (pX7_in l1.toInt64 0 1 F) = 0 then
    ldT 2 91 l1 F fun v1 =>
    if ¬ v1 = 0 then
      bnd (fX7_copies N (75 * (l1 + 1)) 0 F) fun _ F1 =>
      some (F1 83 26, F1)
    else
      some ((-2), F)
  else
    some ((-1), F)
def fX7_sheet_L56 (N : Nat) (l1 : Int32) : Nat → Int32 → FF → Option (Int32 × FF)
  | 0, _, _ => none
  | n + 1, l4, F =>
    if 40 ≤ l4 then
      some (1, F)
    else
      stT 0 94 ((40 * l1) + l4) 0 F fun F1 =>
      fX7_sheet_L56 N l1 n (l4 + 1) F1
def fX7_sheet (N : Nat) (l1 : Int32) (l2 : Int32) (l3 : Int32) (F : FF) : Option (Int32 × FF) :=
  if (pX7_in l1.toInt64 0 3 F) = 0 then
    some ((-1), F)
  else
    if (pX7_in l2.toInt64 0 2 F) = 0 then
      some ((-1), F)
    else
      if l3 ≤ 40 then
        if 0 ≤ l3 then
          stT 0 92 l1 l2 F fun F1 =>
          stT 0 93 l1 l3 F1 fun F2 =>
          fX7_sheet_L56 N l1 N 0 F2
        else
          some ((-14), F)
      else
        some ((-1), F)
def fX7_lay_b99 (N : Nat) (s1 : Int32) (s2 : Int32) (F : FF) : Option (Int32 × FF) :=
  stT 0 94 s1 s2 F fun F1 =>
  some (1, F1)
def fX7_lay (N : Nat) (l1 : Int32) (l2 : Int32) (l3 : Int32) (F : FF) : Option (Int32 × FF) :=
  if ¬ (pX7_in l1.toInt64 0 3 F) = 0 then
    ldT 0 92 l1 F fun v1 =>
    if ¬ v1 = ((-4)) then
      ldT 0 93 l1 F fun v2 =>
      if ¬ (pX7_in l2.toInt64 0 ((v2 - 1).toInt64) F) = 0 then
        ldT 0 92 l1 F fun v3 =>
        if ¬ v3 = 0 then
          ldT 0 92 l1 F fun v4 =>
          stT 0 94 ((40 * l1) + l2) ((if ¬ v4 = 1 then l3 else ((l3 <<< (16 &&& 31)) >>> (16 &&& 31)) : Int32)) F fun F1 =>
          some (1, F1)
        else
          fX7_lay_b99 N ((40 * l1) + l2) ((l3 <<< (24 &&& 31)) >>> (24 &&& 31)) F
      else
        some ((-12), F)
    else
      some ((-11), F)
  else
    some ((-1), F)
def fX7_read_b173 (N : Nat) (k56 : Int32 → Int32 → Int32 → FF → Option (Int32 × FF)) (l1 : Int32) (l2 : Int32) (l3 : Int32) (l4 : Int32) (l5 : Int32) (l6 : Int32) (l7 : Int32) (F : FF) : Option (Int32 × FF) :=
  k56 l5 l6 (l7 + 1) F
def fX7_read_b124 (N : Nat) (k56 : Int32 → Int32 → Int32 → FF → Option (Int32 × FF)) (l1 : Int32) (l2 : Int32) (l3 : Int32) (l4 : Int32) (l6 : Int32) (l7 : Int32) (s0 : Int32) (F : FF) : Option (Int32 × FF) :=
  if ¬ s0 = 0 then
    fX7_read_b173 N k56 l1 l2 l3 l4 s0 l6 l7 F
  else
    ldT 0 94 (((40 * l1) + l3) + l7) F fun v1 =>
    bnd (fX7_adds N v1 F) fun v2 F1 =>
    if 0 ≤ v2 then
      fX7_read_b173 N k56 l1 l2 l3 l4 s0 (l6 + 1) l7 F1
    else
      bnd (fX7_copies N 225 0 F1) fun _ F2 =>
      some (((-20)) - l6, F2)
def fX7_read_L56 (N : Nat) (l1 : Int32) (l2 : Int32) (l3 : Int32) (l4 : Int32) : Nat → Int32 → Int32 → Int32 → FF → Option (Int32 × FF)
  | 0, _, _, _, _ => none
  | n + 1, l5, l6, l7, F =>
    if l4 ≤ l7 then
      nm (fput F 82 28 l5) fun F1 =>
      some (l6, F1)
    else
      if ¬ l5 = 0 then
        nm (fput F 82 28 l5) fun F2 =>
        some (l6, F2)
      else
        ldT 0 92 l1 F fun v1 =>
        if ¬ v1 = ((-4)) then
          ldT 0 92 l1 F fun v2 =>
          if v2 = l2 then
            ldT 0 93 l1 F fun v3 =>
            if ¬ ((if ¬ (pX7_in (l3.toInt64 + l7.toInt64) 0 ((v3 - 1).toInt64) F) = 0 then 0 else 2 : Int32)) = 0 then
              fX7_read_b173 N (fun x5 x6 x7 F => fX7_read_L56 N l1 l2 l3 l4 n x5 x6 x7 F) l1 l2 l3 l4 ((if ¬ (pX7_in (l3.toInt64 + l7.toInt64) 0 ((v3 - 1).toInt64) F) = 0 then 0 else 2 : Int32)) l6 l7 F
            else
              ldT 0 94 (((40 * l1) + l3) + l7) F fun v4 =>
              bnd (fX7_adds N v4 F) fun v5 F3 =>
              if 0 ≤ v5 then
                fX7_read_b173 N (fun x5 x6 x7 F => fX7_read_L56 N l1 l2 l3 l4 n x5 x6 x7 F) l1 l2 l3 l4 ((if ¬ (pX7_in (l3.toInt64 + l7.toInt64) 0 ((v3 - 1).toInt64) F) = 0 then 0 else 2 : Int32)) (l6 + 1) l7 F3
              else
                bnd (fX7_copies N 225 0 F3) fun _ F4 =>
                some (((-20)) - l6, F4)
          else
            fX7_read_b124 N (fun x5 x6 x7 F => fX7_read_L56 N l1 l2 l3 l4 n x5 x6 x7 F) l1 l2 l3 l4 l6 l7 3 F
        else
          fX7_read_b124 N (fun x5 x6 x7 F => fX7_read_L56 N l1 l2 l3 l4 n x5 x6 x7 F) l1 l2 l3 l4 l6 l7 1 F
def fX7_read (N : Nat) (l1 : Int32) (l2 : Int32) (l3 : Int32) (l4 : Int32) (F : FF) : Option (Int32 × FF) :=
  if (pX7_in l1.toInt64 0 3 F) = 0 then
    some ((-1), F)
  else
    if (pX7_in l2.toInt64 0 2 F) = 0 then
      some ((-1), F)
    else
      if ¬ (pX7_in l4.toInt64 0 40 F) = 0 then
        bnd (fX7_copies N 0 225 F) fun _ F1 =>
        fX7_read_L56 N l1 l2 l3 l4 N 0 0 0 F1
      else
        some ((-1), F)
def fX7_torn (N : Nat) (F : FF) : Option (Int32 × FF) :=
  some (F 82 28, F)
def pX7_torn (F : FF) : Int32 :=
  F 82 28
def fX7_count_L40 (N : Nat) (l1 : Int32) (l2 : Int32) : Nat → Int32 → Int32 → FF → Option (Int32 × FF)
  | 0, _, _, _ => none
  | n + 1, l3, l4, F =>
    if (F 83 25) ≤ l4 then
      if l1 = 0 then
        some (F 82 22, F)
      else
      if l1 = 1 then
        some (((if (F 91 0) = 0 then 0 else 1 : Int32)) + ((if (F 91 1) = 0 then 0 else 1 : Int32)), F)
      else
      if l1 = 2 then
        some (F 82 7, F)
      else
      if l1 = 3 then
        some ((if ¬ (F 92 0) = ((-4)) then (F 93 0) else ((-4)) : Int32), F)
      else
      if l1 = 4 then
        some (l2, F)
      else
      if l1 = 5 then
        some (l3, F)
      else
        some ((-1), F)
    else
      ldT 0 83 (9 + l4) F fun v1 =>
      fX7_count_L40 N l1 l2 n (l3 + v1) (l4 + 1) F
def fX7_count_L7 (N : Nat) (l1 : Int32) (l3 : Int32) : Nat → Int32 → Int32 → FF → Option (Int32 × FF)
  | 0, _, _, _ => none
  | n + 1, l2, l4, F =>
    if (F 83 8) ≤ l4 then
      fX7_count_L40 N l1 l2 N l3 0 F
    else
      ldT 0 83 (4 + l4) F fun v1 =>
      fX7_count_L7 N l1 l3 n (l2 + v1) (l4 + 1) F
def fX7_count (N : Nat) (l1 : Int32) (F : FF) : Option (Int32 × FF) :=
  fX7_count_L7 N l1 0 N 0 0 F
def fL_law_b1504 (N : Nat) (L : Nat) (xs : Nat → Int32) (k18 : Int32 → FF → Option (Int32 × FF)) (l3 : Int32) (F : FF) : Option (Int32 × FF) :=
  k18 (l3 + 6) F
def fL_law_L18 (N : Nat) (L : Nat) (xs : Nat → Int32) : Nat → Int32 → FF → Option (Int32 × FF)
  | 0, _, _ => none
  | n + 1, l3, F =>
    if ((nI L) - 6) < l3 then
      some (1, F)
    else
      sld L xs l3 fun v1 =>
      if (v1 &&& 63) = 0 then
        sld L xs (l3 + 1) fun v2 =>
        bnd (fX6_feed N v2 F) fun v3 F1 =>
        sld L xs (l3 + 1) fun v4 =>
        bnd (fX7_feed N v4 F1) fun v5 F2 =>
        if v3 = v5 then
          fL_law_b1504 N L xs (fun x3 F => fL_law_L18 N L xs n x3 F) l3 F2
        else
          some (0, F2)
      else
      if (v1 &&& 63) = 1 then
        sld L xs (l3 + 1) fun v6 =>
        bnd (fX6_end N v6 F) fun v7 F3 =>
        sld L xs (l3 + 1) fun v8 =>
        bnd (fX7_end N v8 F3) fun v9 F4 =>
        if v7 = v9 then
          fL_law_b1504 N L xs (fun x3 F => fL_law_L18 N L xs n x3 F) l3 F4
        else
          some (0, F4)
      else
      if (v1 &&& 63) = 2 then
        bnd (fX6_text N F) fun v10 F5 =>
        bnd (fX7_text N F5) fun v11 F6 =>
        if v10 = v11 then
          fL_law_b1504 N L xs (fun x3 F => fL_law_L18 N L xs n x3 F) l3 F6
        else
          some (0, F6)
      else
      if (v1 &&& 63) = 3 then
        if (pX6_fault F) = (pX7_fault F) then
          fL_law_b1504 N L xs (fun x3 F => fL_law_L18 N L xs n x3 F) l3 F
        else
          some (0, F)
      else
      if (v1 &&& 63) = 4 then
        sld L xs (l3 + 1) fun v12 =>
        bnd (fX6_rule N v12 F) fun v13 F7 =>
        sld L xs (l3 + 1) fun v14 =>
        bnd (fX7_rule N v14 F7) fun v15 F8 =>
        if v13 = v15 then
          fL_law_b1504 N L xs (fun x3 F => fL_law_L18 N L xs n x3 F) l3 F8
        else
          some (0, F8)
      else
      if (v1 &&& 63) = 5 then
        sld L xs (l3 + 1) fun v16 =>
        sld L xs (l3 + 2) fun v17 =>
        bnd (fX6_shelf N v16 v17 F) fun v18 F9 =>
        sld L xs (l3 + 1) fun v19 =>
        sld L xs (l3 + 2) fun v20 =>
        bnd (fX7_shelf N v19 v20 F9) fun v21 F10 =>
        if v18 = v21 then
          fL_law_b1504 N L xs (fun x3 F => fL_law_L18 N L xs n x3 F) l3 F10
        else
          some (0, F10)
      else
      if (v1 &&& 63) = 6 then
        sld L xs (l3 + 1) fun v22 =>
        sld L xs (l3 + 2) fun v23 =>
        bnd (fX6_place N v22 v23 F) fun v24 F11 =>
        sld L xs (l3 + 1) fun v25 =>
        sld L xs (l3 + 2) fun v26 =>
        bnd (fX7_place N v25 v26 F11) fun v27 F12 =>
        if v24 = v27 then
          fL_law_b1504 N L xs (fun x3 F => fL_law_L18 N L xs n x3 F) l3 F12
        else
          some (0, F12)
      else
      if (v1 &&& 63) = 7 then
        sld L xs (l3 + 1) fun v28 =>
        bnd (fX6_want N v28 F) fun v29 F13 =>
        sld L xs (l3 + 1) fun v30 =>
        bnd (fX7_want N v30 F13) fun v31 F14 =>
        if v29 = v31 then
          fL_law_b1504 N L xs (fun x3 F => fL_law_L18 N L xs n x3 F) l3 F14
        else
          some (0, F14)
      else
      if (v1 &&& 63) = 8 then
        sld L xs (l3 + 1) fun v32 =>
        sld L xs (l3 + 2) fun v33 =>
        bnd (fX6_alter N v32 v33 F) fun v34 F15 =>
        sld L xs (l3 + 1) fun v35 =>
        sld L xs (l3 + 2) fun v36 =>
        bnd (fX7_alter N v35 v36 F15) fun v37 F16 =>
        if v34 = v37 then
          fL_law_b1504 N L xs (fun x3 F => fL_law_L18 N L xs n x3 F) l3 F16
        else
          some (0, F16)
      else
      if (v1 &&& 63) = 9 then
        sld L xs (l3 + 1) fun v38 =>
        bnd (fX6_put N v38 F) fun v39 F17 =>
        sld L xs (l3 + 1) fun v40 =>
        bnd (fX7_put N v40 F17) fun v41 F18 =>
        if v39 = v41 then
          fL_law_b1504 N L xs (fun x3 F => fL_law_L18 N L xs n x3 F) l3 F18
        else
          some (0, F18)
      else
      if (v1 &&& 63) = 10 then
        sld L xs (l3 + 1) fun v42 =>
        bnd (fX6_cut N v42 F) fun v43 F19 =>
        sld L xs (l3 + 1) fun v44 =>
        bnd (fX7_cut N v44 F19) fun v45 F20 =>
        if v43 = v45 then
          fL_law_b1504 N L xs (fun x3 F => fL_law_L18 N L xs n x3 F) l3 F20
        else
          some (0, F20)
      else
      if (v1 &&& 63) = 11 then
        sld L xs (l3 + 1) fun v46 =>
        sld L xs (l3 + 2) fun v47 =>
        sld L xs (l3 + 3) fun v48 =>
        bnd (fX6_stand N v46 v47 v48 F) fun v49 F21 =>
        sld L xs (l3 + 1) fun v50 =>
        sld L xs (l3 + 2) fun v51 =>
        sld L xs (l3 + 3) fun v52 =>
        bnd (fX7_stand N v50 v51 v52 F21) fun v53 F22 =>
        if v49 = v53 then
          fL_law_b1504 N L xs (fun x3 F => fL_law_L18 N L xs n x3 F) l3 F22
        else
          some (0, F22)
      else
      if (v1 &&& 63) = 12 then
        sld L xs (l3 + 1) fun v54 =>
        sld L xs (l3 + 2) fun v55 =>
        bnd (fX6_set N v54 v55 F) fun v56 F23 =>
        sld L xs (l3 + 1) fun v57 =>
        sld L xs (l3 + 2) fun v58 =>
        bnd (fX7_set N v57 v58 F23) fun v59 F24 =>
        if v56 = v59 then
          fL_law_b1504 N L xs (fun x3 F => fL_law_L18 N L xs n x3 F) l3 F24
        else
          some (0, F24)
      else
      if (v1 &&& 63) = 13 then
        sld L xs (l3 + 1) fun v60 =>
        bnd (fX6_add N v60 F) fun v61 F25 =>
        sld L xs (l3 + 1) fun v62 =>
        bnd (fX7_add N v62 F25) fun v63 F26 =>
        if v61 = v63 then
          fL_law_b1504 N L xs (fun x3 F => fL_law_L18 N L xs n x3 F) l3 F26
        else
          some (0, F26)
      else
      if (v1 &&& 63) = 14 then
        sld L xs (l3 + 1) fun v64 =>
        bnd (fX6_drop N v64 F) fun v65 F27 =>
        sld L xs (l3 + 1) fun v66 =>
        bnd (fX7_drop N v66 F27) fun v67 F28 =>
        if v65 = v67 then
          fL_law_b1504 N L xs (fun x3 F => fL_law_L18 N L xs n x3 F) l3 F28
        else
          some (0, F28)
      else
      if (v1 &&& 63) = 15 then
        sld L xs (l3 + 1) fun v68 =>
        bnd (fX6_take N v68 F) fun v69 F29 =>
        sld L xs (l3 + 1) fun v70 =>
        bnd (fX7_take N v70 F29) fun v71 F30 =>
        if v69 = v71 then
          fL_law_b1504 N L xs (fun x3 F => fL_law_L18 N L xs n x3 F) l3 F30
        else
          some (0, F30)
      else
      if (v1 &&& 63) = 16 then
        sld L xs (l3 + 1) fun v72 =>
        bnd (fX6_steps N v72 F) fun v73 F31 =>
        sld L xs (l3 + 1) fun v74 =>
        bnd (fX7_steps N v74 F31) fun v75 F32 =>
        if v73 = v75 then
          fL_law_b1504 N L xs (fun x3 F => fL_law_L18 N L xs n x3 F) l3 F32
        else
          some (0, F32)
      else
      if (v1 &&& 63) = 17 then
        sld L xs (l3 + 1) fun v76 =>
        sld L xs (l3 + 2) fun v77 =>
        bnd (fX6_runs N v76 v77 F) fun v78 F33 =>
        sld L xs (l3 + 1) fun v79 =>
        sld L xs (l3 + 2) fun v80 =>
        bnd (fX7_runs N v79 v80 F33) fun v81 F34 =>
        if v78 = v81 then
          fL_law_b1504 N L xs (fun x3 F => fL_law_L18 N L xs n x3 F) l3 F34
        else
          some (0, F34)
      else
      if (v1 &&& 63) = 18 then
        sld L xs (l3 + 1) fun v82 =>
        sld L xs (l3 + 2) fun v83 =>
        bnd (fX6_paid N v82 v83 F) fun v84 F35 =>
        sld L xs (l3 + 1) fun v85 =>
        sld L xs (l3 + 2) fun v86 =>
        bnd (fX7_paid N v85 v86 F35) fun v87 F36 =>
        if v84 = v87 then
          fL_law_b1504 N L xs (fun x3 F => fL_law_L18 N L xs n x3 F) l3 F36
        else
          some (0, F36)
      else
      if (v1 &&& 63) = 19 then
        sld L xs (l3 + 1) fun v88 =>
        sld L xs (l3 + 2) fun v89 =>
        sld L xs (l3 + 3) fun v90 =>
        bnd (fX6_ahead N v88 v89 v90 F) fun v91 F37 =>
        sld L xs (l3 + 1) fun v92 =>
        sld L xs (l3 + 2) fun v93 =>
        sld L xs (l3 + 3) fun v94 =>
        bnd (fX7_ahead N v92 v93 v94 F37) fun v95 F38 =>
        if v91 = v95 then
          fL_law_b1504 N L xs (fun x3 F => fL_law_L18 N L xs n x3 F) l3 F38
        else
          some (0, F38)
      else
      if (v1 &&& 63) = 20 then
        sld L xs (l3 + 1) fun v96 =>
        sld L xs (l3 + 2) fun v97 =>
        bnd (fX6_when N v96 v97 F) fun v98 F39 =>
        sld L xs (l3 + 1) fun v99 =>
        sld L xs (l3 + 2) fun v100 =>
        bnd (fX7_when N v99 v100 F39) fun v101 F40 =>
        if v98 = v101 then
          fL_law_b1504 N L xs (fun x3 F => fL_law_L18 N L xs n x3 F) l3 F40
        else
          some (0, F40)
      else
      if (v1 &&& 63) = 21 then
        bnd (fX6_again N F) fun v102 F41 =>
        bnd (fX7_again N F41) fun v103 F42 =>
        if v102 = v103 then
          fL_law_b1504 N L xs (fun x3 F => fL_law_L18 N L xs n x3 F) l3 F42
        else
          some (0, F42)
      else
      if (v1 &&& 63) = 22 then
        sld L xs (l3 + 1) fun v104 =>
        sld L xs (l3 + 2) fun v105 =>
        bnd (fX6_order N v104 v105 F) fun v106 F43 =>
        sld L xs (l3 + 1) fun v107 =>
        sld L xs (l3 + 2) fun v108 =>
        bnd (fX7_order N v107 v108 F43) fun v109 F44 =>
        if v106 = v109 then
          fL_law_b1504 N L xs (fun x3 F => fL_law_L18 N L xs n x3 F) l3 F44
        else
          some (0, F44)
      else
      if (v1 &&& 63) = 23 then
        sld L xs (l3 + 1) fun v110 =>
        sld L xs (l3 + 2) fun v111 =>
        sld L xs (l3 + 3) fun v112 =>
        bnd (fX6_kind N v110 v111 v112 F) fun v113 F45 =>
        sld L xs (l3 + 1) fun v114 =>
        sld L xs (l3 + 2) fun v115 =>
        sld L xs (l3 + 3) fun v116 =>
        bnd (fX7_kind N v114 v115 v116 F45) fun v117 F46 =>
        if v113 = v117 then
          fL_law_b1504 N L xs (fun x3 F => fL_law_L18 N L xs n x3 F) l3 F46
        else
          some (0, F46)
      else
      if (v1 &&& 63) = 24 then
        sld L xs (l3 + 1) fun v118 =>
        sld L xs (l3 + 2) fun v119 =>
        sld L xs (l3 + 3) fun v120 =>
        bnd (fX6_first N v118 v119 v120 F) fun v121 F47 =>
        sld L xs (l3 + 1) fun v122 =>
        sld L xs (l3 + 2) fun v123 =>
        sld L xs (l3 + 3) fun v124 =>
        bnd (fX7_first N v122 v123 v124 F47) fun v125 F48 =>
        if v121 = v125 then
          fL_law_b1504 N L xs (fun x3 F => fL_law_L18 N L xs n x3 F) l3 F48
        else
          some (0, F48)
      else
      if (v1 &&& 63) = 25 then
        sld L xs (l3 + 1) fun v126 =>
        sld L xs (l3 + 2) fun v127 =>
        bnd (fX6_swap N v126 v127 F) fun v128 F49 =>
        sld L xs (l3 + 1) fun v129 =>
        sld L xs (l3 + 2) fun v130 =>
        bnd (fX7_swap N v129 v130 F49) fun v131 F50 =>
        if v128 = v131 then
          fL_law_b1504 N L xs (fun x3 F => fL_law_L18 N L xs n x3 F) l3 F50
        else
          some (0, F50)
      else
      if (v1 &&& 63) = 26 then
        sld L xs (l3 + 1) fun v132 =>
        sld L xs (l3 + 2) fun v133 =>
        bnd (fX6_lose N v132 v133 F) fun v134 F51 =>
        sld L xs (l3 + 1) fun v135 =>
        sld L xs (l3 + 2) fun v136 =>
        bnd (fX7_lose N v135 v136 F51) fun v137 F52 =>
        if v134 = v137 then
          fL_law_b1504 N L xs (fun x3 F => fL_law_L18 N L xs n x3 F) l3 F52
        else
          some (0, F52)
      else
      if (v1 &&& 63) = 27 then
        sld L xs (l3 + 1) fun v138 =>
        sld L xs (l3 + 2) fun v139 =>
        sld L xs (l3 + 3) fun v140 =>
        sld L xs (l3 + 4) fun v141 =>
        sld L xs (l3 + 5) fun v142 =>
        bnd (fX6_luck N v138 v139 v140 v141 v142 F) fun v143 F53 =>
        sld L xs (l3 + 1) fun v144 =>
        sld L xs (l3 + 2) fun v145 =>
        sld L xs (l3 + 3) fun v146 =>
        sld L xs (l3 + 4) fun v147 =>
        sld L xs (l3 + 5) fun v148 =>
        bnd (fX7_luck N v144 v145 v146 v147 v148 F53) fun v149 F54 =>
        if (lg_cmp v143 v149) = 0 then
          fL_law_b1504 N L xs (fun x3 F => fL_law_L18 N L xs n x3 F) l3 F54
        else
          some (0, F54)
      else
      if (v1 &&& 63) = 28 then
        sld L xs (l3 + 1) fun v150 =>
        sld L xs (l3 + 2) fun v151 =>
        sld L xs (l3 + 3) fun v152 =>
        bnd (fX6_mean N v150 v151 v152 F) fun v153 F55 =>
        sld L xs (l3 + 1) fun v154 =>
        sld L xs (l3 + 2) fun v155 =>
        sld L xs (l3 + 3) fun v156 =>
        bnd (fX7_mean N v154 v155 v156 F55) fun v157 F56 =>
        if (lg_cmp v153 v157) = 0 then
          fL_law_b1504 N L xs (fun x3 F => fL_law_L18 N L xs n x3 F) l3 F56
        else
          some (0, F56)
      else
      if (v1 &&& 63) = 29 then
        sld L xs (l3 + 1) fun v158 =>
        sld L xs (l3 + 2) fun v159 =>
        sld L xs (l3 + 3) fun v160 =>
        bnd (fX6_see N v158 v159 v160 F) fun v161 F57 =>
        sld L xs (l3 + 1) fun v162 =>
        sld L xs (l3 + 2) fun v163 =>
        sld L xs (l3 + 3) fun v164 =>
        bnd (fX7_see N v162 v163 v164 F57) fun v165 F58 =>
        if v161 = v165 then
          fL_law_b1504 N L xs (fun x3 F => fL_law_L18 N L xs n x3 F) l3 F58
        else
          some (0, F58)
      else
      if (v1 &&& 63) = 30 then
        sld L xs (l3 + 1) fun v166 =>
        bnd (fX6_forget N v166 F) fun v167 F59 =>
        sld L xs (l3 + 1) fun v168 =>
        bnd (fX7_forget N v168 F59) fun v169 F60 =>
        if v167 = v169 then
          fL_law_b1504 N L xs (fun x3 F => fL_law_L18 N L xs n x3 F) l3 F60
        else
          some (0, F60)
      else
      if (v1 &&& 63) = 31 then
        sld L xs (l3 + 1) fun v170 =>
        bnd (fX6_kinds N v170 F) fun v171 F61 =>
        sld L xs (l3 + 1) fun v172 =>
        bnd (fX7_kinds N v172 F61) fun v173 F62 =>
        if v171 = v173 then
          fL_law_b1504 N L xs (fun x3 F => fL_law_L18 N L xs n x3 F) l3 F62
        else
          some (0, F62)
      else
      if (v1 &&& 63) = 32 then
        sld L xs (l3 + 1) fun v174 =>
        bnd (fX6_books N v174 F) fun v175 F63 =>
        sld L xs (l3 + 1) fun v176 =>
        bnd (fX7_books N v176 F63) fun v177 F64 =>
        if v175 = v177 then
          fL_law_b1504 N L xs (fun x3 F => fL_law_L18 N L xs n x3 F) l3 F64
        else
          some (0, F64)
      else
      if (v1 &&& 63) = 33 then
        sld L xs (l3 + 1) fun v178 =>
        sld L xs (l3 + 2) fun v179 =>
        bnd (fX6_ask N v178 v179 F) fun v180 F65 =>
        sld L xs (l3 + 1) fun v181 =>
        sld L xs (l3 + 2) fun v182 =>
        bnd (fX7_ask N v181 v182 F65) fun v183 F66 =>
        if v180 = v183 then
          fL_law_b1504 N L xs (fun x3 F => fL_law_L18 N L xs n x3 F) l3 F66
        else
          some (0, F66)
      else
      if (v1 &&& 63) = 34 then
        sld L xs (l3 + 1) fun v184 =>
        sld L xs (l3 + 2) fun v185 =>
        sld L xs (l3 + 3) fun v186 =>
        bnd (fX6_drift N v184 v185 v186 F) fun v187 F67 =>
        sld L xs (l3 + 1) fun v188 =>
        sld L xs (l3 + 2) fun v189 =>
        sld L xs (l3 + 3) fun v190 =>
        bnd (fX7_drift N v188 v189 v190 F67) fun v191 F68 =>
        if v187 = v191 then
          fL_law_b1504 N L xs (fun x3 F => fL_law_L18 N L xs n x3 F) l3 F68
        else
          some (0, F68)
      else
      if (v1 &&& 63) = 35 then
        sld L xs (l3 + 1) fun v192 =>
        bnd (fX6_keep N v192 F) fun v193 F69 =>
        sld L xs (l3 + 1) fun v194 =>
        bnd (fX7_keep N v194 F69) fun v195 F70 =>
        if v193 = v195 then
          fL_law_b1504 N L xs (fun x3 F => fL_law_L18 N L xs n x3 F) l3 F70
        else
          some (0, F70)
      else
      if (v1 &&& 63) = 36 then
        sld L xs (l3 + 1) fun v196 =>
        bnd (fX6_back N v196 F) fun v197 F71 =>
        sld L xs (l3 + 1) fun v198 =>
        bnd (fX7_back N v198 F71) fun v199 F72 =>
        if v197 = v199 then
          fL_law_b1504 N L xs (fun x3 F => fL_law_L18 N L xs n x3 F) l3 F72
        else
          some (0, F72)
      else
      if (v1 &&& 63) = 37 then
        sld L xs (l3 + 1) fun v200 =>
        sld L xs (l3 + 2) fun v201 =>
        sld L xs (l3 + 3) fun v202 =>
        bnd (fX6_sheet N v200 v201 v202 F) fun v203 F73 =>
        sld L xs (l3 + 1) fun v204 =>
        sld L xs (l3 + 2) fun v205 =>
        sld L xs (l3 + 3) fun v206 =>
        bnd (fX7_sheet N v204 v205 v206 F73) fun v207 F74 =>
        if v203 = v207 then
          fL_law_b1504 N L xs (fun x3 F => fL_law_L18 N L xs n x3 F) l3 F74
        else
          some (0, F74)
      else
      if (v1 &&& 63) = 38 then
        sld L xs (l3 + 1) fun v208 =>
        sld L xs (l3 + 2) fun v209 =>
        sld L xs (l3 + 3) fun v210 =>
        bnd (fX6_lay N v208 v209 v210 F) fun v211 F75 =>
        sld L xs (l3 + 1) fun v212 =>
        sld L xs (l3 + 2) fun v213 =>
        sld L xs (l3 + 3) fun v214 =>
        bnd (fX7_lay N v212 v213 v214 F75) fun v215 F76 =>
        if v211 = v215 then
          fL_law_b1504 N L xs (fun x3 F => fL_law_L18 N L xs n x3 F) l3 F76
        else
          some (0, F76)
      else
      if (v1 &&& 63) = 39 then
        sld L xs (l3 + 1) fun v216 =>
        sld L xs (l3 + 2) fun v217 =>
        sld L xs (l3 + 3) fun v218 =>
        sld L xs (l3 + 4) fun v219 =>
        bnd (fX6_read N v216 v217 v218 v219 F) fun v220 F77 =>
        sld L xs (l3 + 1) fun v221 =>
        sld L xs (l3 + 2) fun v222 =>
        sld L xs (l3 + 3) fun v223 =>
        sld L xs (l3 + 4) fun v224 =>
        bnd (fX7_read N v221 v222 v223 v224 F77) fun v225 F78 =>
        if v220 = v225 then
          fL_law_b1504 N L xs (fun x3 F => fL_law_L18 N L xs n x3 F) l3 F78
        else
          some (0, F78)
      else
      if (v1 &&& 63) = 40 then
        if (pX6_torn F) = (pX7_torn F) then
          fL_law_b1504 N L xs (fun x3 F => fL_law_L18 N L xs n x3 F) l3 F
        else
          some (0, F)
      else
      if (v1 &&& 63) = 41 then
        sld L xs (l3 + 1) fun v226 =>
        bnd (fX6_count N v226 F) fun v227 F79 =>
        sld L xs (l3 + 1) fun v228 =>
        bnd (fX7_count N v228 F79) fun v229 F80 =>
        if v227 = v229 then
          fL_law_b1504 N L xs (fun x3 F => fL_law_L18 N L xs n x3 F) l3 F80
        else
          some (0, F80)
      else
        fL_law_b1504 N L xs (fun x3 F => fL_law_L18 N L xs n x3 F) l3 F
def fL_law (N : Nat) (L : Nat) (xs : Nat → Int32) (F : FF) : Option (Int32 × FF) :=
  fL_law_L18 N L xs N 0 F
