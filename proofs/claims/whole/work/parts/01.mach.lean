/-! THE PURE MACHINE: values, cells, one instruction, a run by fuel; what a run says of any end ('wp') -/
abbrev pv : Type := (Int ⊕ Int) ⊕ Option Nat
abbrev vI (x : Int) : pv := .inl (.inl x)
abbrev vL (x : Int) : pv := .inl (.inr x)
abbrev vR (k : Nat) : pv := .inr (some k)
abbrev vN : pv := .inr none
/-- an array: kind (0 int, 1 byte, 2 boolean, 3 long), length, contents; an object: class, fields -/
abbrev pcell : Type := (Nat × Nat × (Nat → Int)) ⊕ (Nat × List pv)
abbrev cA (t n : Nat) (f : Nat → Int) : pcell := .inl (t, n, f)
abbrev cO (c : Nat) (fs : List pv) : pcell := .inr (c, fs)
/-- how many cells were made, how many slots, what lies where -/
abbrev pheap : Type := Nat × Nat × (Nat → pcell)
abbrev PI : Type := Nat × List Nat × Int
abbrev plocs : Type := List (Option pv)
def w32 (x : Int) : Int := (Int32.ofInt x).toInt
def w64 (x : Int) : Int := (Int64.ofInt x).toInt
def i_div (a b : Int) : Int := (Int32.ofInt a / Int32.ofInt b).toInt
def i_rem (a b : Int) : Int := (Int32.ofInt a - Int32.ofInt a / Int32.ofInt b * Int32.ofInt b).toInt
def i_shl (a b : Int) : Int := (Int32.ofInt a <<< (Int32.ofInt b &&& 31)).toInt
def i_shr (a b : Int) : Int := (Int32.ofInt a >>> (Int32.ofInt b &&& 31)).toInt
def i_ushr (a b : Int) : Int := (((Int32.ofInt a).toUInt32 >>> ((Int32.ofInt b).toUInt32 &&& Int32.toUInt32 31)).toInt32).toInt
def i_and (a b : Int) : Int := (Int32.ofInt a &&& Int32.ofInt b).toInt
def i_or (a b : Int) : Int := (Int32.ofInt a ||| Int32.ofInt b).toInt
def i_xor (a b : Int) : Int := (Int32.ofInt a ^^^ Int32.ofInt b).toInt
def l_div (a b : Int) : Int := (Int64.ofInt a / Int64.ofInt b).toInt
def l_rem (a b : Int) : Int := (Int64.ofInt a - Int64.ofInt a / Int64.ofInt b * Int64.ofInt b).toInt
def l_and (a b : Int) : Int := (Int64.ofInt a &&& Int64.ofInt b).toInt
def l_cmp (a b : Int) : Int := (lg_cmp (Int64.ofInt a) (Int64.ofInt b)).toInt
def i_byte (a : Int) : Int := (Int32.ofInt a).toInt8.toInt32.toInt
def i_char (a : Int) : Int := (((Int32.ofInt a).toUInt32 % 65536).toInt32).toInt
def a_nar (t : Nat) (a : Int) : Int := if t = 1 then (vp_nar .byte (Int32.ofInt a)).toInt else if t = 2 then (vp_nar .boolean (Int32.ofInt a)).toInt else a
def ix (i : Int) : Nat := (Int32.ofInt i).toNatClampNeg
def inx (i : Int) (n : Nat) : Bool := decide (¬ (Int32.ofInt i < 0 ∨ n ≤ (Int32.ofInt i).toNatClampNeg))
def updI (f : Nat → Int) (k : Nat) (x : Int) : Nat → Int := fun j => if j = k then x else f j
def updC (f : Nat → pcell) (k : Nat) (x : pcell) : Nat → pcell := fun j => if j = k then x else f j
/-- 0 eq, 1 ne, 2 lt, 3 ge, 4 gt, 5 le -/
def icnd (c : Nat) (a b : Int) : Bool :=
  if c = 0 then decide (w32 a = w32 b) else if c = 1 then decide (w32 a ≠ w32 b) else if c = 2 then decide (w32 a < w32 b)
  else if c = 3 then decide (w32 b ≤ w32 a) else if c = 4 then decide (w32 b < w32 a) else decide (w32 a ≤ w32 b)
def kl : Option pv → Option pv
  | some (.inl (.inr _)) => none
  | o => o
/-- a store into a local: a long that begins at the place before is gone -/
def sto : plocs → Nat → Option pv → plocs
  | [], _, _ => []
  | _ :: t, 0, x => x :: t
  | a :: t, 1, x => kl a :: sto t 0 x
  | a :: t, n + 2, x => a :: sto t (n + 1) x
def ent1 : List pv → plocs
  | [] => []
  | .inl (.inr x) :: t => some (vL x) :: none :: ent1 t
  | v :: t => some v :: ent1 t
def ent (mx : Nat) (as : List pv) : plocs := ent1 as ++ List.replicate (mx - (ent1 as).length) none
def vcat : pv → Nat
  | .inl (.inr _) => 2
  | _ => 1
def scat : List pv → Nat
  | [] => 0
  | v :: t => vcat v + scat t
/-- constants, locals, stack -/
def sA (op : Nat) (as : List Nat) (z : Int) (ls : plocs) (st : List pv) : Option (plocs × List pv) :=
  if op = 0 then some (ls, vI z :: st)
  else if op = 1 then some (ls, vL z :: st)
  else if op = 2 then some (ls, vN :: st)
  else if op = 3 then match as with
    | [i] => match ls[i]? with | some (some (.inl (.inl x))) => some (ls, vI x :: st) | _ => none
    | _ => none
  else if op = 4 then match as with
    | [i] => match ls[i]? with | some (some (.inl (.inr x))) => some (ls, vL x :: st) | _ => none
    | _ => none
  else if op = 5 then match as with
    | [i] => match ls[i]? with | some (some (.inr x)) => some (ls, .inr x :: st) | _ => none
    | _ => none
  else if op = 6 then match as, st with
    | [i], .inl (.inl x) :: st => if i < ls.length then some (sto ls i (some (vI x)), st) else none
    | _, _ => none
  else if op = 7 then match as, st with
    | [i], .inl (.inr x) :: st => if i + 1 < ls.length then some (sto (sto ls (i + 1) none) i (some (vL x)), st) else none
    | _, _ => none
  else if op = 8 then match as, st with
    | [i], .inr x :: st => if i < ls.length then some (sto ls i (some (.inr x)), st) else none
    | _, _ => none
  else if op = 9 then match as with
    | [i] => match ls[i]? with | some (some (.inl (.inl x))) => some (sto ls i (some (vI (x + z))), st) | _ => none
    | _ => none
  else if op = 10 then match st with
    | .inl (.inr _) :: _ => none
    | v :: st => some (ls, v :: v :: st)
    | _ => none
  else if op = 11 then match st with
    | .inl (.inr _) :: _ => none
    | _ :: .inl (.inr _) :: _ => none
    | v :: w :: st => some (ls, v :: w :: v :: w :: st)
    | _ => none
  else if op = 12 then match st with
    | .inl (.inr _) :: _ => none
    | _ :: st => some (ls, st)
    | _ => none
  else if op = 13 then match st with
    | .inl (.inr _) :: st => some (ls, st)
    | _ => none
  else none
/-- whole numbers -/
def sB (op : Nat) (st : List pv) : Option (List pv) :=
  if op = 35 then match st with | .inl (.inl a) :: st => some (vI (-a) :: st) | _ => none
  else if op = 36 then match st with | .inl (.inl a) :: st => some (vI (i_byte a) :: st) | _ => none
  else if op = 37 then match st with | .inl (.inl a) :: st => some (vL (w32 a) :: st) | _ => none
  else if op = 38 then match st with | .inl (.inl a) :: st => some (vI (i_char a) :: st) | _ => none
  else match st with
  | .inl (.inl b) :: .inl (.inl a) :: st =>
    if op = 20 then some (vI (a + b) :: st)
    else if op = 21 then some (vI (a - b) :: st)
    else if op = 22 then some (vI (a * b) :: st)
    else if op = 23 then if w32 b = 0 then none else some (vI (i_div a b) :: st)
    else if op = 24 then if w32 b = 0 then none else some (vI (i_rem a b) :: st)
    else if op = 25 then some (vI (i_shl a b) :: st)
    else if op = 26 then some (vI (i_shr a b) :: st)
    else if op = 27 then some (vI (i_ushr a b) :: st)
    else if op = 28 then some (vI (i_and a b) :: st)
    else if op = 29 then some (vI (i_or a b) :: st)
    else if op = 30 then some (vI (i_xor a b) :: st)
    else none
  | _ => none
def sC (op : Nat) (st : List pv) : Option (List pv) :=
  if op = 55 then match st with | .inl (.inr a) :: st => some (vL (-a) :: st) | _ => none
  else if op = 56 then match st with | .inl (.inr a) :: st => some (vI a :: st) | _ => none
  else match st with
  | .inl (.inr b) :: .inl (.inr a) :: st =>
    if op = 40 then some (vL (a + b) :: st)
    else if op = 41 then some (vL (a - b) :: st)
    else if op = 42 then some (vL (a * b) :: st)
    else if op = 43 then if w64 b = 0 then none else some (vL (l_div a b) :: st)
    else if op = 44 then if w64 b = 0 then none else some (vL (l_rem a b) :: st)
    else if op = 45 then some (vL (l_and a b) :: st)
    else if op = 46 then some (vI (l_cmp a b) :: st)
    else none
  | _ => none
/-- what a field of a kind takes: 0 int, 1 boolean, 2 long, 3 a reference -/
def fok (t : Nat) : pv → Bool
  | .inl (.inl x) => decide (t = 0) || (decide (t = 1) && (decide (x = 0) || decide (x = 1)))
  | .inl (.inr _) => decide (t = 2)
  | .inr _ => decide (t = 3)
def dflt (t : Nat) : pv := if t = 2 then vL 0 else if t = 3 then vN else vI 0
/-- cells: below 32 lie those that stood at the start, which nobody writes -/
def sE (op : Nat) (as : List Nat) (st : List pv) (h : pheap) : Option (List pv × pheap) :=
  if op = 60 then match as, st with
    | [k, c], .inr (some a) :: st => if 32 ≤ a ∧ a < 32 + h.1 then match h.2.2 a with
      | .inr (c', fs) => if c' = c then match fs[k]? with | some v => some (v :: st, h) | none => none else none
      | _ => none
      else none
    | _, _ => none
  else if op = 61 then match as, st with
    | [k, t, c], v :: .inr (some a) :: st => if 32 ≤ a ∧ a < 32 + h.1 ∧ fok t v = true then match h.2.2 a with
      | .inr (c', fs) => if c' = c ∧ k < fs.length then some (st, (h.1, h.2.1, updC h.2.2 a (.inr (c, fs.set k v)))) else none
      | _ => none
      else none
    | _, _ => none
  else if op = 62 then match st with
    | .inl (.inl i) :: .inr (some a) :: st => if 32 ≤ a ∧ a < 32 + h.1 then match h.2.2 a with
      | .inl (0, n, f) => if inx i n = true then some (vI (f (ix i)) :: st, h) else none
      | _ => none
      else none
    | _ => none
  else if op = 63 then match st with
    | .inl (.inl x) :: .inl (.inl i) :: .inr (some a) :: st => if 32 ≤ a ∧ a < 32 + h.1 then match h.2.2 a with
      | .inl (0, n, f) => if inx i n = true then some (st, (h.1, h.2.1, updC h.2.2 a (.inl (0, n, updI f (ix i) x)))) else none
      | _ => none
      else none
    | _ => none
  else if op = 64 then match st with
    | .inl (.inl i) :: .inr (some a) :: st => if 32 ≤ a ∧ a < 32 + h.1 then match h.2.2 a with
      | .inl (3, n, f) => if inx i n = true then some (vL (f (ix i)) :: st, h) else none
      | _ => none
      else none
    | _ => none
  else if op = 65 then match st with
    | .inl (.inr x) :: .inl (.inl i) :: .inr (some a) :: st => if 32 ≤ a ∧ a < 32 + h.1 then match h.2.2 a with
      | .inl (3, n, f) => if inx i n = true then some (st, (h.1, h.2.1, updC h.2.2 a (.inl (3, n, updI f (ix i) x)))) else none
      | _ => none
      else none
    | _ => none
  else if op = 66 then match st with
    | .inl (.inl i) :: .inr (some a) :: st => if 32 ≤ a ∧ a < 32 + h.1 then match h.2.2 a with
      | .inl (1, n, f) => if inx i n = true then some (vI (f (ix i)) :: st, h) else none
      | .inl (2, n, f) => if inx i n = true then some (vI (f (ix i)) :: st, h) else none
      | _ => none
      else none
    | _ => none
  else if op = 67 then match st with
    | .inl (.inl x) :: .inl (.inl i) :: .inr (some a) :: st => if 32 ≤ a ∧ a < 32 + h.1 then match h.2.2 a with
      | .inl (1, n, f) => if inx i n = true then some (st, (h.1, h.2.1, updC h.2.2 a (.inl (1, n, updI f (ix i) (a_nar 1 x))))) else none
      | .inl (2, n, f) => if inx i n = true then some (st, (h.1, h.2.1, updC h.2.2 a (.inl (2, n, updI f (ix i) (a_nar 2 x))))) else none
      | _ => none
      else none
    | _ => none
  else if op = 68 then match st with
    | .inr (some a) :: st => if 32 ≤ a ∧ a < 32 + h.1 then match h.2.2 a with
      | .inl (t, n, _) => if t < 4 then some (vI n :: st, h) else none
      | _ => none
      else none
    | _ => none
  else if op = 69 then match as with
    | c :: _ :: ts => some (vR (32 + h.1) :: st, (h.1 + 1, h.2.1 + ts.length, updC h.2.2 (32 + h.1) (.inr (c, ts.map dflt))))
    | _ => none
  else if op = 70 then match as, st with
    | [t], .inl (.inl n) :: st => if 0 ≤ n ∧ n ≤ 100000 ∧ t ≤ 3 then some (vR (32 + h.1) :: st, (h.1 + 1, h.2.1 + n.toNat, updC h.2.2 (32 + h.1) (.inl (t, n.toNat, fun _ => 0)))) else none
    | _, _ => none
  else none
/-- what stood at the start: 0 the law's script, 1 to 19 the words (packed, kind, number), 20 the row of the words, 21 how closely signs bind, 22 the text of the words -/
def sPack : List Int := [135728306, 526567424, 719459904, 650428416, 642945024, 404455424, 438075392, 754679808, 418892974, 522190848, 48365568, 486146048, 36165792, 72761056, 549489824, 83300352, 437740544, 408113152, 844154880]
def sKind : List Int := [0, 0, 0, 0, 0, 0, 1, 1, 1, 2, 2, 2, 3, 3, 3, 3, 3, 3, 3]
def sNum : List Int := [0, 0, 0, 0, 0, 0, 0, 1, 2, 0, 1, 2, 0, 1, 2, 3, 4, 5, 6]
def sClo : List Int := [1, 2, 3, 4, 4, 4, 4, 4, 4, 5, 5, 6, 6, 0, 0, 0]
def sTxt : List Int := [100, 97, 110, 99, 101, 114, 32, 111, 118, 101, 114, 32, 117, 110, 100, 101, 114, 32, 115, 108, 105, 112, 32, 115, 101, 101, 100, 32, 108, 97, 119, 32, 109, 97, 121, 32, 118, 111, 119, 32, 108, 111, 111, 115, 101, 110, 32, 111, 114, 32, 97, 110, 100, 32, 110, 111, 116, 32, 97, 98, 111, 118, 101, 32, 98, 101, 108, 111, 119, 32, 112, 108, 97, 99, 101, 32, 98, 111, 110, 100, 32, 109, 97, 110, 121, 32, 108, 101, 102, 116, 32, 121, 101, 97, 114, 32]
def sS (op : Nat) (as : List Nat) (st : List pv) (h : pheap) : Option (List pv × pheap) :=
  if op = 80 then match as with
    | s :: _ => if s < 23 then some (vR s :: st, h) else none
    | _ => none
  else if op = 81 then match as, st with
    | [k], .inr (some a) :: st => if 1 ≤ a ∧ a < 20 then some (vI ((if k = 0 then sPack else if k = 1 then sKind else sNum).getD (a - 1) 0) :: st, h) else none
    | _, _ => none
  else if op = 82 then match st with
    | .inl (.inl i) :: .inr (some a) :: st => if a = 20 ∧ inx i 19 = true then some (vR (1 + ix i) :: st, h) else none
    | _ => none
  else if op = 83 then match as, st with
    | [0], .inl (.inl i) :: .inr (some a) :: st => if a = 0 then match h.2.2 0 with
      | .inl (0, n, f) => if inx i n = true then some (vI (f (ix i)) :: st, h) else none
      | _ => none
      else none
    | [21], .inl (.inl i) :: .inr (some a) :: st => if a = 21 ∧ inx i 16 = true then some (vI (sClo.getD (ix i) 0) :: st, h) else none
    | _, _ => none
  else if op = 85 then match as, st with
    | [0], .inr (some a) :: st => if a = 22 then some (vR 23 :: st, h) else none
    | [1], .inr (some a) :: st => if a = 22 then some (vI 0 :: st, h) else none
    | _, _ => none
  else if op = 86 then some (vI 1 :: st, h)
  else if op = 87 then match st with
    | .inl (.inl i) :: .inr (some a) :: st => if a = 23 ∧ inx i 96 = true then some (vI (sTxt.getD (ix i) 0) :: st, h) else none
    | _ => none
  else if op = 84 then match as, st with
    | [0], .inr (some a) :: st => if a = 0 then match h.2.2 0 with
      | .inl (0, n, _) => some (vI n :: st, h)
      | _ => none
      else none
    | [20], .inr (some a) :: st => if a = 20 then some (vI 19 :: st, h) else none
    | [21], .inr (some a) :: st => if a = 21 then some (vI 16 :: st, h) else none
    | [23], .inr (some a) :: st => if a = 23 then some (vI 96 :: st, h) else none
    | _, _ => none
  else none
def i_max (a b : Int) : Int := if w32 a < w32 b then b else a
def i_min (a b : Int) : Int := if w32 b < w32 a then b else a
def i_abs (a : Int) : Int := if 0 ≤ w32 a then a else 0 - a
def l_max (a b : Int) : Int := if w64 b < w64 a then a else b
def l_min (a b : Int) : Int := if w64 b < w64 a then b else a
def l_abs (a : Int) : Int := if 0 < w64 a then a else -a
/-- calls of members that aren't walked: Math's, String's, Object.<init> -/
def sM (op : Nat) (st : List pv) : Option (List pv × List pv) :=
  if op = 121 then match st with | .inl (.inl b) :: .inl (.inl a) :: st => some ([vI (i_max a b)], st) | _ => none
  else if op = 122 then match st with | .inl (.inl b) :: .inl (.inl a) :: st => some ([vI (i_min a b)], st) | _ => none
  else if op = 123 then match st with | .inl (.inl a) :: st => some ([vI (i_abs a)], st) | _ => none
  else if op = 124 then match st with | .inl (.inr b) :: .inl (.inr a) :: st => some ([vL (l_max a b)], st) | _ => none
  else if op = 125 then match st with | .inl (.inr b) :: .inl (.inr a) :: st => some ([vL (l_min a b)], st) | _ => none
  else if op = 126 then match st with | .inl (.inr a) :: st => some ([vL (l_abs a)], st) | _ => none
  else if op = 127 then match st with | .inl (.inl n) :: .inl (.inl i) :: st => if 0 ≤ i ∧ i < n ∧ n < 1000 then some ([], st) else none | _ => none
  else if op = 129 then match st with | .inr (some _) :: st => some ([], st) | _ => none
  else none
def s1 (op : Nat) (as : List Nat) (z : Int) (ls : plocs) (st : List pv) (h : pheap) : Option (plocs × List pv × pheap) :=
  if op < 20 then match sA op as z ls st with | some (l, s) => some (l, s, h) | none => none
  else if op < 40 then match sB op st with | some s => some (ls, s, h) | none => none
  else if op < 60 then match sC op st with | some s => some (ls, s, h) | none => none
  else if op < 80 then match sE op as st h with | some (s, h) => some (ls, s, h) | none => none
  else match sS op as st h with | some (s, h) => some (ls, s, h) | none => none
def lsw (x : Int) (dflt : Nat) : List Nat → Nat
  | k :: b :: t => if w32 x = (k : Int) then b else lsw x dflt t
  | _ => dflt
def rok (x : Option Nat) : Bool := match x with | none => true | some k => (decide (1 ≤ k) && decide (k < 20)) || decide (32 ≤ k)
/-- jumps: to a block, or on -/
def jmp (op : Nat) (as : List Nat) (z : Int) (st : List pv) : Option (Option Nat × List pv) :=
  if op = 100 then match as with | [b] => some (some b, st) | _ => none
  else if op = 101 then match as, st with | [c, b], .inl (.inl x) :: st => some (if icnd c x 0 then some b else none, st) | _, _ => none
  else if op = 102 then match as, st with | [c, b], .inl (.inl y) :: .inl (.inl x) :: st => some (if icnd c x y then some b else none, st) | _, _ => none
  else if op = 103 then match as, st with | [c, b], .inr y :: .inr x :: st => if (rok x && rok y) = false then none else some (if (decide (c = 0)) = (decide (x = y)) then some b else none, st) | _, _ => none
  else if op = 104 then match as, st with | [c, b], .inr x :: st => some (if (decide (c = 0)) = (decide (x = none)) then some b else none, st) | _, _ => none
  else if op = 105 then match as, st with | dflt :: bs, .inl (.inl x) :: st => some (some (if w32 x < z then dflt else bs.getD (w32 x - z).toNat dflt), st) | _, _ => none
  else if op = 106 then match as, st with | dflt :: kbs, .inl (.inl x) :: st => some (some (lsw x dflt kbs), st) | _, _ => none
  else if op = 107 then match as with | [b] => some (some b, st) | _ => none
  else none
/-- the end: 110 void, 111 int (kind 0 int, 1 boolean, 2 char), 112 long, 113 a reference -/
def fin (op : Nat) (as : List Nat) (st : List pv) : Option (Option pv) :=
  if op = 110 then match st with | [] => some none | _ => none
  else if op = 111 then match as, st with
    | [t], [.inl (.inl x)] => if t = 0 ∨ (t = 1 ∧ (x = 0 ∨ x = 1)) ∨ (t = 2 ∧ 0 ≤ x ∧ x < 65536) ∨ (t = 3 ∧ -128 ≤ x ∧ x < 128) then some (some (vI x)) else none
    | _, _ => none
  else if op = 112 then match st with | [.inl (.inr x)] => some (some (vL x)) | _ => none
  else if op = 113 then match st with | [.inr x] => some (some (.inr x)) | _ => none
  else none
/-- of a method: kind (0 virtual, 1 static, 2 a constructor), class, locals, blocks -/
abbrev pprog : Type := Nat → Option (Nat × Nat × Nat × List (List PI))
/-- a constructor's and a virtual call's receiver; a virtual call's is an object of the method's own class (22: the text of the words) -/
def rcv (kd ow : Nat) (h : pheap) (as : List pv) : Bool :=
  if kd = 1 then true else match as with
    | .inr (some a) :: _ => if kd = 2 then true else if a = 22 then decide (ow = 16) else decide (32 ≤ a) && decide (a < 32 + h.1) && (match h.2.2 a with | .inr (c, _) => decide (c = ow) | _ => false)
    | _ => false
def exec (P : pprog) : Nat → Nat → List (List PI) → List PI → plocs → List pv → pheap → Option (Option pv × pheap)
  | 0, _, _, _, _, _, _ => none
  | n + 1, d, bt, c, ls, st, h =>
    match c with
    | [] => none
    | (op, as, z) :: r =>
      if op < 100 then
        match s1 op as z ls st h with
        | some (ls', st', h') => exec P n d bt r ls' st' h'
        | none => none
      else if op < 110 then
        match jmp op as z st with
        | some (some b, st') => exec P n d bt (bt.getD b []) ls st' h
        | some (none, st') => exec P n d bt r ls st' h
        | none => none
      else if op < 120 then
        match fin op as st with
        | some v => some (v, h)
        | none => none
      else if op ≠ 120 then
        if 8 ≤ d then
          match sM op st with
          | some (vs, st') => if scat st' ≤ 8 then exec P n d bt r ls (vs ++ st') h else none
          | none => none
        else none
      else
        match as, d with
        | m :: k :: _, d' + 1 =>
          if k ≤ st.length ∧ scat (st.drop k) ≤ 8 then
            match P m with
            | some (kd, ow, mx, bt') =>
              if rcv kd ow h (st.take k).reverse = true ∧ (ent1 (st.take k).reverse).length ≤ mx then
                match exec P n d' bt' (bt'.getD 0 []) (ent mx (st.take k).reverse) [] h with
                | some (v, h') => exec P n (d' + 1) bt r ls (v.toList ++ st.drop k) h'
                | none => none
              else none
            | none => none
          else none
        | _, _ => none
def wp (P : pprog) (d : Nat) (bt : List (List PI)) (c : List PI) (ls : plocs) (st : List pv) (h : pheap) (Q : Option pv → pheap → Prop) : Prop :=
  ∃ n v h', exec P n d bt c ls st h = some (v, h') ∧ Q v h'
def wpM (P : pprog) (d m : Nat) (as : List pv) (h : pheap) (Q : Option pv → pheap → Prop) : Prop :=
  ∃ kd ow mx bt, P m = some (kd, ow, mx, bt) ∧ (rcv kd ow h as = true ∧ (ent1 as).length ≤ mx) ∧ wp P d bt (bt.getD 0 []) (ent mx as) [] h Q
theorem exec_mono {P : pprog} : ∀ (n : Nat) {d : Nat} {bt : List (List PI)} {c : List PI} {ls : plocs} {st : List pv} {h : pheap} {x : Option pv × pheap} (k : Nat), exec P n d bt c ls st h = some x → exec P (n + k) d bt c ls st h = some x := by
  intro n
  induction n with
  | zero => intro d bt c ls st h x k e; simp [exec] at e
  | succ n ih =>
    intro d bt c ls st h x k e
    have hk : n + 1 + k = (n + k) + 1 := by omega
    rw [hk]
    cases c with
    | nil => simp [exec] at e
    | cons i r =>
      obtain ⟨op, as, z⟩ := i
      unfold exec at e ⊢
      dsimp only at e ⊢
      by_cases h1 : op < 100
      · rw [if_pos h1] at e ⊢
        split at e
        · exact ih k e
        · cases e
      · rw [if_neg h1] at e ⊢
        by_cases h2 : op < 110
        · rw [if_pos h2] at e ⊢
          split at e
          · exact ih k e
          · exact ih k e
          · cases e
        · rw [if_neg h2] at e ⊢
          by_cases h3 : op < 120
          · rw [if_pos h3] at e ⊢
            exact e
          · rw [if_neg h3] at e ⊢
            by_cases h4 : op ≠ 120
            · rw [if_pos h4] at e ⊢
              split at e
              · rename_i h5
                rw [if_pos h5]
                split at e
                · split at e
                  · rename_i h6
                    rw [if_pos h6]
                    exact ih k e
                  · cases e
                · cases e
              · cases e
            rw [if_neg h4] at e ⊢
            split at e
            · split at e
              · rename_i hg
                rw [if_pos hg]
                split at e
                · split at e
                  · rename_i hm
                    rw [if_pos hm]
                    split at e
                    · rename_i he
                      rw [ih k he]
                      exact ih k e
                    · cases e
                  · cases e
                · cases e
              · cases e
            · cases e
theorem exec_det {P : pprog} {n m d : Nat} {bt : List (List PI)} {c : List PI} {ls : plocs} {st : List pv} {h : pheap} {x y : Option pv × pheap} (e1 : exec P n d bt c ls st h = some x) (e2 : exec P m d bt c ls st h = some y) : x = y := by
  have a := exec_mono n m e1
  have b := exec_mono m n e2
  rw [Nat.add_comm m n] at b
  exact Option.some.inj (a.symm.trans b)
theorem wp_mono {P : pprog} {d : Nat} {bt : List (List PI)} {c : List PI} {ls : plocs} {st : List pv} {h : pheap} {Q Q' : Option pv → pheap → Prop} (w : wp P d bt c ls st h Q) (hQ : ∀ v h', Q v h' → Q' v h') : wp P d bt c ls st h Q' := by
  obtain ⟨n, v, h', e, q⟩ := w
  exact ⟨n, v, h', e, hQ v h' q⟩
theorem wpM_mono {P : pprog} {d m : Nat} {as : List pv} {h : pheap} {Q Q' : Option pv → pheap → Prop} (w : wpM P d m as h Q) (hQ : ∀ v h', Q v h' → Q' v h') : wpM P d m as h Q' := by
  obtain ⟨kd, ow, mx, bt, e, hm, w⟩ := w
  exact ⟨kd, ow, mx, bt, e, hm, wp_mono w hQ⟩
theorem wp_s1 {P : pprog} {d : Nat} {bt : List (List PI)} {op : Nat} {as : List Nat} {z : Int} {r : List PI} {ls ls' : plocs} {st st' : List pv} {h h' : pheap} {Q : Option pv → pheap → Prop} (ho : op < 100) (e : s1 op as z ls st h = some (ls', st', h')) :
    wp P d bt ((op, as, z) :: r) ls st h Q ↔ wp P d bt r ls' st' h' Q := by
  constructor
  · rintro ⟨n, v, hh, q, w⟩
    cases n with
    | zero => simp [exec] at q
    | succ n =>
      unfold exec at q
      dsimp only at q
      rw [if_pos ho, e] at q
      exact ⟨n, v, hh, q, w⟩
  · rintro ⟨n, v, hh, q, w⟩
    refine ⟨n + 1, v, hh, ?_, w⟩
    unfold exec
    dsimp only
    rw [if_pos ho, e]
    exact q
theorem wp_jmp {P : pprog} {d : Nat} {bt : List (List PI)} {op : Nat} {as : List Nat} {z : Int} {r : List PI} {ls : plocs} {st st' : List pv} {h : pheap} {b : Option Nat} {Q : Option pv → pheap → Prop} (ho : 100 ≤ op ∧ op < 110) (e : jmp op as z st = some (b, st')) :
    wp P d bt ((op, as, z) :: r) ls st h Q ↔ wp P d bt (match b with | some b => bt.getD b [] | none => r) ls st' h Q := by
  have h1 : ¬ op < 100 := by omega
  constructor
  · rintro ⟨n, v, hh, q, w⟩
    cases n with
    | zero => simp [exec] at q
    | succ n =>
      unfold exec at q
      dsimp only at q
      rw [if_neg h1, if_pos ho.2, e] at q
      cases b <;> exact ⟨n, v, hh, q, w⟩
  · rintro ⟨n, v, hh, q, w⟩
    refine ⟨n + 1, v, hh, ?_, w⟩
    unfold exec
    dsimp only
    rw [if_neg h1, if_pos ho.2, e]
    cases b <;> exact q
theorem wp_fin {P : pprog} {d : Nat} {bt : List (List PI)} {op : Nat} {as : List Nat} {z : Int} {r : List PI} {ls : plocs} {st : List pv} {h : pheap} {v : Option pv} {Q : Option pv → pheap → Prop} (ho : 110 ≤ op ∧ op < 120) (e : fin op as st = some v) :
    wp P d bt ((op, as, z) :: r) ls st h Q ↔ Q v h := by
  have h1 : ¬ op < 100 := by omega
  have h2 : ¬ op < 110 := by omega
  constructor
  · rintro ⟨n, v', hh, q, w⟩
    cases n with
    | zero => simp [exec] at q
    | succ n =>
      unfold exec at q
      dsimp only at q
      rw [if_neg h1, if_neg h2, if_pos ho.2, e] at q
      cases q
      exact w
  · intro w
    refine ⟨1, v, h, ?_, w⟩
    unfold exec
    dsimp only
    rw [if_neg h1, if_neg h2, if_pos ho.2, e]
theorem wp_sM {P : pprog} {d : Nat} {bt : List (List PI)} {op : Nat} {as : List Nat} {z : Int} {r : List PI} {ls : plocs} {st vs st' : List pv} {h : pheap} {Q : Option pv → pheap → Prop} (ho : 121 ≤ op) (hd : 8 ≤ d) (e : sM op st = some (vs, st')) (hc : scat st' ≤ 8) :
    wp P d bt ((op, as, z) :: r) ls st h Q ↔ wp P d bt r ls (vs ++ st') h Q := by
  have h1 : ¬ op < 100 := by omega
  have h2 : ¬ op < 110 := by omega
  have h3 : ¬ op < 120 := by omega
  have h4 : op ≠ 120 := by omega
  constructor
  · rintro ⟨n, v, hh, q, w⟩
    cases n with
    | zero => simp [exec] at q
    | succ n =>
      unfold exec at q
      dsimp only at q
      rw [if_neg h1, if_neg h2, if_neg h3, if_pos h4, if_pos hd, e] at q
      dsimp only at q
      rw [if_pos hc] at q
      exact ⟨n, v, hh, q, w⟩
  · rintro ⟨n, v, hh, q, w⟩
    refine ⟨n + 1, v, hh, ?_, w⟩
    unfold exec
    dsimp only
    rw [if_neg h1, if_neg h2, if_neg h3, if_pos h4, if_pos hd, e]
    dsimp only
    rw [if_pos hc]
    exact q
theorem wp_call {P : pprog} {d m k : Nat} {bt : List (List PI)} {as : List Nat} {z : Int} {r : List PI} {ls : plocs} {st : List pv} {h : pheap} {Q : Option pv → pheap → Prop} (hk : k ≤ st.length) (hc : scat (st.drop k) ≤ 8) :
    wp P (d + 1) bt ((120, m :: k :: as, z) :: r) ls st h Q ↔ wpM P d m (st.take k).reverse h (fun v h' => wp P (d + 1) bt r ls (v.toList ++ st.drop k) h' Q) := by
  have h1 : ¬ (120 : Nat) < 100 := by omega
  have h2 : ¬ (120 : Nat) < 110 := by omega
  have h3 : ¬ (120 : Nat) < 120 := by omega
  have h4 : ¬ (120 : Nat) ≠ 120 := by omega
  constructor
  · rintro ⟨n, v', hh, q, w⟩
    cases n with
    | zero => simp [exec] at q
    | succ n =>
      unfold exec at q
      dsimp only at q
      rw [if_neg h1, if_neg h2, if_neg h3, if_neg h4, if_pos ⟨hk, hc⟩] at q
      split at q
      · rename_i kd ow mx bt' hP
        split at q
        · rename_i hm
          split at q
          · rename_i v2 h2 he
            exact ⟨kd, ow, mx, bt', hP, hm, n, v2, h2, he, n, v', hh, q, w⟩
          · cases q
        · cases q
      · cases q
  · rintro ⟨kd, ow, mx, bt', hP, hm, n, v2, hh2, he, n2, v, hh, q, w⟩
    refine ⟨(n + n2) + 1, v, hh, ?_, w⟩
    unfold exec
    dsimp only
    rw [if_neg h1, if_neg h2, if_neg h3, if_neg h4, if_pos ⟨hk, hc⟩, hP]
    dsimp only
    rw [if_pos hm, exec_mono n n2 he]
    dsimp only
    rw [Nat.add_comm n n2]
    exact exec_mono n2 n q
theorem sS_same {op : Nat} {as : List Nat} {st st' : List pv} {h h' : pheap} (e : sS op as st h = some (st', h')) : h' = h := by
  unfold sS at e
  repeat' split at e
  all_goals first
    | (cases e; done)
    | (cases e; rfl)
theorem sE_grow {op : Nat} {as : List Nat} {st st' : List pv} {h h' : pheap} (e : sE op as st h = some (st', h')) : h.1 ≤ h'.1 ∧ h.2.1 ≤ h'.2.1 ∧ h'.2.2 0 = h.2.2 0 := by
  unfold sE at e
  by_cases c60 : op = 60
  · rw [if_pos c60] at e
    repeat' split at e
    all_goals first
      | (cases e; done)
      | (cases e; exact ⟨Nat.le_refl _, Nat.le_refl _, rfl⟩)
      | (cases e; refine ⟨Nat.le_refl _, Nat.le_refl _, ?_⟩; show updC _ _ _ 0 = _; unfold updC; rw [if_neg (by omega)])
      | (cases e; refine ⟨Nat.le_succ _, Nat.le_add_right _ _, ?_⟩; show updC _ _ _ 0 = _; unfold updC; rw [if_neg (by omega)])
  rw [if_neg c60] at e
  by_cases c61 : op = 61
  · rw [if_pos c61] at e
    repeat' split at e
    all_goals first
      | (cases e; done)
      | (cases e; exact ⟨Nat.le_refl _, Nat.le_refl _, rfl⟩)
      | (cases e; refine ⟨Nat.le_refl _, Nat.le_refl _, ?_⟩; show updC _ _ _ 0 = _; unfold updC; rw [if_neg (by omega)])
      | (cases e; refine ⟨Nat.le_succ _, Nat.le_add_right _ _, ?_⟩; show updC _ _ _ 0 = _; unfold updC; rw [if_neg (by omega)])
  rw [if_neg c61] at e
  by_cases c62 : op = 62
  · rw [if_pos c62] at e
    repeat' split at e
    all_goals first
      | (cases e; done)
      | (cases e; exact ⟨Nat.le_refl _, Nat.le_refl _, rfl⟩)
      | (cases e; refine ⟨Nat.le_refl _, Nat.le_refl _, ?_⟩; show updC _ _ _ 0 = _; unfold updC; rw [if_neg (by omega)])
      | (cases e; refine ⟨Nat.le_succ _, Nat.le_add_right _ _, ?_⟩; show updC _ _ _ 0 = _; unfold updC; rw [if_neg (by omega)])
  rw [if_neg c62] at e
  by_cases c63 : op = 63
  · rw [if_pos c63] at e
    repeat' split at e
    all_goals first
      | (cases e; done)
      | (cases e; exact ⟨Nat.le_refl _, Nat.le_refl _, rfl⟩)
      | (cases e; refine ⟨Nat.le_refl _, Nat.le_refl _, ?_⟩; show updC _ _ _ 0 = _; unfold updC; rw [if_neg (by omega)])
      | (cases e; refine ⟨Nat.le_succ _, Nat.le_add_right _ _, ?_⟩; show updC _ _ _ 0 = _; unfold updC; rw [if_neg (by omega)])
  rw [if_neg c63] at e
  by_cases c64 : op = 64
  · rw [if_pos c64] at e
    repeat' split at e
    all_goals first
      | (cases e; done)
      | (cases e; exact ⟨Nat.le_refl _, Nat.le_refl _, rfl⟩)
      | (cases e; refine ⟨Nat.le_refl _, Nat.le_refl _, ?_⟩; show updC _ _ _ 0 = _; unfold updC; rw [if_neg (by omega)])
      | (cases e; refine ⟨Nat.le_succ _, Nat.le_add_right _ _, ?_⟩; show updC _ _ _ 0 = _; unfold updC; rw [if_neg (by omega)])
  rw [if_neg c64] at e
  by_cases c65 : op = 65
  · rw [if_pos c65] at e
    repeat' split at e
    all_goals first
      | (cases e; done)
      | (cases e; exact ⟨Nat.le_refl _, Nat.le_refl _, rfl⟩)
      | (cases e; refine ⟨Nat.le_refl _, Nat.le_refl _, ?_⟩; show updC _ _ _ 0 = _; unfold updC; rw [if_neg (by omega)])
      | (cases e; refine ⟨Nat.le_succ _, Nat.le_add_right _ _, ?_⟩; show updC _ _ _ 0 = _; unfold updC; rw [if_neg (by omega)])
  rw [if_neg c65] at e
  by_cases c66 : op = 66
  · rw [if_pos c66] at e
    repeat' split at e
    all_goals first
      | (cases e; done)
      | (cases e; exact ⟨Nat.le_refl _, Nat.le_refl _, rfl⟩)
      | (cases e; refine ⟨Nat.le_refl _, Nat.le_refl _, ?_⟩; show updC _ _ _ 0 = _; unfold updC; rw [if_neg (by omega)])
      | (cases e; refine ⟨Nat.le_succ _, Nat.le_add_right _ _, ?_⟩; show updC _ _ _ 0 = _; unfold updC; rw [if_neg (by omega)])
  rw [if_neg c66] at e
  by_cases c67 : op = 67
  · rw [if_pos c67] at e
    repeat' split at e
    all_goals first
      | (cases e; done)
      | (cases e; exact ⟨Nat.le_refl _, Nat.le_refl _, rfl⟩)
      | (cases e; refine ⟨Nat.le_refl _, Nat.le_refl _, ?_⟩; show updC _ _ _ 0 = _; unfold updC; rw [if_neg (by omega)])
      | (cases e; refine ⟨Nat.le_succ _, Nat.le_add_right _ _, ?_⟩; show updC _ _ _ 0 = _; unfold updC; rw [if_neg (by omega)])
  rw [if_neg c67] at e
  by_cases c68 : op = 68
  · rw [if_pos c68] at e
    repeat' split at e
    all_goals first
      | (cases e; done)
      | (cases e; exact ⟨Nat.le_refl _, Nat.le_refl _, rfl⟩)
      | (cases e; refine ⟨Nat.le_refl _, Nat.le_refl _, ?_⟩; show updC _ _ _ 0 = _; unfold updC; rw [if_neg (by omega)])
      | (cases e; refine ⟨Nat.le_succ _, Nat.le_add_right _ _, ?_⟩; show updC _ _ _ 0 = _; unfold updC; rw [if_neg (by omega)])
  rw [if_neg c68] at e
  by_cases c69 : op = 69
  · rw [if_pos c69] at e
    repeat' split at e
    all_goals first
      | (cases e; done)
      | (cases e; exact ⟨Nat.le_refl _, Nat.le_refl _, rfl⟩)
      | (cases e; refine ⟨Nat.le_refl _, Nat.le_refl _, ?_⟩; show updC _ _ _ 0 = _; unfold updC; rw [if_neg (by omega)])
      | (cases e; refine ⟨Nat.le_succ _, Nat.le_add_right _ _, ?_⟩; show updC _ _ _ 0 = _; unfold updC; rw [if_neg (by omega)])
  rw [if_neg c69] at e
  by_cases c70 : op = 70
  · rw [if_pos c70] at e
    repeat' split at e
    all_goals first
      | (cases e; done)
      | (cases e; exact ⟨Nat.le_refl _, Nat.le_refl _, rfl⟩)
      | (cases e; refine ⟨Nat.le_refl _, Nat.le_refl _, ?_⟩; show updC _ _ _ 0 = _; unfold updC; rw [if_neg (by omega)])
      | (cases e; refine ⟨Nat.le_succ _, Nat.le_add_right _ _, ?_⟩; show updC _ _ _ 0 = _; unfold updC; rw [if_neg (by omega)])
  rw [if_neg c70] at e
  cases e
theorem s1_grow {op : Nat} {as : List Nat} {z : Int} {ls ls' : plocs} {st st' : List pv} {h h' : pheap} (e : s1 op as z ls st h = some (ls', st', h')) : h.1 ≤ h'.1 ∧ h.2.1 ≤ h'.2.1 ∧ h'.2.2 0 = h.2.2 0 := by
  unfold s1 at e
  repeat' split at e
  all_goals first
    | (cases e; done)
    | (cases e; exact ⟨Nat.le_refl _, Nat.le_refl _, rfl⟩)
    | (rename_i hs; cases e; exact sE_grow hs)
    | (rename_i hs; cases e; rw [sS_same hs]; exact ⟨Nat.le_refl _, Nat.le_refl _, rfl⟩)
theorem exec_grow {P : pprog} : ∀ (n : Nat) {d : Nat} {bt : List (List PI)} {c : List PI} {ls : plocs} {st : List pv} {h h' : pheap} {v : Option pv}, exec P n d bt c ls st h = some (v, h') → h.1 ≤ h'.1 ∧ h.2.1 ≤ h'.2.1 ∧ h'.2.2 0 = h.2.2 0 := by
  intro n
  induction n with
  | zero => intro d bt c ls st h h' v e; simp [exec] at e
  | succ n ih =>
    intro d bt c ls st h h' v e
    cases c with
    | nil => simp [exec] at e
    | cons i r =>
      obtain ⟨op, as, z⟩ := i
      unfold exec at e
      dsimp only at e
      split at e
      · split at e
        · rename_i hs
          obtain ⟨a1, a2, a3⟩ := s1_grow hs
          obtain ⟨b1, b2, b3⟩ := ih e
          exact ⟨Nat.le_trans a1 b1, Nat.le_trans a2 b2, b3.trans a3⟩
        · cases e
      · split at e
        · split at e
          · exact ih e
          · exact ih e
          · cases e
        · split at e
          · split at e
            · cases e; exact ⟨Nat.le_refl _, Nat.le_refl _, rfl⟩
            · cases e
          · split at e
            · split at e
              · split at e
                · split at e
                  · exact ih e
                  · cases e
                · cases e
              · cases e
            · split at e
              · split at e
                · split at e
                  · split at e
                    · split at e
                      · rename_i he
                        obtain ⟨a1, a2, a3⟩ := ih he
                        obtain ⟨b1, b2, b3⟩ := ih e
                        exact ⟨Nat.le_trans a1 b1, Nat.le_trans a2 b2, b3.trans a3⟩
                      · cases e
                    · cases e
                  · cases e
                · cases e
              · cases e
