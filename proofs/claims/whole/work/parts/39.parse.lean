/-! laws' texts: where the fault is, or the code (numbers, letters -1 .. -6, + -7, - -8, * -9, / -10, = -11, < -12, > -13, & -14, | -15, ! -16, ? -17, a clause's end -18) -/
def ch (bs : List Int) (p : Nat) : Int := if p < bs.length then bs.getD p 0 else -1
def skF (bs : List Int) : Nat → Nat → Nat
  | 0, p => p
  | k + 1, p => if ch bs p = 32 then skF bs k (p + 1) else p
def sk (bs : List Int) (p : Nat) : Nat := skF bs (bs.length - p) p
abbrev PR : Type := Nat ⊕ (Nat × List Int)
/-- go on where it went well -/
def andP (r : PR) (f : Nat → List Int → PR) : PR := match r with
  | .inl e => .inl e
  | .inr (q, C) => f q C
/-- then a sign -/
def tkP (bs : List Int) (c : Int) (q : Nat) (C : List Int) : PR := if ch bs (sk bs q) = c then .inr (sk bs q + 1, C) else .inl (sk bs q)
def liM (c : Int) : Int := if c = 100 then 0 else if c = 109 then 1 else if c = 105 then 2 else if c = 120 then 3 else if c = 115 then 4 else if c = 111 then 5 else -1
def nuF (bs : List Int) (most : Nat) : Nat → Nat → Int → Nat → PR
  | 0, _, _, p => .inl p
  | k + 1, dg, v, p => if 48 ≤ ch bs p ∧ ch bs p ≤ 57 then (if dg = most then .inl p else nuF bs most k (dg + 1) (v * 10 + ch bs p - 48) (p + 1)) else if dg = 0 then .inl p else .inr (p, [v])
def atB (bs : List Int) (sub : Option (Nat → PR)) (p : Nat) : PR :=
  if ch bs (sk bs p) = 91 then (match sub with
    | none => .inl (sk bs p)
    | some f => andP (f (sk bs p + 1)) (tkP bs 93))
  else if liM (ch bs (sk bs p)) = -1 then nuF bs 4 6 0 0 (sk bs p) else .inr (sk bs p + 1, [-1 - liM (ch bs (sk bs p))])
/-- two ranks of signs between what at_ reads: mc binds more than ac -/
def mlG (bs : List Int) (mc : Int → Int) (at_ : Nat → PR) : Nat → Nat → List Int → PR
  | 0, q, C => .inr (q, C)
  | k + 1, q, C => if mc (ch bs (sk bs q)) = -1 then .inr (sk bs q, C) else andP (at_ (sk bs q + 1)) (fun r D => mlG bs mc at_ k r (C ++ D ++ [mc (ch bs (sk bs q))]))
def tmG (bs : List Int) (mc : Int → Int) (at_ : Nat → PR) (first : PR) : PR := andP first (mlG bs mc at_ 250)
def adG (bs : List Int) (mc ac : Int → Int) (at_ : Nat → PR) : Nat → Nat → List Int → PR
  | 0, q, C => .inr (q, C)
  | k + 1, q, C => if ac (ch bs (sk bs q)) = -1 then .inr (sk bs q, C) else andP (tmG bs mc at_ (at_ (sk bs q + 1))) (fun r D => adG bs mc ac at_ k r (C ++ D ++ [ac (ch bs (sk bs q))]))
def smG (bs : List Int) (mc ac : Int → Int) (at_ : Nat → PR) (first : PR) : PR := andP (tmG bs mc at_ first) (adG bs mc ac at_ 250)
def mcS (c : Int) : Int := if c = 42 then -9 else if c = 47 then -10 else -1
def acS (c : Int) : Int := if c = 43 then -7 else if c = 45 then -8 else -1
def mcC (c : Int) : Int := if c = 38 then -14 else -1
def acC (c : Int) : Int := if c = 124 then -15 else -1
def pAt (bs : List Int) : Nat → Nat → PR
  | 0 => atB bs none
  | k + 1 => atB bs (some (fun p => smG bs mcS acS (pAt bs k) (pAt bs k p)))
def pSm (bs : List Int) (k p : Nat) : PR := smG bs mcS acS (pAt bs k) (pAt bs k p)
def cmM (c : Int) : Int := if c = 61 then -11 else if c = 60 then -12 else if c = 62 then -13 else -1
def cm2 (bs : List Int) (k : Nat) (q : Nat) (C : List Int) : PR := if cmM (ch bs (sk bs q)) = -1 then .inl (sk bs q) else andP (pSm bs k (sk bs q + 1)) (fun r C' => .inr (r, C ++ C' ++ [cmM (ch bs (sk bs q))]))
def unB (bs : List Int) (k : Nat) (su : Option ((Nat → PR) × (Nat → PR))) (p : Nat) : PR :=
  if ch bs (sk bs p) = 33 then (match su with
    | none => .inl (sk bs p)
    | some f => andP (f.1 (sk bs p + 1)) (fun r C => .inr (r, C ++ [-16])))
  else if ch bs (sk bs p) = 40 then (match su with
    | none => .inl (sk bs p)
    | some f => andP (f.2 (sk bs p + 1)) (tkP bs 41))
  else andP (pSm bs k (sk bs p)) (cm2 bs k)
def pUn (bs : List Int) : Nat → Nat → PR
  | 0 => unB bs 0 none
  | k + 1 => unB bs (k + 1) (some (pUn bs k, fun p => smG bs mcC acC (pUn bs k) (pUn bs k p)))
def pCl (bs : List Int) (p : Nat) : PR :=
  andP (tkP bs 121 p []) (fun q _ => andP (tkP bs 58 q []) (fun r _ =>
    if ch bs (sk bs r) = 33 ∨ ch bs (sk bs r) = 40 then andP (smG bs mcC acC (pUn bs 6) (pUn bs 6 (sk bs r))) (fun s C => andP (tkP bs 63 s C) (fun t C => andP (pSm bs 6 t) (fun u C' => .inr (u, C ++ [-17] ++ C'))))
    else andP (pSm bs 6 (sk bs r)) (fun s C => if cmM (ch bs (sk bs s)) = -1 then .inr (sk bs s, C) else andP (smG bs mcC acC (pUn bs 6) (cm2 bs 6 s C)) (fun t C => andP (tkP bs 63 t C) (fun u C => andP (pSm bs 6 u) (fun v C' => .inr (v, C ++ [-17] ++ C')))))))
def lwF (bs : List Int) : Nat → Nat → List Int → Nat ⊕ List Int
  | 0, p, _ => .inl p
  | k + 1, p, C => match pCl bs p with
    | .inl e => .inl e
    | .inr (q, C') => if ch bs (sk bs q) = -1 then .inr (C ++ C' ++ [-18]) else if ch bs (sk bs q) = 59 then lwF bs k (sk bs q + 1) (C ++ C' ++ [-18]) else .inl (sk bs q)
def pLaw (bs : List Int) : Nat ⊕ List Int := lwF bs 250 0 []
