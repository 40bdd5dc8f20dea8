/-! what a text means as a law. f: its bytes, n: how many; a fault: (its number, its place) -/
abbrev Rs (α : Type) : Type := (Int × Int) ⊕ (α × Int)
def nxt (f : Int → Int) (n p : Int) : Int := if p < n then f p else -1
def isDig (x : Int) : Prop := 48 ≤ x ∧ x ≤ 57
/-- at most k digits more -/
def rdN (f : Int → Int) (n : Int) : Nat → Int → Int → Int × Int
  | 0, p, a => (a, p)
  | k + 1, p, a => if 48 ≤ nxt f n p ∧ nxt f n p ≤ 57 then rdN f n k (p + 1) (10 * a + nxt f n p - 48) else (a, p)
def pNum (f : Int → Int) (n p : Int) : Rs Jvm.Term := if 48 ≤ nxt f n (rdN f n 5 p 0).2 ∧ nxt f n (rdN f n 5 p 0).2 ≤ 57 then .inl (2, (rdN f n 5 p 0).2) else .inr (.int (Int32.ofInt (rdN f n 5 p 0).1), (rdN f n 5 p 0).2)
def pName (x : Int) : Int := if 97 ≤ x ∧ x ≤ 122 then nameAt x else -1
/-- o: how many may be opened still -/
def pFac (f : Int → Int) (n : Int) (o : Nat) (sum : Int → Rs Jvm.Term) (p : Int) : Rs Jvm.Term :=
  if nxt f n p = 91 then (if o = 0 then .inl (5, p) else match sum (p + 1) with
    | .inl e => .inl e
    | .inr q => if nxt f n q.2 = 93 then .inr (q.1, q.2 + 1) else .inl (1, q.2))
  else if 48 ≤ nxt f n p ∧ nxt f n p ≤ 57 then pNum f n p
  else if pName (nxt f n p) < 0 then .inl (1, p) else .inr (.arg (pName (nxt f n p)).toNat, p + 1)
def opT (s : Int) (a b : Jvm.Term) : Jvm.Term := if s = 43 then .add a b else if s = 45 then .sub a b else if s = 42 then .mul a b else if s = 47 then .div a b else .rem a b
/-- what goes on behind a, with the signs of S -/
def pMore (f : Int → Int) (n : Int) (S : List Int) (one : Int → Rs Jvm.Term) : Nat → Jvm.Term → Int → Rs Jvm.Term
  | 0, _, p => .inl (1, p)
  | k + 1, a, p => if nxt f n p ∈ S then (match one (p + 1) with
    | .inl e => .inl e
    | .inr q => pMore f n S one k (opT (nxt f n p) a q.1) q.2) else .inr (a, p)
def pChain (f : Int → Int) (n : Int) (S : List Int) (one : Int → Rs Jvm.Term) (p : Int) : Rs Jvm.Term := match one p with
  | .inl e => .inl e
  | .inr q => pMore f n S one 161 q.1 q.2
def pSumW (f : Int → Int) (n : Int) (fac : Int → Rs Jvm.Term) : Int → Rs Jvm.Term := pChain f n [43, 45] (pChain f n [42, 47, 37] fac)
def pSum (f : Int → Int) (n : Int) : Nat → Int → Rs Jvm.Term
  | 0 => pSumW f n (pFac f n 0 (fun p => .inl (0, p)))
  | o + 1 => pSumW f n (pFac f n (o + 1) (pSum f n o))
def cmpT (s : Int) (a b : Jvm.Term) : Jvm.Cond := if s = 60 then .lt a b else if s = 62 then .le a b else .eq a b
def pCmp (f : Int → Int) (n : Int) (o : Nat) (p : Int) : Rs Jvm.Cond := match pSum f n o p with
  | .inl e => .inl e
  | .inr q => if nxt f n q.2 = 60 ∨ nxt f n q.2 = 62 ∨ nxt f n q.2 = 61 then (match pSum f n o (q.2 + 1) with
    | .inl e => .inl e
    | .inr r => .inr (cmpT (nxt f n q.2) q.1 r.1, r.2)) else .inl (1, q.2)
/-- what goes on behind a, with the sign s -/
def pMoreC (f : Int → Int) (n s : Int) (j : Jvm.Cond → Jvm.Cond → Jvm.Cond) (one : Int → Rs Jvm.Cond) : Nat → Jvm.Cond → Int → Rs Jvm.Cond
  | 0, _, p => .inl (1, p)
  | k + 1, a, p => if nxt f n p = s then (match one (p + 1) with
    | .inl e => .inl e
    | .inr q => pMoreC f n s j one k (j a q.1) q.2) else .inr (a, p)
def pChainC (f : Int → Int) (n s : Int) (j : Jvm.Cond → Jvm.Cond → Jvm.Cond) (one : Int → Rs Jvm.Cond) (p : Int) : Rs Jvm.Cond := match one p with
  | .inl e => .inl e
  | .inr q => pMoreC f n s j one 161 q.1 q.2
def pParts (f : Int → Int) (n : Int) (piece : Int → Rs Jvm.Cond) : Int → Rs Jvm.Cond := pChainC f n 124 .or (pChainC f n 38 .and piece)
/-- behind the bracket -/
def pBra (f : Int → Int) (n : Int) (piece : Int → Rs Jvm.Cond) (p : Int) : Rs Jvm.Cond := match pParts f n piece p with
  | .inl e => .inl e
  | .inr q => if nxt f n q.2 = 41 then .inr (.all (.int 0) q.1, q.2 + 1) else .inl (1, q.2)
def pPiece (f : Int → Int) (n : Int) : Nat → Int → Rs Jvm.Cond
  | 0, p => if nxt f n p = 40 ∨ nxt f n p = 33 then .inl (5, p) else pCmp f n 0 p
  | o + 1, p => if nxt f n p = 40 then pBra f n (pPiece f n o) (p + 1)
    else if nxt f n p = 33 then (match pPiece f n o (p + 1) with
      | .inl e => .inl e
      | .inr q => .inr (.not q.1, q.2))
    else pCmp f n (o + 1) p
def pCond (f : Int → Int) (n p : Int) : Rs Jvm.Cond := if nxt f n p = 40 then pBra f n (pPiece f n 5) (p + 1) else .inl (1, p)
def pClause (f : Int → Int) (n p : Int) : Rs Cl := if nxt f n p = 99 then (match pSum f n 6 (p + 1) with
    | .inl e => .inl e
    | .inr q => (match pCond f n q.2 with
      | .inl e => .inl e
      | .inr r => .inr ((some q.1, r.1), r.2)))
  else (match pCond f n (p + 1) with
    | .inl e => .inl e
    | .inr r => .inr ((none, r.1), r.2))
/-- c clauses stand ahead -/
def pText (f : Int → Int) (n : Int) : Nat → LW → Int → (Int × Int) ⊕ LW
  | 0, _, p => if nxt f n p = 110 ∨ nxt f n p = 99 then .inl (4, p) else .inl (1, p)
  | k + 1, l, p => if nxt f n p = 110 ∨ nxt f n p = 99 then (match pClause f n p with
    | .inl e => .inl e
    | .inr q => if n ≤ q.2 then .inr (l ++ [q.1]) else if nxt f n q.2 = 59 then pText f n k (l ++ [q.1]) (q.2 + 1) else .inl (1, q.2)) else .inl (1, p)
/-- the text of n bytes as a law -/
def lawOf (f : Int → Int) (n : Int) : (Int × Int) ⊕ LW := pText f n 12 [] 0
