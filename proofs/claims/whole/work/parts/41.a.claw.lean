/-! the class: its law as orders, its steps -/
def cE : Jvm.Term → List (Int × Int)
  | .int v => [(1, v.toInt)]
  | .arg k => [(2, (k : Int))]
  | .add a b => cE a ++ (cE b ++ [(43, 0)])
  | .sub a b => cE a ++ (cE b ++ [(45, 0)])
  | .mul a b => cE a ++ (cE b ++ [(42, 0)])
  | .div a b => cE a ++ (cE b ++ [(47, 0)])
  | .rem a b => cE a ++ (cE b ++ [(37, 0)])
  | _ => []
def szC : Jvm.Cond → Nat
  | .lt a b => (cE a).length + (cE b).length + 1
  | .le a b => (cE a).length + (cE b).length + 1
  | .eq a b => (cE a).length + (cE b).length + 1
  | .not c => szC c + 1
  | .and c e => szC c + 1 + szC e
  | .or c e => szC c + 1 + szC e
  | .all _ c => szC c
  | _ => 0
/-- m: 1 in a chain of & that ends at T, 2 of | -/
def cC (m : Nat) (T off : Int) : Jvm.Cond → List (Int × Int)
  | .lt a b => cE a ++ (cE b ++ [(60, 0)])
  | .le a b => cE a ++ (cE b ++ [(62, 0)])
  | .eq a b => cE a ++ (cE b ++ [(61, 0)])
  | .not c => cC 0 0 off c ++ [(3, 0)]
  | .and c e => cC 1 (if m = 1 then T else off + 2 * (szC c + 1 + szC e)) off c ++ (5, if m = 1 then T else off + 2 * (szC c + 1 + szC e)) :: cC 0 0 (off + 2 * (szC c + 1)) e
  | .or c e => cC 2 (if m = 2 then T else off + 2 * (szC c + 1 + szC e)) off c ++ (4, if m = 2 then T else off + 2 * (szC c + 1 + szC e)) :: cC 0 0 (off + 2 * (szC c + 1)) e
  | .all _ c => cC 0 0 off c
  | _ => []
/-- how many numbers are held at once -/
def hE : Jvm.Term → Nat
  | .add a b => max (hE a) (hE b + 1)
  | .sub a b => max (hE a) (hE b + 1)
  | .mul a b => max (hE a) (hE b + 1)
  | .div a b => max (hE a) (hE b + 1)
  | .rem a b => max (hE a) (hE b + 1)
  | _ => 1
def hC : Jvm.Cond → Nat
  | .lt a b => max (hE a) (hE b + 1)
  | .le a b => max (hE a) (hE b + 1)
  | .eq a b => max (hE a) (hE b + 1)
  | .not c => hC c
  | .and c e => max (hC c) (hC e)
  | .or c e => max (hC c) (hC e)
  | .all _ c => hC c
  | _ => 0
def ordAt (h : AH) (o : Nat) (off : Int) (l : List (Int × Int)) : Prop := ∀ (i : Nat) (v : Int × Int), l[i]? = some v → h.1 o (off + 2 * i) = v.1 ∧ h.1 o (off + 2 * i + 1) = v.2
/-- the law of the object p whose code is in o, o + 1, o + 2 -/
def RepCLo (p o : Nat) (lw : LW) (h : AH) : Prop := (h.1 p 6 = (lw.length : Int) ∧ lw.length ≤ 12) ∧ ∀ (j : Nat) (E : Option Jvm.Term) (C : Jvm.Cond), lw[j]? = some (E, C) →
  (WfC C ∧ hC C ≤ 32 ∧ 0 ≤ h.1 (o + 2) j ∧ h.1 (o + 2) j + 2 * (szC C + 1) ≤ 400 ∧ ordAt h o (h.1 (o + 2) j) (cC 0 0 (h.1 (o + 2) j) C ++ [(0, 0)])) ∧
  (match E with | some e => WfE e ∧ hE e ≤ 32 ∧ 0 ≤ h.1 (o + 1) j ∧ h.1 (o + 1) j + 2 * ((cE e).length + 1) ≤ 400 ∧ ordAt h o (h.1 (o + 1) j) (cE e ++ [(0, 0)]) | none => h.1 (o + 1) j = -1)
def RepCL (lw : LW) (h : AH) : Prop := RepCLo 3 20 lw h
theorem RepCL.fr {lw : LW} {L : List Nat} {F : List (Nat × Int)} {h h' : AH} (r : RepCL lw h) (f : Fr L F h h') (h1 : (∀ o ∈ [3, 20, 21, 22], o ∉ L) := by decide) (h2 : (∀ o ∈ [20, 21, 22], o ∉ F.map Prod.fst) := by decide) (h3 : ((3 : Nat), (6 : Int)) ∉ F := by decide) : RepCL lw h' := by
  refine ⟨by rw [f.f 3 6 (h1 3 (by decide)) h3]; exact r.1, fun j E C hj => ?_⟩
  have q := r.2 j E C hj
  unfold ordAt at *
  have e20 : ∀ k, h'.1 20 k = h.1 20 k := fun k => f.i 20 (h1 _ (by decide)) (h2 _ (by decide)) k
  have e21 : ∀ k, h'.1 (20 + 1) k = h.1 (20 + 1) k := fun k => f.i 21 (h1 _ (by decide)) (h2 _ (by decide)) k
  have e22 : ∀ k, h'.1 (20 + 2) k = h.1 (20 + 2) k := fun k => f.i 22 (h1 _ (by decide)) (h2 _ (by decide)) k
  simp only [e20, e21, e22]
  exact q
def FacC (f : Nat → Int) (h : AH) : Prop := ∀ j : Nat, j < 9 → h.1 23 j = f j
