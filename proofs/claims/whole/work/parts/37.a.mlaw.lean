/-! the reference's law and steps -/
def mE : Jvm.Term → List Int
  | .int v => [v.toInt]
  | .arg k => [1048576 + (k : Int)]
  | .add a b => mE a ++ (mE b ++ [2097152])
  | .sub a b => mE a ++ (mE b ++ [3145728])
  | .mul a b => mE a ++ (mE b ++ [4194304])
  | .div a b => mE a ++ (mE b ++ [5242880])
  | .rem a b => mE a ++ (mE b ++ [6291456])
  | _ => []
/-- the code of a condition that begins at off -/
def mC (off : Int) : Jvm.Cond → List Int
  | .lt a b => mE a ++ (mE b ++ [7340032])
  | .le a b => mE a ++ (mE b ++ [8388608])
  | .eq a b => mE a ++ (mE b ++ [9437184])
  | .not c => mC off c ++ [10485760]
  | .and c e => mC off c ++ ((11534336 + (off + (mC off c).length + 1 + (mC (off + (mC off c).length + 1) e).length)) :: mC (off + (mC off c).length + 1) e)
  | .or c e => mC off c ++ ((12582912 + (off + (mC off c).length + 1 + (mC (off + (mC off c).length + 1) e).length)) :: mC (off + (mC off c).length + 1) e)
  | .all _ c => mC off c
  | _ => []
def WfE : Jvm.Term → Prop
  | .int v => 0 ≤ v.toInt ∧ v.toInt ≤ 99999
  | .arg k => k < 9
  | .add a b => WfE a ∧ WfE b
  | .sub a b => WfE a ∧ WfE b
  | .mul a b => WfE a ∧ WfE b
  | .div a b => WfE a ∧ WfE b
  | .rem a b => WfE a ∧ WfE b
  | _ => False
def WfC : Jvm.Cond → Prop
  | .lt a b => WfE a ∧ WfE b
  | .le a b => WfE a ∧ WfE b
  | .eq a b => WfE a ∧ WfE b
  | .not c => WfC c
  | .and c e => WfC c ∧ WfC e
  | .or c e => WfC c ∧ WfC e
  | .all _ c => WfC c
  | _ => False
def codeAt (h : AH) (o : Nat) (off : Int) (l : List Int) : Prop := ∀ (i : Nat) (v : Int), l[i]? = some v → h.1 o (off + i) = v
def RepML (lw : LW) (h : AH) : Prop := (h.1 12 20 = (lw.length : Int) ∧ lw.length ≤ 12) ∧ ∀ (j : Nat) (E : Option Jvm.Term) (C : Jvm.Cond), lw[j]? = some (E, C) →
  WfC C ∧ h.1 72 j = (match E with | some _ => (99 : Int) | none => 110) ∧ 0 ≤ h.1 73 j ∧ h.1 75 j ≤ 180 ∧
  h.1 75 j = h.1 74 j + (mC (h.1 74 j) C).length ∧ codeAt h 71 (h.1 74 j) (mC (h.1 74 j) C) ∧
  (match E with | some e => WfE e ∧ h.1 74 j = h.1 73 j + (mE e).length ∧ codeAt h 71 (h.1 73 j) (mE e) | none => h.1 74 j = h.1 73 j)
theorem RepML.fr {lw : LW} {L : List Nat} {F : List (Nat × Int)} {h h' : AH} (r : RepML lw h) (f : Fr L F h h') (h1 : (∀ o ∈ [12, 71, 72, 73, 74, 75], o ∉ L) := by decide) (h2 : (∀ o ∈ [71, 72, 73, 74, 75], o ∉ F.map Prod.fst) := by decide) (h3 : ((12 : Nat), (20 : Int)) ∉ F := by decide) : RepML lw h' := by
  refine ⟨by rw [f.f 12 20 (h1 12 (by decide)) h3]; exact r.1, fun j E C hj => ?_⟩
  have q := r.2 j E C hj
  unfold codeAt at *
  rw [f.i 72 (h1 _ (by decide)) (h2 _ (by decide)), f.i 73 (h1 _ (by decide)) (h2 _ (by decide)), f.i 74 (h1 _ (by decide)) (h2 _ (by decide)), f.i 75 (h1 _ (by decide)) (h2 _ (by decide))]
  have e71 : ∀ k, h'.1 71 k = h.1 71 k := fun k => f.i 71 (h1 _ (by decide)) (h2 _ (by decide)) k
  simp only [e71]
  exact q
def FacM (f : Nat → Int) (h : AH) : Prop := ∀ j : Nat, j < 9 → h.1 77 j = f j
