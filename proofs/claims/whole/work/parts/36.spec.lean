/-! THE LAW's meaning. A clause: (none: n, some E: c, E), C. In C: 'lt a b' a < b, 'le a b' a > b, 'eq a b' a = b, 'all _ c' (c) -/
abbrev Cl : Type := Option Jvm.Term × Jvm.Cond
abbrev LW : Type := List Cl
def evE (f : Nat → Int) : Jvm.Term → Option Int
  | .int v => some v.toInt
  | .arg k => some (f k)
  | .add a b => (evE f a).bind fun x => (evE f b).bind fun y => some (w32 (x + y))
  | .sub a b => (evE f a).bind fun x => (evE f b).bind fun y => some (w32 (x - y))
  | .mul a b => (evE f a).bind fun x => (evE f b).bind fun y => some (w32 (x * y))
  | .div a b => (evE f a).bind fun x => (evE f b).bind fun y => if y = 0 then none else some (w32 (x.tdiv y))
  | .rem a b => (evE f a).bind fun x => (evE f b).bind fun y => if y = 0 then none else some (x.tmod y)
  | _ => none
def evC (f : Nat → Int) : Jvm.Cond → Option Bool
  | .lt a b => (evE f a).bind fun x => (evE f b).bind fun y => some (decide (x < y))
  | .le a b => (evE f a).bind fun x => (evE f b).bind fun y => some (decide (y < x))
  | .eq a b => (evE f a).bind fun x => (evE f b).bind fun y => some (decide (x = y))
  | .not c => (evC f c).bind fun x => some (!x)
  | .and c e => (evC f c).bind fun x => if x then evC f e else some false
  | .or c e => (evC f c).bind fun x => if x then some true else evC f e
  | .all _ c => evC f c
  | _ => none
def clamp (v : Int) : Int := max 1 (min 99 v)
/-- what a change of these facts costs; 0: it may not be -/
def costL (f : Nat → Int) : LW → Option Int → Int
  | [], none => 1
  | [], some c => c
  | (none, C) :: r, c => if evC f C = some true then 0 else costL f r c
  | (some _, _) :: r, some c => costL f r (some c)
  | (some E, C) :: r, none => if evC f C = some true then costL f r (some (clamp ((evE f E).getD 0))) else costL f r none
/-- the facts of a CHANGE -/
def fac (g : G) (a b κ i : Int) : Nat → Int
  | 0 => κ
  | 1 => i
  | 2 => if κ = 1 then 26 else gt g a i
  | 3 => if κ = 2 then 26 else if κ = 3 then gt g a (i + 1) else gt g b i
  | 4 => gl g a
  | 5 => gk g a
  | 6 => gk g b
  | 7 => a
  | _ => b
def cst (g : G) (lw : LW) (a b κ i : Int) : Int := costL (fac g a b κ i) lw none
theorem costL_b (f : Nat → Int) : ∀ (lw : LW) (c : Option Int), (∀ x, c = some x → 1 ≤ x ∧ x ≤ 99) → 0 ≤ costL f lw c ∧ costL f lw c ≤ 99
  | [], none, _ => ⟨by show (0 : Int) ≤ 1; decide, by show (1 : Int) ≤ 99; decide⟩
  | [], some c, h => ⟨by have := h c rfl; show 0 ≤ c; omega, (h c rfl).2⟩
  | (none, C) :: r, c, h => by
    unfold costL
    split
    · exact ⟨Int.le_refl 0, by decide⟩
    · exact costL_b f r c h
  | (some E, C) :: r, some c, h => by
    unfold costL
    exact costL_b f r _ h
  | (some E, C) :: r, none, h => by
    unfold costL
    split
    · exact costL_b f r _ (fun x hx => by cases hx; unfold clamp; omega)
    · exact costL_b f r _ (fun x hx => by cases hx)
theorem cst_b (g : G) (lw : LW) (a b κ i : Int) : 0 ≤ cst g lw a b κ i ∧ cst g lw a b κ i ≤ 99 := costL_b _ lw none (fun x hx => by cases hx)
/-! CHANGES -/
def withoutE (g : G) (w p s : Int) : Prop := ∀ k, 0 ≤ k → k < gl g s → gt g s k = gt g w (if k < p then k else k + 1)
def alikeB (g : G) (a b p m : Int) : Prop := ∀ k, 0 ≤ k → k < gl g a → (k < p ∨ p + m ≤ k) → gt g a k = gt g b k
/-- a CHANGE of the kind κ at the place i makes b of a -/
def isCh (g : G) (a b κ i : Int) : Prop :=
  (κ = 0 ∧ gl g b - gl g a = 0 ∧ (0 ≤ i ∧ i < gl g a) ∧ gt g a i ≠ gt g b i ∧ alikeB g a b i 1) ∨
  (κ = 1 ∧ gl g b - gl g a = 1 ∧ (0 ≤ i ∧ i ≤ gl g a) ∧ withoutE g b i a) ∨
  (κ = 2 ∧ gl g b - gl g a = -1 ∧ (0 ≤ i ∧ i < gl g a) ∧ withoutE g a i b) ∨
  (κ = 3 ∧ gl g b - gl g a = 0 ∧ (0 ≤ i ∧ i + 1 < gl g a) ∧ gt g a i ≠ gt g a (i + 1) ∧ gt g a i = gt g b (i + 1) ∧ gt g a (i + 1) = gt g b i ∧ alikeB g a b i 2)
/-- a STEP: what it costs (0: there is none), its kind, its place -/
def StepIs (g : G) (lw : LW) (a b : Int) (s : Int × Int × Int) : Prop :=
  (s.1 = 0 ∧ s.2 = (0, 0) ∧ (us g a → us g b → ∀ κ i, isCh g a b κ i → cst g lw a b κ i = 0)) ∨
  (us g a ∧ us g b ∧ s.1 ≠ 0 ∧ isCh g a b s.2.1 s.2.2 ∧ cst g lw a b s.2.1 s.2.2 = s.1 ∧ ∀ κ i, isCh g a b κ i → cst g lw a b κ i ≠ 0 → s.1 < cst g lw a b κ i ∨ (s.1 = cst g lw a b κ i ∧ (s.2.1 < κ ∨ (s.2.1 = κ ∧ s.2.2 ≤ i))))
theorem StepIs.uniq {g : G} {lw : LW} {a b : Int} {s t : Int × Int × Int} (hs : StepIs g lw a b s) (ht : StepIs g lw a b t) : s = t := by
  obtain ⟨c, k, p⟩ := s
  obtain ⟨c', k', p'⟩ := t
  rcases hs with ⟨s1, s2, s3⟩ | ⟨s1, s2, s3, s4, s5, s6⟩ <;> rcases ht with ⟨t1, t2, t3⟩ | ⟨t1, t2, t3, t4, t5, t6⟩
  · dsimp only at s1 s2 t1 t2
    rw [s1, s2, t1, t2]
  · exact absurd (s3 t1 t2 _ _ t4) (by rw [t5]; exact t3)
  · exact absurd (t3 s1 s2 _ _ s4) (by rw [s5]; exact s3)
  · dsimp only at *
    have q1 := s6 k' p' t4 (by rw [t5]; exact t3)
    have q2 := t6 k p s4 (by rw [s5]; exact s3)
    rw [t5] at q1
    rw [s5] at q2
    have e1 : c = c' := by omega
    have e2 : k = k' := by omega
    have e3 : p = p' := by omega
    rw [e1, e2, e3]
noncomputable def sc (g : G) (lw : LW) (a b : Int) : Int × Int × Int := @dite _ (∃ s, StepIs g lw a b s) (Classical.propDecidable _) (fun h => h.choose) (fun _ => (0, 0, 0))
theorem sc_of {g : G} {lw : LW} {a b : Int} {s : Int × Int × Int} (hs : StepIs g lw a b s) : sc g lw a b = s := by
  have hx : ∃ s, StepIs g lw a b s := ⟨s, hs⟩
  unfold sc
  rw [dif_pos hx]
  exact hx.choose_spec.uniq hs
