/-! what holds when both objects have been made -/
theorem hI_b (o : Nat) (k : Int) : hI o k = -1 ∨ hI o k = 0 ∨ hI o k = 1 := by
  unfold hI
  repeat' split
  all_goals simp
theorem ok_h00 : OkH h00 := ⟨fun o k => by
  show inI (hI o k)
  have := hI_b o k
  constructor <;> omega, fun o k => show inL 0 from ⟨by decide, by decide⟩, fun o r k => show inI 0 from ⟨by decide, by decide⟩⟩
theorem inv0 : Inv 0 h00 := by
  have no : ∀ w : Int, 0 ≤ w → ¬ w < 0 := fun w a b => by omega
  refine ⟨(0, fun _ => 0, fun _ _ => 0, fun _ => 0, fun _ => 0, fun _ => 0, -1), (0, fun _ => 0), 1, [], ⟨by decide, by decide⟩, ⟨⟨⟨⟨by decide, by decide⟩, ⟨by decide, by decide⟩, fun w a b => absurd b (no w a)⟩, rfl, rfl, fun w a b => absurd b (no w a)⟩, ⟨⟨by decide, by decide⟩, rfl, fun k a b => absurd b (no k a)⟩, rfl, ⟨⟨rfl, by decide⟩, fun j E C z => by simp at z⟩⟩, ⟨⟨⟨⟨by decide, by decide⟩, ⟨by decide, by decide⟩, fun w a b => absurd b (no w a)⟩, ⟨rfl, rfl⟩, fun w a b => absurd b (no w a)⟩, 0, ⟨by decide, fun w _ => ⟨fun z => by simp at z, fun z => absurd z.1 (no w (by omega))⟩⟩, rfl⟩, ⟨⟨by decide, by decide⟩, rfl, fun k a b => absurd b (no k a)⟩, rfl, ⟨⟨rfl, by decide⟩, fun j E C z => by simp at z⟩, fun a b a0 a1 => absurd a1 (no a a0), ⟨⟨by decide, by decide⟩, fun i a b => absurd b (no i a), fun s _ _ z => absurd rfl z⟩, ?_, fun z => absurd z (by decide), fun z => absurd z (by decide)⟩
  unfold Ages
  decide
theorem Inv.upI {c c' : Int} {h : AH} (I : Inv c h) (hc : c ≤ c') : Inv c' h := by
  obtain ⟨g, t, x, lw, hx, m, i⟩ := I
  exact ⟨g, t, x, lw, hx, m, i.up hc⟩
