/-! the class reckons its law -/
theorem w32i {x : Int} (h : -2147483648 ≤ x ∧ x < 2147483648) : w32 x = x := okI h
theorem ordAt_app {h : AH} {o : Nat} {off : Int} {l l' : List (Int × Int)} (q : ordAt h o off (l ++ l')) : ordAt h o off l ∧ ordAt h o (off + 2 * l.length) l' := by
  constructor
  · intro i v hv
    exact q i v (by rw [List.getElem?_append_left (List.getElem?_eq_some_iff.mp hv).1]; exact hv)
  · intro i v hv
    have := q (l.length + i) v (by rw [List.getElem?_append_right (by omega), Nat.add_sub_cancel_left]; exact hv)
    rw [show off + 2 * ((l.length + i : Nat) : Int) = off + 2 * (l.length : Int) + 2 * i by omega] at this
    exact this
theorem ordAt_cons {h : AH} {o : Nat} {off : Int} {v : Int × Int} {l : List (Int × Int)} (q : ordAt h o off (v :: l)) : (h.1 o off = v.1 ∧ h.1 o (off + 1) = v.2) ∧ ordAt h o (off + 2) l := by
  constructor
  · have := q 0 v rfl
    rw [show off + 2 * ((0 : Nat) : Int) = off by omega] at this
    exact this
  · intro i w hw
    have := q (i + 1) w hw
    rw [show off + 2 * ((i + 1 : Nat) : Int) = off + 2 + 2 * i by omega] at this
    exact this
theorem ordAt_fr {h h' : AH} {o : Nat} {off : Int} {l : List (Int × Int)} (q : ordAt h o off l) (e : ∀ k, h'.1 o k = h.1 o k) : ordAt h' o off l := fun i v hv => by rw [e, e]; exact q i v hv
/-- the signs, and the operations as opV counts them -/
def sgOp (s op : Int) : Prop := (s = 43 ∧ op = 2) ∨ (s = 45 ∧ op = 3) ∨ (s = 42 ∧ op = 4) ∨ (s = 47 ∧ op = 5) ∨ (s = 37 ∧ op = 6)
def sgCmp (s op : Int) : Prop := (s = 60 ∧ op = 7) ∨ (s = 62 ∧ op = 8) ∨ (s = 61 ∧ op = 9)
section CE
variable {d : Nat} {h : AH} {K : Int → AH → Prop}
theorem cJoinsV (hd : 0 < d) {s op n x y : Int} (hs : sgOp s op) (n0 : 0 ≤ n) (n1 : n + 2 ≤ 32) (e8 : h.1 3 8 = n + 2) (ex : h.1 24 n = x) (ey : h.1 24 (n + 1) = y) (kF : opV op x y = none → K 0 h) (kT : ∀ v h', opV op x y = some v → Fr [24] [(3, 8), (3, 9)] h h' → h'.1 3 8 = n + 1 → h'.1 24 n = v → (∀ i, i < n → h'.1 24 i = h.1 24 i) → h'.1 3 9 = h.1 3 9 → K 1 h') : Call d M_LawCode_joinsTwo [vR 3 (-1), vI s] h K := by
  refine c_LawCode_joinsTwo 0 hd ?_
  rw [e8, w32i (by omega), w32i (by omega), show n + 2 - 2 = n by omega, show n + 2 - 1 = n + 1 by omega, ex, ey]
  have put : ∀ v, opV op x y = some v → A_LawCode_joinsTwo_194 0 K v h := fun v hv => s_LawCode_joinsTwo_194 (by
    rw [e8, w32i (x := n + 2 - 1) (by omega), show n + 2 - 1 = n + 1 by omega, w32i (x := n + 1 - 1) (by omega), show n + 1 - 1 = n by omega]
    refine ⟨ib (by omega), kT v _ hv ((Fr.wI (Or.inr (by decide))).trans (Fr.wI (Or.inl (by decide)))) (by rw [rI_ne (by decide)]; exact rI_eq) rI_eq (fun i hi => by rw [rI_nk (by omega), rI_ne (by decide)]) (by rw [rI_ne (by decide), rI_nk (by decide)])⟩)
  refine ⟨fun z => by omega, fun _ => ⟨fun _ => ⟨ib (by omega), ib (by omega), ?_⟩, fun z => by omega⟩⟩
  unfold opV at put kF
  rcases hs with ⟨rfl, rfl⟩ | ⟨rfl, rfl⟩ | ⟨rfl, rfl⟩ | ⟨rfl, rfl⟩ | ⟨rfl, rfl⟩
  · refine ⟨fun z => by omega, fun _ => ⟨fun z => by omega, fun _ => ⟨fun _ => ⟨fun _ => s_LawCode_joinsTwo_137 ⟨fun z => absurd rfl z, fun _ => s_LawCode_joinsTwo_152 (put _ rfl)⟩, fun z => absurd rfl z⟩, fun z => by omega⟩⟩⟩
  · refine ⟨fun z => by omega, fun _ => ⟨fun z => by omega, fun _ => ⟨fun _ => ⟨fun z => by omega, fun _ => ⟨fun z => absurd rfl z, fun _ => s_LawCode_joinsTwo_137 ⟨fun _ => s_LawCode_joinsTwo_152 (put _ rfl), fun z => by omega⟩⟩⟩, fun z => by omega⟩⟩⟩
  · refine ⟨fun z => by omega, fun _ => ⟨fun z => by omega, fun _ => ⟨fun _ => ⟨fun z => by omega, fun _ => ⟨fun _ => ⟨fun z => absurd rfl z, fun _ => put _ rfl⟩, fun z => by omega⟩⟩, fun z => by omega⟩⟩⟩
  · refine ⟨fun z => by omega, fun _ => ⟨fun z => by omega, fun _ => ⟨fun _ => ⟨fun z => by omega, fun _ => ⟨fun _ => ⟨fun _ => ⟨fun hy => ⟨fun z => absurd rfl z, fun _ => ⟨hy, s_LawCode_joinsTwo_192 (put _ (by rw [if_neg (by decide), if_neg (by decide), if_neg (by decide), if_pos rfl, if_neg hy]))⟩⟩, fun hy => kF (by rw [if_neg (by decide), if_neg (by decide), if_neg (by decide), if_pos rfl, if_pos hy])⟩, fun z => by omega⟩, fun z => by omega⟩⟩, fun z => by omega⟩⟩⟩
  · refine ⟨fun z => by omega, fun _ => ⟨fun z => by omega, fun _ => ⟨fun _ => ⟨fun z => by omega, fun _ => ⟨fun _ => ⟨fun _ => ⟨fun hy => ⟨fun _ => ⟨hy, s_LawCode_joinsTwo_192 (put _ (by rw [if_neg (by decide), if_neg (by decide), if_neg (by decide), if_neg (by decide), if_pos rfl, if_neg hy]))⟩, fun z => by omega⟩, fun hy => kF (by rw [if_neg (by decide), if_neg (by decide), if_neg (by decide), if_neg (by decide), if_pos rfl, if_pos hy])⟩, fun z => by omega⟩, fun z => by omega⟩⟩, fun z => by omega⟩⟩⟩
theorem cJoinsB (hd : 0 < d) {s op n x y : Int} (hs : sgCmp s op) (n0 : 0 ≤ n) (n1 : n + 2 ≤ 32) (e8 : h.1 3 8 = n + 2) (ex : h.1 24 n = x) (ey : h.1 24 (n + 1) = y) (kT : ∀ v h', opV op x y = some v → (v = 0 ∨ v = 1) → Fr [24] [(3, 8), (3, 9)] h h' → h'.1 3 8 = n → h'.1 3 9 = v → (∀ i, i < n → h'.1 24 i = h.1 24 i) → K 1 h') : Call d M_LawCode_joinsTwo [vR 3 (-1), vI s] h K := by
  refine c_LawCode_joinsTwo 0 hd ?_
  rw [e8, w32i (by omega), w32i (by omega), show n + 2 - 2 = n by omega, show n + 2 - 1 = n + 1 by omega, ex, ey]
  have put : ∀ v, opV op x y = some v → (v = 0 ∨ v = 1) → v = (if s = 60 then (if y ≤ x then (0 : Int) else 1 : Int) else if s = 62 then (if x ≤ y then (0 : Int) else 1 : Int) else if x = y then (1 : Int) else 0) → A_LawCode_joinsTwo_61 0 K s x y h := fun v hv hb he => s_LawCode_joinsTwo_61 (by
    rw [e8, w32i (x := n + 2 - 2) (by omega), show n + 2 - 2 = n by omega, ← he]
    exact ⟨hb, kT v _ hv hb ((Fr.wI (Or.inr (by decide))).trans (Fr.wI (Or.inr (by decide)))) (by rw [rI_nk (by decide)]; exact rI_eq) rI_eq (fun i hi => by rw [rI_ne (by decide), rI_ne (by decide)])⟩)
  refine ⟨fun z => by omega, fun _ => ⟨fun _ => ⟨ib (by omega), ib (by omega), ?_⟩, fun z => by omega⟩⟩
  rcases hs with ⟨rfl, rfl⟩ | ⟨rfl, rfl⟩ | ⟨rfl, rfl⟩
  · have go := put (if x < y then 1 else 0) rfl (by split <;> simp) (by
      rw [if_pos rfl]
      by_cases z : x < y
      · rw [if_pos z, if_neg (by omega)]
      · rw [if_neg z, if_pos (by omega)])
    exact ⟨fun _ => go, fun z => absurd rfl z⟩
  · have go := put (if y < x then 1 else 0) rfl (by split <;> simp) (by
      rw [if_neg (show ¬ (62 : Int) = 60 by decide), if_pos (show (62 : Int) = 62 from rfl)]
      by_cases z : y < x
      · rw [if_pos z, if_neg (by omega)]
      · rw [if_neg z, if_pos (by omega)])
    exact ⟨fun z => by omega, fun _ => ⟨fun _ => go, fun z => absurd rfl z⟩⟩
  · have go := put (if x = y then 1 else 0) rfl (by split <;> simp) (by
      rw [if_neg (show ¬ (61 : Int) = 60 by decide), if_neg (show ¬ (61 : Int) = 62 by decide)])
    exact ⟨fun z => by omega, fun _ => ⟨fun z => by omega, fun _ => ⟨fun z => absurd rfl z, fun _ => go⟩⟩⟩
/-- what an expression does to the held numbers -/
def CRunE (f : Nat → Int) (K : Int → AH → Prop) (l : List (Int × Int)) (q : Nat) (r : Option Int) : Prop := ∀ (n at' v3 : Int) (hh : AH), ordAt hh 20 at' l → FacC f hh → hh.1 3 8 = n → 0 ≤ n → n + q ≤ 32 → 0 ≤ at' → at' + 2 * l.length ≤ 400 → 2 * v3 ≤ at' → 0 ≤ v3 → (r = none → ∀ h', Fr [24] [(3, 8), (3, 9)] hh h' → K 0 h') → (∀ v h' v3', r = some v → Fr [24] [(3, 8), (3, 9)] hh h' → h'.1 3 8 = n + 1 → h'.1 24 n = v → (∀ i, i < n → h'.1 24 i = hh.1 24 i) → h'.1 3 9 = hh.1 3 9 → 2 * v3' ≤ at' + 2 * l.length → 0 ≤ v3' → A_LawCode_runsThrough_14 2 K (at' + 2 * l.length) v3' h') → A_LawCode_runsThrough_14 2 K at' v3 hh
theorem CRunE.push {f : Nat → Int} {o w x : Int} (hw : (o = 1 ∧ x = w) ∨ (∃ j : Nat, j < 9 ∧ o = 2 ∧ w = (j : Int) ∧ x = f j)) : CRunE f K [(o, w)] 1 (some x) := by
  intro n at' v3 hh oc fc e8 n0 n1 a0 a1 b0 b1 kF kT
  obtain ⟨⟨c1, c2⟩, -⟩ := ordAt_cons oc
  have c1 : hh.1 20 at' = o := c1
  have c2 : hh.1 20 (at' + 1) = w := c2
  simp only [List.length_cons, List.length_nil] at a1 kT
  have o12 : o = 1 ∨ o = 2 := by
    rcases hw with ⟨z, _⟩ | ⟨_, _, z, _⟩
    · exact Or.inl z
    · exact Or.inr z
  have fin : inb n 32 ∧ (inI (n + 1) ∧ (((1 : Int) ≠ 0 → (inI (v3 + 1) ∧ A_LawCode_runsThrough_14 2 K (at' + 2) (v3 + 1) (wI (wI hh 24 n x) 3 8 (n + 1)))) ∧ ((1 : Int) = 0 → K 0 (wI (wI hh 24 n x) 3 8 (n + 1))))) := ⟨ib (by omega), ii (by omega), br1' ⟨ii (by omega), by
    have := kT x (wI (wI hh 24 n x) 3 8 (n + 1)) (v3 + 1) rfl ((Fr.wI (Or.inl (by decide))).trans (Fr.wI (Or.inr (by decide)))) rI_eq (by rw [rI_ne (by decide)]; exact rI_eq) (fun i hi => by rw [rI_ne (by decide), rI_nk (by omega)]) (by rw [rI_nk (by decide), rI_ne (by decide)]) (by omega) (by omega)
    exact this⟩⟩
  refine s_LawCode_runsThrough_14 ⟨fun z => by omega, fun _ => ⟨fun z => by omega, fun _ => ⟨ii (by omega), fun _ => ⟨ib (by omega), ib (by omega), ii (by omega), ?_⟩, fun z => by omega⟩⟩⟩
  rw [c1, c2]
  refine ⟨fun _ => ⟨fun _ => ⟨fun z => by omega, fun _ => ⟨fun _ => c_LawCode_reckons 1 (by decide) ?_, fun z => by omega⟩⟩, fun z => by omega⟩, fun z => by omega⟩
  have mid : (o = 2 → 0 ≤ w ∧ w < 9) → A_LawCode_reckons_16 1 (fun r6 h5 => ((r6 ≠ 0 → (inI (v3 + 1) ∧ A_LawCode_runsThrough_14 2 K (at' + 2) (v3 + 1) h5)) ∧ (r6 = 0 → K 0 h5))) o w hh := fun hw2 => by
    refine s_LawCode_reckons_16 ?_
    rw [e8]
    have last : A_LawCode_reckons_49 1 (fun r6 h5 => ((r6 ≠ 0 → (inI (v3 + 1) ∧ A_LawCode_runsThrough_14 2 K (at' + 2) (v3 + 1) h5)) ∧ (r6 = 0 → K 0 h5))) o w hh := by
      refine s_LawCode_reckons_49 ⟨fun z => ?_, fun z => ?_⟩
      · have h2 := hw2 (by omega)
        refine ⟨ib (by omega), s_LawCode_reckons_72 ?_⟩
        rcases hw with ⟨y, _⟩ | ⟨j, j1, j2, j3, j4⟩
        · exact absurd y z
        · rw [e8, j3, fc j j1, ← j4]; exact fin
      · refine s_LawCode_reckons_72 ?_
        rcases hw with ⟨_, y⟩ | ⟨j, j1, j2, j3, j4⟩
        · rw [e8, ← y]; exact fin
        · omega
    exact ⟨fun z => by omega, fun _ => ⟨fun z => by omega, fun _ => ⟨fun _ => last, fun z => ⟨fun y => by have := hw2 z; omega, fun _ => ⟨fun _ => last, fun y => by have := hw2 z; omega⟩⟩⟩⟩⟩
  have b9 : o = 2 → 0 ≤ w ∧ w < 9 := fun z => by
    rcases hw with ⟨y, _⟩ | ⟨j, j1, j2, j3, j4⟩
    · omega
    · omega
  exact ⟨fun _ => mid b9, fun z => ⟨fun _ => mid b9, fun y => by omega⟩⟩
theorem CRunE.two {f : Nat → Int} {s op : Int} {la lb : List (Int × Int)} {qa qb : Nat} {a b : Option Int} (hs : sgOp s op) (pa : 1 ≤ qa) (pb : 1 ≤ qb) (ra : CRunE f K la qa a) (rb : CRunE f K lb qb b) : CRunE f K (la ++ (lb ++ [(s, 0)])) (max qa (qb + 1)) (two op a b) := by
  intro n at' v3 hh oc fc e8 n0 n1 a0 a1 b0 b1 kF kT
  obtain ⟨c1, c2⟩ := ordAt_app oc
  obtain ⟨c2, c3⟩ := ordAt_app c2
  obtain ⟨⟨c3, -⟩, -⟩ := ordAt_cons c3
  have c3 : hh.1 20 (at' + 2 * (la.length : Int) + 2 * (lb.length : Int)) = s := c3
  simp only [List.length_append, List.length_cons, List.length_nil] at a1 kT
  refine ra n at' v3 hh c1 fc e8 n0 (by omega) a0 (by omega) b0 b1 (fun z h' f' => kF (by rw [z]; rfl) h' f') (fun x h1 v3' hx f1 e1 x1 s1 t1 g0 g1 => ?_)
  refine rb (n + 1) _ v3' h1 (ordAt_fr c2 (fun k => by rw [f1.i 20])) (fun j hj => by rw [f1.i 23]; exact fc j hj) e1 (by omega) (by omega) (by omega) (by omega) g0 g1 (fun z h' f' => kF (by rw [hx, z]; rfl) h' (f1.trans f')) (fun y h2 v3'' hy f2 e2 x2 s2 t2 g2 g3 => ?_)
  have so : s = 43 ∨ s = 45 ∨ s = 42 ∨ s = 47 ∨ s = 37 := by unfold sgOp at hs; omega
  refine s_LawCode_runsThrough_14 ⟨fun z => by omega, fun _ => ⟨fun z => by omega, fun _ => ⟨ii (by omega), fun _ => ⟨ib (by omega), ib (by omega), ii (by omega), ?_⟩, fun z => by omega⟩⟩⟩
  rw [f2.i 20, f1.i 20, c3]
  refine ⟨fun _ => ⟨fun _ => ⟨fun z => by omega, fun _ => ⟨fun _ => c_LawCode_reckons 1 (by decide) ⟨fun z => by omega, fun _ => ⟨fun z => by omega, fun _ => ?_⟩⟩, fun z => by omega⟩⟩, fun z => by omega⟩, fun z => by omega⟩
  refine cJoinsV (x := x) (y := y) (by decide) hs n0 (by omega) (by rw [e2]; omega) (by rw [s2 n (by omega)]; exact x1) x2 (fun z => ⟨Or.inl rfl, br0' (kF (by rw [hx, hy]; exact z) h2 (f1.trans f2))⟩) (fun v h3 hv f3 e3 x3 s3 t3 => ⟨Or.inr rfl, br1' ⟨ii (by omega), ?_⟩⟩)
  have := kT v h3 (v3'' + 1) (by rw [hx, hy]; exact hv) ((f1.trans f2).trans f3) e3 x3 (fun i hi => by rw [s3 i hi, s2 i (by omega), s1 i hi]) (by rw [t3, t2, t1]) (by omega) (by omega)
  rw [show at' + 2 * ((la.length + (lb.length + (0 + 1)) : Nat) : Int) = at' + 2 * (la.length : Int) + 2 * (lb.length : Int) + 2 by omega] at this
  exact this
theorem hE_pos : ∀ E, WfE E → 1 ≤ hE E := by
  intro E hE'
  induction E with
  | int v => exact Nat.le_refl 1
  | arg j => exact Nat.le_refl 1
  | add a b iha ihb => have := iha hE'.1; unfold hE; omega
  | sub a b iha ihb => have := iha hE'.1; unfold hE; omega
  | mul a b iha ihb => have := iha hE'.1; unfold hE; omega
  | div a b iha ihb => have := iha hE'.1; unfold hE; omega
  | rem a b iha ihb => have := iha hE'.1; unfold hE; omega
  | _ => exact hE'.elim
theorem cRunE {f : Nat → Int} : ∀ E, WfE E → CRunE f K (cE E) (hE E) (evE f E) := by
  intro E
  induction E with
  | int v => intro w; exact CRunE.push (Or.inl ⟨rfl, rfl⟩)
  | arg j => intro w; exact CRunE.push (Or.inr ⟨j, w, rfl, rfl, rfl⟩)
  | add a b iha ihb => intro w; exact CRunE.two (op := 2) (Or.inl ⟨rfl, rfl⟩) (hE_pos a w.1) (hE_pos b w.2) (iha w.1) (ihb w.2)
  | sub a b iha ihb => intro w; exact CRunE.two (op := 3) (Or.inr (Or.inl ⟨rfl, rfl⟩)) (hE_pos a w.1) (hE_pos b w.2) (iha w.1) (ihb w.2)
  | mul a b iha ihb => intro w; exact CRunE.two (op := 4) (Or.inr (Or.inr (Or.inl ⟨rfl, rfl⟩))) (hE_pos a w.1) (hE_pos b w.2) (iha w.1) (ihb w.2)
  | div a b iha ihb => intro w; exact CRunE.two (op := 5) (Or.inr (Or.inr (Or.inr (Or.inl ⟨rfl, rfl⟩)))) (hE_pos a w.1) (hE_pos b w.2) (iha w.1) (ihb w.2)
  | rem a b iha ihb => intro w; exact CRunE.two (op := 6) (Or.inr (Or.inr (Or.inr (Or.inr ⟨rfl, rfl⟩)))) (hE_pos a w.1) (hE_pos b w.2) (iha w.1) (ihb w.2)
  | _ => intro w; exact w.elim
end CE
