/-! nodes: open, what a change leaves behind, crash, restart -/
theorem sq_dX0 {post : Int32 → Prop} {p : Int32} (h : p < 0 ∨ nI 16 ≤ p) (k : post 0) : wpX_isDoc post p := by
  unfold wpX_isDoc
  exact br_c (fun _ => k) (fun z => br_t (h.resolve_left z) k)
theorem sq_dX1 {post : Int32 → Prop} {d : Nat} (h : d < 16) (k : post 1) : wpX_isDoc post (nI d) := by
  unfold wpX_isDoc
  exact br_f (nI_pos (by omega)) (br_f (nI_ge (b := 16) h (by omega)) k)
theorem sq_tX0 {post : Int32 → Prop} {p : Int32} (h : p < 0 ∨ nI 6 ≤ p) (k : post 0) : wpX_isTerm post p := by
  unfold wpX_isTerm
  exact br_c (fun _ => k) (fun z => br_t (h.resolve_left z) k)
theorem sq_tX1 {post : Int32 → Prop} {d : Nat} (h : d < 6) (k : post 1) : wpX_isTerm post (nI d) := by
  unfold wpX_isTerm
  exact br_f (nI_pos (by omega)) (br_f (nI_ge (b := 6) h (by omega)) k)
theorem sq_nX0 {post : Int32 → Prop} {p : Int32} (h : p < 0 ∨ nI 6 ≤ p) (k : post 0) : wpX_isNode post p := by
  unfold wpX_isNode
  exact br_c (fun _ => k) (fun z => br_t (h.resolve_left z) k)
theorem sq_nX1 {post : Int32 → Prop} {d : Nat} (h : d < 6) (k : post 1) : wpX_isNode post (nI d) := by
  unfold wpX_isNode
  exact br_f (nI_pos (by omega)) (br_f (nI_ge (b := 6) h (by omega)) k)
theorem sq_dY0 {post : Int32 → Prop} {kf : Int32} {ey cm sh sd dn st hi so : Nat → Int32} {p : Int32} (h : p < 0 ∨ nI 16 ≤ p) (k : post 0) : wpY_isDoc post (kf, ey, cm, sh, sd, dn, st, hi, so) p := by
  unfold wpY_isDoc
  exact br_c (fun _ => k) (fun z => br_t (h.resolve_left z) k)
theorem sq_dY1 {post : Int32 → Prop} {kf : Int32} {ey cm sh sd dn st hi so : Nat → Int32} {d : Nat} (h : d < 16) (k : post 1) : wpY_isDoc post (kf, ey, cm, sh, sd, dn, st, hi, so) (nI d) := by
  unfold wpY_isDoc
  exact br_f (nI_pos (by omega)) (br_f (nI_ge (b := 16) h (by omega)) k)
theorem sq_tY0 {post : Int32 → Prop} {kf : Int32} {ey cm sh sd dn st hi so : Nat → Int32} {p : Int32} (h : p < 0 ∨ nI 6 ≤ p) (k : post 0) : wpY_isTerm post (kf, ey, cm, sh, sd, dn, st, hi, so) p := by
  unfold wpY_isTerm
  exact br_c (fun _ => k) (fun z => br_t (h.resolve_left z) k)
theorem sq_tY1 {post : Int32 → Prop} {kf : Int32} {ey cm sh sd dn st hi so : Nat → Int32} {d : Nat} (h : d < 6) (k : post 1) : wpY_isTerm post (kf, ey, cm, sh, sd, dn, st, hi, so) (nI d) := by
  unfold wpY_isTerm
  exact br_f (nI_pos (by omega)) (br_f (nI_ge (b := 6) h (by omega)) k)
theorem sq_oX {post : Int32 → Prop} {ke : Int32} {up cu ex cn se sc hd hs : Nat → Int32} {s : Nat} (hs3 : s < 3) (k1 : sq_opX up cu s → post 1) (k0 : ¬ sq_opX up cu s → post 0) : wpX_isOpen post (ke, up, cu, ex, cn, se, sc, hd, hs) (nI s) := by
  have c0 : (nI s).toNatClampNeg = s := sq_c (by omega)
  have c3 : (nI (s + 3)).toNatClampNeg = s + 3 := sq_c (by omega)
  have i0 : vp_in (nI s) 6 := pk_in s 6 (by omega)
  have i3 : vp_in (nI (s + 3)) 6 := pk_in (s + 3) 6 (by omega)
  unfold wpX_isOpen wX_isOpen_22
  dsimp only
  intro x2 e
  subst e
  rw [sq_3, c0, c3]
  unfold sq_opX at k1 k0
  by_cases a : up s = 0 <;> by_cases b : cu s = 0 <;> by_cases c : up (s + 3) = 0 <;> by_cases d : cu (s + 3) = 0 <;> simp_all
theorem sq_oX1 {post : Int32 → Prop} {ke : Int32} {up cu ex cn se sc hd hs : Nat → Int32} {s : Nat} (hs3 : s < 3) (h : sq_opX up cu s) (k : post 1) : wpX_isOpen post (ke, up, cu, ex, cn, se, sc, hd, hs) (nI s) :=
  sq_oX hs3 (fun _ => k) (fun z => absurd h z)
theorem sq_oX0 {post : Int32 → Prop} {ke : Int32} {up cu ex cn se sc hd hs : Nat → Int32} {s : Nat} (hs3 : s < 3) (h : ¬ sq_opX up cu s) (k : post 0) : wpX_isOpen post (ke, up, cu, ex, cn, se, sc, hd, hs) (nI s) :=
  sq_oX hs3 (fun z => absurd z h) (fun _ => k)
theorem sq_oY {post : Int32 → Prop} {kf : Int32} {ey cm sh sd dn st hi so : Nat → Int32} {s : Nat} (hs3 : s < 3) (k1 : sq_opY dn st s → post 1) (k0 : ¬ sq_opY dn st s → post 0) : wpY_open post (kf, ey, cm, sh, sd, dn, st, hi, so) (nI s) := by
  have c0 : (nI s).toNatClampNeg = s := sq_c (by omega)
  have c3 : (nI (s + 3)).toNatClampNeg = s + 3 := sq_c (by omega)
  have i0 : vp_in (nI s) 6 := pk_in s 6 (by omega)
  have i3 : vp_in (nI (s + 3)) 6 := pk_in (s + 3) 6 (by omega)
  unfold wpY_open wY_open_29
  dsimp only
  refine br_f (nI_pos (by omega)) (br_t (nI_le (b := 2) (by omega) (by omega)) ?_)
  rw [sq_3, c0, c3]
  unfold sq_opY at k1 k0
  by_cases a : dn s = 0 <;> by_cases b : st s = 0 <;> by_cases c : dn (s + 3) = 0 <;> by_cases d : st (s + 3) = 0 <;> simp_all
theorem sq_oY1 {post : Int32 → Prop} {kf : Int32} {ey cm sh sd dn st hi so : Nat → Int32} {s : Nat} (hs3 : s < 3) (h : sq_opY dn st s) (k : post 1) : wpY_open post (kf, ey, cm, sh, sd, dn, st, hi, so) (nI s) :=
  sq_oY hs3 (fun _ => k) (fun z => absurd h z)
theorem sq_oY0 {post : Int32 → Prop} {kf : Int32} {ey cm sh sd dn st hi so : Nat → Int32} {s : Nat} (hs3 : s < 3) (h : ¬ sq_opY dn st s) (k : post 0) : wpY_open post (kf, ey, cm, sh, sd, dn, st, hi, so) (nI s) :=
  sq_oY hs3 (fun z => absurd z h) (fun _ => k)
theorem sq_op {up cu dn st : Nat → Int32} (N : sq_N1 up cu dn st) {s : Nat} (hs3 : s < 3) : sq_opY dn st s ↔ sq_opX up cu s := by
  have a := N s (by omega)
  have b := N (s + 3) (by omega)
  unfold sq_opX sq_opY
  rw [a.1, a.2, b.1, b.2]
  simp only [Decidable.not_not]
/-- what a change leaves behind -/
def sq_LX (up cu cv : Nat → Int32) (s : Nat) : Prop := ∀ j, j < 6 → (cv j = 0 ↔ cu j = 0 ∨ ((j = s ∨ j = s + 3) ∧ up j = 0))
def sq_LY (dn st sv : Nat → Int32) (s : Nat) : Prop := ∀ j, j < 6 → (sv j = 0 ↔ st j = 0 ∧ ¬ ((j = s ∨ j = s + 3) ∧ ¬ dn j = 0))
theorem sq_leave1 {post : SX → Prop} {ke : Int32} {up cu ex cn se sc hd hs : Nat → Int32} {n x : Nat} (hx : x < 6)
    (k0 : up x = 0 → wX_leaveDownCopiesBehind_2 post ke n (nI (x + 3)) up (upd cu x 0) ex cn se sc hd hs)
    (k1 : ¬ up x = 0 → wX_leaveDownCopiesBehind_2 post ke n (nI (x + 3)) up cu ex cn se sc hd hs) : wX_leaveDownCopiesBehind_2 post ke (n + 1) (nI x) up cu ex cn se sc hd hs := by
  have c0 : (nI x).toNatClampNeg = x := sq_c (by omega)
  have i0 : vp_in (nI x) 6 := pk_in x 6 (by omega)
  exact pk_le 6 x (fun z => absurd z (by omega)) (fun _ => ⟨i0, br_c (fun z => ⟨i0, nm_r (e' := upd cu x 0) (by rw [c0, sq_n0]) (nm_r (sq_3 x) (k0 (by rw [c0] at z; exact z)))⟩) (fun z => nm_r (sq_3 x) (k1 (by rw [c0] at z; exact z)))⟩)
theorem sq_leave9 {post : SX → Prop} {ke : Int32} {up cu ex cn se sc hd hs : Nat → Int32} {n x : Nat} (hx : 6 ≤ x) (hx' : x < 100) (k : post (ke, up, cu, ex, cn, se, sc, hd, hs)) : wX_leaveDownCopiesBehind_2 post ke (n + 1) (nI x) up cu ex cn se sc hd hs :=
  pk_le 6 x (fun _ => k) (fun z => absurd z (by omega))
theorem sq_leave {post : SX → Prop} {ke : Int32} {up cu ex cn se sc hd hs : Nat → Int32} {s : Nat} (hs3 : s < 3) (k : ∀ cv, sq_LX up cu cv s → post (ke, up, cv, ex, cn, se, sc, hd, hs)) : wpX_leaveDownCopiesBehind post (ke, up, cu, ex, cn, se, sc, hd, hs) (nI s) := by
  have q : ∀ cv : Nat → Int32, (∀ j, j < 6 → cv j = if (j = s ∨ j = s + 3) ∧ up j = 0 then 0 else cu j) → post (ke, up, cv, ex, cn, se, sc, hd, hs) := by
    intro cv h
    refine k cv (fun j hj => ?_)
    rw [h j hj]
    by_cases z : (j = s ∨ j = s + 3) ∧ up j = 0 <;> simp [z]
  refine ⟨3, sq_leave1 (by omega) (fun a => sq_leave1 (by omega) (fun b => sq_leave9 (by omega) (by omega) (q _ ?_)) (fun b => sq_leave9 (by omega) (by omega) (q _ ?_))) (fun a => sq_leave1 (by omega) (fun b => sq_leave9 (by omega) (by omega) (q _ ?_)) (fun b => sq_leave9 (by omega) (by omega) (q _ ?_)))⟩
  all_goals
    intro j hj
    try unfold upd
    by_cases e : j = s
    · subst e; simp [a]
    · by_cases f : j = s + 3
      · subst f; simp [b]
      · simp [e, f]
theorem sq_changed {post : SY → Prop} {kf : Int32} {ey cm sh sd dn st hi so : Nat → Int32} {d : Nat} (hd16 : d < 16) (k : ∀ sv, sq_LY dn st sv (d % 3) → post (kf, ey, cm, sh, sd, dn, sv, hi, so)) : wpY_changed post (kf, ey, cm, sh, sd, dn, st, hi, so) (nI d) := by
  have q : ∀ sv : Nat → Int32, (∀ j, j < 6 → sv j = if (j = d % 3 ∨ j = d % 3 + 3) ∧ ¬ dn j = 0 then 1 else st j) → post (kf, ey, cm, sh, sd, dn, sv, hi, so) := by
    intro sv h
    refine k sv (fun j hj => ?_)
    rw [h j hj]
    by_cases z : (j = d % 3 ∨ j = d % 3 + 3) ∧ ¬ dn j = 0
    · rw [if_pos z]; exact ⟨fun y => absurd y sq_10, fun y => absurd z y.2⟩
    · rw [if_neg z]; exact ⟨fun y => ⟨y, z⟩, fun y => y.1⟩
  have hs3 : d % 3 < 3 := by omega
  unfold wpY_changed wY_changed_20
  dsimp only
  refine ⟨sq_30, nm_r (sq_r3 (by omega)) ?_⟩
  generalize d % 3 = s at *
  have c0 : (nI s).toNatClampNeg = s := sq_c (by omega)
  have c3 : (nI (s + 3)).toNatClampNeg = s + 3 := sq_c (by omega)
  have i0 : vp_in (nI s) 6 := pk_in s 6 (by omega)
  have i3 : vp_in (nI (s + 3)) 6 := pk_in (s + 3) 6 (by omega)
  rw [sq_3, c0, c3, sq_n1]
  refine ⟨i0, br_c (fun a => ⟨i3, br_c (fun b => q _ ?_) (fun b => ⟨i3, nm_e (q _ ?_)⟩)⟩) (fun a => ⟨i0, nm_e ⟨i3, br_c (fun b => q _ ?_) (fun b => ⟨i3, nm_e (q _ ?_)⟩)⟩⟩)⟩
  all_goals
    intro j hj
    try unfold upd
    by_cases e : j = s
    · subst e; simp [a]
    · by_cases f : j = s + 3
      · subst f; simp [b]
      · simp [e, f]
theorem sq_NRch {up cu dn st cv sv : Nat → Int32} {s : Nat} (N : sq_NR up cu dn st) (A : sq_LX up cu cv s) (B : sq_LY dn st sv s) : sq_NR up cv dn sv := by
  refine ⟨fun j hj => ⟨(N.1 j hj).1, ?_⟩, fun j hj o hu => ?_⟩
  · rw [A j hj, B j hj, (N.1 j hj).1, (N.1 j hj).2]
    by_cases a : st j = 0 <;> by_cases b : dn j = 0 <;> by_cases e : (j = s ∨ j = s + 3) <;> simp [a, b, e]
  · intro z
    rcases (A j hj).mp z with y | y
    · refine N.2 j hj ?_ hu y
      have g : ∀ i, i < 6 → ¬ cv i = 0 → ¬ cu i = 0 := fun i hi q w => q ((A i hi).mpr (Or.inl w))
      rcases o with o | o
      · exact Or.inl ⟨o.1, g _ (by omega) o.2⟩
      · exact Or.inr ⟨o.1, g _ (by omega) o.2⟩
    · exact hu y.2
