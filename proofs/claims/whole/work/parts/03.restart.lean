/-! crash, restart, open -/
def sq_BX (up cu cv : Nat → Int32) (s : Nat) : Prop := (sq_opX up cu s → ∀ j, j < 6 → (cv j = 0 ↔ cu j = 0 ∧ ¬ ((j = s ∨ j = s + 3) ∧ ¬ up j = 0))) ∧ (¬ sq_opX up cu s → ∀ j, j < 6 → cv j = cu j)
def sq_BY (dn st sv : Nat → Int32) (s : Nat) : Prop := (sq_opY dn st s → ∀ j, j < 6 → (sv j = 0 ↔ st j = 0 ∨ ((j = s ∨ j = s + 3) ∧ dn j = 0))) ∧ (¬ sq_opY dn st s → ∀ j, j < 6 → sv j = st j)
theorem sq_bring1 {post : SX → Prop} {ke : Int32} {up cu ex cn se sc hd hs : Nat → Int32} {n x : Nat} (hx : x < 6)
    (k0 : ¬ up x = 0 → wX_bringUpCopiesLevel_11 post ke n (nI (x + 3)) up (upd cu x 1) ex cn se sc hd hs)
    (k1 : up x = 0 → wX_bringUpCopiesLevel_11 post ke n (nI (x + 3)) up cu ex cn se sc hd hs) : wX_bringUpCopiesLevel_11 post ke (n + 1) (nI x) up cu ex cn se sc hd hs := by
  have c0 : (nI x).toNatClampNeg = x := sq_c (by omega)
  have i0 : vp_in (nI x) 6 := pk_in x 6 (by omega)
  exact pk_le 6 x (fun z => absurd z (by omega)) (fun _ => ⟨i0, br_c (fun z => nm_r (sq_3 x) (k1 (by rw [c0] at z; exact z))) (fun z => ⟨i0, nm_r (e' := upd cu x 1) (by rw [c0, sq_n1]) (nm_r (sq_3 x) (k0 (by rw [c0] at z; exact z)))⟩)⟩)
theorem sq_bring9 {post : SX → Prop} {ke : Int32} {up cu ex cn se sc hd hs : Nat → Int32} {n x : Nat} (hx : 6 ≤ x) (hx' : x < 100) (k : post (ke, up, cu, ex, cn, se, sc, hd, hs)) : wX_bringUpCopiesLevel_11 post ke (n + 1) (nI x) up cu ex cn se sc hd hs :=
  pk_le 6 x (fun _ => k) (fun z => absurd z (by omega))
theorem sq_bring {post : SX → Prop} {ke : Int32} {up cu ex cn se sc hd hs : Nat → Int32} {s : Nat} (hs3 : s < 3) (k : ∀ cv, sq_BX up cu cv s → post (ke, up, cv, ex, cn, se, sc, hd, hs)) : wpX_bringUpCopiesLevel post (ke, up, cu, ex, cn, se, sc, hd, hs) (nI s) := by
  unfold wpX_bringUpCopiesLevel
  dsimp only
  refine sq_oX hs3 (fun o => br_f sq_10 ?_) (fun o => br_t rfl (k _ ⟨fun z => absurd z o, fun _ j _ => rfl⟩))
  have q : ∀ cv : Nat → Int32, (∀ j, j < 6 → cv j = if (j = s ∨ j = s + 3) ∧ ¬ up j = 0 then 1 else cu j) → post (ke, up, cv, ex, cn, se, sc, hd, hs) := by
    intro cv h
    refine k cv ⟨fun _ j hj => ?_, fun z => absurd o z⟩
    rw [h j hj]
    by_cases z : (j = s ∨ j = s + 3) ∧ ¬ up j = 0
    · rw [if_pos z]; exact ⟨fun y => absurd y sq_10, fun y => absurd z y.2⟩
    · rw [if_neg z]; exact ⟨fun y => ⟨y, z⟩, fun y => y.1⟩
  refine ⟨3, sq_bring1 (by omega) (fun a => sq_bring1 (by omega) (fun b => sq_bring9 (by omega) (by omega) (q _ ?_)) (fun b => sq_bring9 (by omega) (by omega) (q _ ?_))) (fun a => sq_bring1 (by omega) (fun b => sq_bring9 (by omega) (by omega) (q _ ?_)) (fun b => sq_bring9 (by omega) (by omega) (q _ ?_)))⟩
  all_goals
    intro j hj
    try unfold upd
    by_cases e : j = s
    · subst e; simp [a]
    · by_cases f : j = s + 3
      · subst f; simp [b]
      · simp [e, f]
theorem sq_re62 {post : Int32 → SY → Prop} {kf : Int32} {ey cm sh sd dn st hi so : Nat → Int32} {s : Nat} {z : Int32} (hs3 : s < 3)
    (k1 : sq_opY dn st s → dn (s + 3) = 0 → post z (kf, ey, cm, sh, sd, dn, upd st (s + 3) 0, hi, so))
    (k2 : sq_opY dn st s → ¬ dn (s + 3) = 0 → post z (kf, ey, cm, sh, sd, dn, st, hi, so))
    (k0 : ¬ sq_opY dn st s → post z (kf, ey, cm, sh, sd, dn, st, hi, so)) : wY_restart_62 post z (nI s) kf ey cm sh sd dn st hi so := by
  have c3 : (nI (s + 3)).toNatClampNeg = s + 3 := sq_c (by omega)
  have i3 : vp_in (nI (s + 3)) 6 := pk_in (s + 3) 6 (by omega)
  unfold wY_restart_62
  refine sq_oY hs3 (fun o => br_f sq_10 ?_) (fun o => br_t rfl (k0 o))
  rw [sq_3, c3, sq_n0]
  exact ⟨i3, br_c (fun a => ⟨i3, nm_e (k1 o a)⟩) (fun a => k2 o a)⟩
theorem sq_re26 {post : Int32 → SY → Prop} {kf : Int32} {ey cm sh sd dn st hi so : Nat → Int32} {i : Nat} {z : Int32} (hi6 : i < 6) (k : ∀ sv, sq_BY (upd dn i 0) st sv (i % 3) → post z (kf, ey, cm, sh, sd, upd dn i 0, sv, hi, so)) : wY_restart_26 post (nI i) z kf ey cm sh sd dn st hi so := by
  have ci : (nI i).toNatClampNeg = i := sq_c (by omega)
  have ii : vp_in (nI i) 6 := pk_in i 6 (by omega)
  unfold wY_restart_26
  rw [sq_r3 (by omega)]
  refine ⟨ii, nm_r (e' := upd dn i 0) (by rw [ci, sq_n0]) ⟨sq_30, nm_e ?_⟩⟩
  have hs3 : i % 3 < 3 := by omega
  generalize i % 3 = s at *
  generalize upd dn i 0 = dm at *
  have c0 : (nI s).toNatClampNeg = s := sq_c (by omega)
  have i0 : vp_in (nI s) 6 := pk_in s 6 (by omega)
  rw [c0, sq_n0]
  have q : sq_opY dm st s → ∀ sv : Nat → Int32, (∀ j, j < 6 → sv j = if (j = s ∨ j = s + 3) ∧ dm j = 0 then 0 else st j) → post z (kf, ey, cm, sh, sd, dm, sv, hi, so) := by
    intro o sv h
    refine k sv ⟨fun _ j hj => ?_, fun z => absurd o z⟩
    rw [h j hj]
    by_cases z : (j = s ∨ j = s + 3) ∧ dm j = 0
    · rw [if_pos z]; exact ⟨fun y => Or.inr z, fun y => rfl⟩
    · rw [if_neg z]; exact ⟨fun y => Or.inl y, fun y => y.resolve_right z⟩
  refine sq_oY hs3 (fun o => br_f sq_10 ⟨i0, br_c (fun a => ⟨i0, nm_e ?_⟩) (fun a => ?_)⟩) (fun o => br_t rfl ?_)
  · have o' : sq_opY dm (upd st s 0) s := Or.inl ⟨a, pk_us⟩
    refine sq_re62 hs3 (fun _ b => q o _ ?_) (fun _ b => q o _ ?_) (fun y => absurd o' y)
    all_goals
      intro j hj
      try unfold upd
      by_cases e : j = s
      · subst e; simp [a]
      · by_cases f : j = s + 3
        · subst f; simp [b]
        · simp [e, f]
  · refine sq_re62 hs3 (fun _ b => q o _ ?_) (fun _ b => q o _ ?_) (fun y => absurd o y)
    all_goals
      intro j hj
      try unfold upd
      by_cases e : j = s
      · subst e; simp [a]
      · by_cases f : j = s + 3
        · subst f; simp [b]
        · simp [e, f]
  · exact sq_re62 hs3 (fun y _ => absurd y o) (fun y _ => absurd y o) (fun _ => k _ ⟨fun y => absurd y o, fun _ j _ => rfl⟩)
theorem sq_NRre {up cu dn st cv sv : Nat → Int32} {s : Nat} (hs3 : s < 3) (N : sq_N1 up cu dn st)
    (V : ∀ j, j < 6 → ¬ j % 3 = s → sq_opX up cu (j % 3) → ¬ up j = 0 → ¬ cu j = 0)
    (A : sq_BX up cu cv s) (B : sq_BY dn st sv s) : sq_NR up cv dn sv := by
  by_cases o : sq_opX up cu s
  · have A := A.1 o
    have B := B.1 ((sq_op N hs3).mpr o)
    refine ⟨fun j hj => ⟨(N j hj).1, ?_⟩, fun j hj w hu => ?_⟩
    · rw [A j hj, B j hj, (N j hj).1, (N j hj).2]
      by_cases a : st j = 0 <;> by_cases b : dn j = 0 <;> by_cases e : (j = s ∨ j = s + 3) <;> simp [a, b, e]
    · by_cases m : j % 3 = s
      · intro z
        exact ((A j hj).mp z).2 ⟨by omega, hu⟩
      · intro z
        refine V j hj m ?_ hu ((A j hj).mp z).1
        have g : ∀ i, i < 6 → i % 3 = j % 3 → ¬ cv i = 0 → ¬ cu i = 0 := fun i hi q r t => r ((A i hi).mpr ⟨t, fun y => by omega⟩)
        rcases w with w | w
        · exact Or.inl ⟨w.1, g _ (by omega) (by omega) w.2⟩
        · exact Or.inr ⟨w.1, g _ (by omega) (by omega) w.2⟩
  · have A := A.2 o
    have B := B.2 (fun z => o ((sq_op N hs3).mp z))
    refine ⟨fun j hj => ⟨(N j hj).1, ?_⟩, fun j hj w hu => ?_⟩
    · rw [A j hj, B j hj]; exact (N j hj).2
    · rw [A j hj]
      have w' : sq_opX up cu (j % 3) := by
        unfold sq_opX at w ⊢
        rw [A (j % 3) (by omega), A (j % 3 + 3) (by omega)] at w
        exact w
      refine V j hj (fun m => o (m ▸ w')) w' hu
theorem i_vc_restart {k : Nat} {u : SX} {v : SY} (I : i_Rel k u v) (hk : k + 4 ≤ 2048) (v1 : Int32) : wpX_restart (fun r u' => wpY_restart (fun r' v' => r' = r ∧ i_Rel (k + 4) u' v') v v1) u v1 := by
  obtain ⟨ke, up, cu, ex, cn, se, sc, hd, hs⟩ := u
  obtain ⟨kf, ey, cm, sh, sd, dn, st, hi, so⟩ := v
  obtain ⟨N, D, S, K⟩ := I
  unfold wpX_restart wpY_restart
  dsimp only
  rcases pk_ix v1 (n := 6) (by omega) with h | h | ⟨i, hi6, rfl⟩
  · exact sq_nX0 (Or.inl h) (br_t rfl (br_t h ⟨rfl, N, D, S, K⟩))
  · refine sq_nX0 (Or.inr h) (br_t rfl (br_c (fun _ => ⟨rfl, N, D, S, K⟩) (fun y => br_f ?_ ⟨rfl, N, D, S, K⟩)))
    obtain ⟨j, hj, rfl⟩ := nI_of y
    have := (nI_leI (by omega) hj).mp h
    exact nI_ge (b := j) (a := 5) (by omega) hj
  · have ci : (nI i).toNatClampNeg = i := sq_c (by omega)
    have ii : vp_in (nI i) 6 := pk_in i 6 hi6
    have l5 : nI i ≤ 5 := nI_le (b := 5) (by omega) (by omega)
    have p0 : ¬ nI i < 0 := nI_pos (by omega)
    rw [ci, sq_n1, sq_r3 (by omega)]
    have n := N.1 i hi6
    have hs3 : i % 3 < 3 := by omega
    refine sq_nX1 hi6 (br_f sq_10 ⟨ii, br_c (fun a => ⟨ii, nm_e ⟨sq_30, ?_⟩⟩) (fun a => ?_)⟩)
    · refine sq_bring hs3 (fun cv A => br_f p0 (br_t l5 ⟨ii, br_f (n.1.mp a) ?_⟩))
      refine sq_re26 hi6 (fun sv B => ⟨rfl, sq_NRre (up := upd up i 1) (cu := cu) (dn := upd dn i 0) (st := st) hs3 ?_ ?_ A B, D, S, K⟩)
      · intro j hj
        by_cases e : j = i
        · subst e; rw [pk_us, pk_us]; exact ⟨⟨fun z => absurd z sq_10, fun z => absurd rfl z⟩, (N.1 j hj).2⟩
        · rw [pk_un e, pk_un e]; exact N.1 j hj
      · intro j hj m
        unfold sq_opX
        have e1 : upd up i 1 (j % 3) = up (j % 3) := pk_un (by omega)
        have e2 : upd up i 1 (j % 3 + 3) = up (j % 3 + 3) := pk_un (by omega)
        have e3 : upd up i 1 j = up j := pk_un (by omega)
        rw [e1, e2, e3]
        exact N.2 j hj
    · have a' : dn i = 0 := Decidable.not_not.mp (fun z => a (n.1.mpr z))
      refine br_f p0 (br_t l5 ⟨ii, br_t a' ?_⟩)
      have N1 : sq_N1 up cu (upd dn i 0) st := by
        intro j hj
        by_cases e : j = i
        · subst e; rw [pk_us]; exact ⟨⟨fun z => absurd z a, fun z => absurd rfl z⟩, (N.1 j hj).2⟩
        · rw [pk_un e]; exact N.1 j hj
      refine sq_re26 hi6 (fun sv B => ⟨rfl, sq_NRre hs3 N1 (fun j hj _ => N.2 j hj) ⟨fun o j hj => ⟨fun z => ⟨z, fun y => ?_⟩, fun z => z.1⟩, fun _ j _ => rfl⟩ B, D, S, K⟩)
      have e : j % 3 = i % 3 := by omega
      exact N.2 j hj (e ▸ o) y.2 z
theorem sq_cr26 {post : Int32 → SY → Prop} {kf : Int32} {ey cm sh sd dn st hi so : Nat → Int32} {i : Nat} {z : Int32} (hi6 : i < 6) (k : post z (kf, ey, cm, sh, sd, upd dn i 1, st, hi, so)) : wY_crash_26 post (nI i) z kf ey cm sh sd dn st hi so := by
  have ci : (nI i).toNatClampNeg = i := sq_c (by omega)
  exact ⟨pk_in i 6 hi6, nm_r (e' := upd dn i 1) (by rw [ci, sq_n1]) k⟩
theorem i_vc_crash {k : Nat} {u : SX} {v : SY} (I : i_Rel k u v) (hk : k + 4 ≤ 2048) (v1 : Int32) : wpX_crash (fun r u' => wpY_crash (fun r' v' => r' = r ∧ i_Rel (k + 4) u' v') v v1) u v1 := by
  obtain ⟨ke, up, cu, ex, cn, se, sc, hd, hs⟩ := u
  obtain ⟨kf, ey, cm, sh, sd, dn, st, hi, so⟩ := v
  obtain ⟨N, D, S, K⟩ := I
  unfold wpX_crash wpY_crash
  dsimp only
  rcases pk_ix v1 (n := 6) (by omega) with h | h | ⟨i, hi6, rfl⟩
  · exact sq_nX0 (Or.inl h) (br_t rfl (br_t h ⟨rfl, N, D, S, K⟩))
  · refine sq_nX0 (Or.inr h) (br_t rfl (br_c (fun _ => ⟨rfl, N, D, S, K⟩) (fun y => br_f ?_ ⟨rfl, N, D, S, K⟩)))
    obtain ⟨j, hj, rfl⟩ := nI_of y
    have := (nI_leI (by omega) hj).mp h
    exact nI_ge (b := j) (a := 5) (by omega) hj
  · have ci : (nI i).toNatClampNeg = i := sq_c (by omega)
    have ii : vp_in (nI i) 6 := pk_in i 6 hi6
    have l5 : nI i ≤ 5 := nI_le (b := 5) (by omega) (by omega)
    have p0 : ¬ nI i < 0 := nI_pos (by omega)
    rw [ci, sq_n0]
    have n := N.1 i hi6
    refine sq_nX1 hi6 (br_f sq_10 ⟨ii, br_c (fun a => ?_) (fun a => ⟨ii, nm_e ?_⟩)⟩)
    · refine br_f p0 (br_t l5 ⟨ii, br_f (n.1.mp a) (sq_cr26 hi6 ⟨rfl, ⟨fun j hj => ?_, N.2⟩, D, S, K⟩)⟩)
      by_cases e : j = i
      · subst e; rw [pk_us]; exact ⟨⟨fun _ => sq_10, fun _ => a⟩, (N.1 j hj).2⟩
      · rw [pk_un e]; exact N.1 j hj
    · have a' : dn i = 0 := Decidable.not_not.mp (fun z => a (n.1.mpr z))
      refine br_f p0 (br_t l5 ⟨ii, br_t a' (sq_cr26 hi6 ⟨rfl, ⟨fun j hj => ?_, fun j hj o w => ?_⟩, D, S, K⟩)⟩)
      · by_cases e : j = i
        · subst e; rw [pk_us, pk_us]; exact ⟨⟨fun _ => sq_10, fun _ => rfl⟩, (N.1 j hj).2⟩
        · rw [pk_un e, pk_un e]; exact N.1 j hj
      · have g : ∀ x, ¬ upd up i 0 x = 0 → ¬ up x = 0 := by
          intro x z
          by_cases e : x = i
          · subst e; exact a
          · rw [pk_un e] at z; exact z
        refine N.2 j hj ?_ (g _ w)
        rcases o with o | o
        · exact Or.inl ⟨g _ o.1, o.2⟩
        · exact Or.inr ⟨g _ o.1, o.2⟩
theorem i_vc_open {k : Nat} {u : SX} {v : SY} (I : i_Rel k u v) (hk : k + 4 ≤ 2048) (v1 : Int32) : wpX_open (fun r => wpY_open (fun r' => r' = r ∧ i_Rel (k + 4) u v) v v1) u v1 := by
  obtain ⟨ke, up, cu, ex, cn, se, sc, hd, hs⟩ := u
  obtain ⟨kf, ey, cm, sh, sd, dn, st, hi, so⟩ := v
  obtain ⟨N, D, S, K⟩ := I
  have R : i_Rel (k + 4) (ke, up, cu, ex, cn, se, sc, hd, hs) (kf, ey, cm, sh, sd, dn, st, hi, so) := ⟨N, D, S, K⟩
  generalize i_Rel (k + 4) (ke, up, cu, ex, cn, se, sc, hd, hs) (kf, ey, cm, sh, sd, dn, st, hi, so) = Q at *
  rcases pk_ix v1 (n := 3) (by omega) with h | h | ⟨s, hs3, rfl⟩
  · unfold wpX_open wpY_open
    exact br_t h (br_t h ⟨rfl, R⟩)
  · unfold wpX_open wpY_open
    by_cases y : v1 < 0
    · exact br_t y (br_t y ⟨rfl, R⟩)
    · refine br_f y (br_t h (br_f y (br_f ?_ ⟨rfl, R⟩)))
      obtain ⟨j, hj, rfl⟩ := nI_of y
      have := (nI_leI (by omega) hj).mp h
      exact nI_ge (b := j) (a := 2) (by omega) hj
  · unfold wpX_open
    dsimp only
    refine br_f (nI_pos (by omega)) (br_f (nI_ge (b := 3) hs3 (by omega)) (sq_oX hs3 (fun o => br_f sq_10 ?_) (fun o => br_t rfl ?_)))
    · exact sq_oY1 hs3 ((sq_op N.1 hs3).mpr o) ⟨rfl, R⟩
    · exact sq_oY0 hs3 (fun z => o ((sq_op N.1 hs3).mp z)) ⟨rfl, R⟩
