/-! put, delete, count -/
theorem sq_zX {post : Int32 → SX → Prop} {ke : Int32} {up cu ex cn se sc hd hs : Nat → Int32} {d : Nat} (hd16 : d < 16) (k : ∀ cv : Nat → Int32, (∀ i, cv i = if d * 6 ≤ i ∧ i < d * 6 + 6 then 0 else cn i) → post 0 (ke, up, cu, ex, cv, se, sc, hd, hs)) :
    ∀ m t (cv : Nat → Int32), t + m = 6 → (∀ i, cv i = if d * 6 ≤ i ∧ i < d * 6 + t then 0 else cn i) → wX_delete_50 post (nI d) ke (m + 1) (nI t) up cu ex cv se sc hd hs := by
  intro m
  induction m with
  | zero =>
    intro t cv ht h
    obtain rfl : t = 6 := by omega
    exact pk_le 6 6 (fun _ => k cv h) (fun z => absurd z (by omega))
  | succ m ih =>
    intro t cv ht h
    have c : (nI (d * 6 + t)).toNatClampNeg = d * 6 + t := sq_c (by omega)
    refine pk_le 6 t (fun z => absurd z (by omega)) (fun _ => ⟨pk_in (d * 6 + t) 96 (by omega) (sq_ix d t), nm_r (e' := upd cv (d * 6 + t) 0) (by rw [sq_ix, c]) (nm_r (nI_1 t) (ih (t + 1) _ (by omega) (fun i => ?_)))⟩)
    unfold upd
    rw [h i]
    by_cases e : i = d * 6 + t
    · rw [if_pos e, if_pos (by omega)]
    · rw [if_neg e]
      by_cases f : d * 6 ≤ i ∧ i < d * 6 + t
      · rw [if_pos f, if_pos (by omega)]
      · rw [if_neg f, if_neg (by omega)]
theorem sq_zY {post : Int32 → SY → Prop} {kf : Int32} {ey cm sh sd dn st hi so : Nat → Int32} {d : Nat} {x2 x3 : Int32} (hd16 : d < 16) (k : ∀ cv : Nat → Int32, (∀ i, cv i = if d * 6 ≤ i ∧ i < d * 6 + 6 then 0 else cm i) → wY_put_89 post (nI d) x2 x3 kf ey cv sh sd dn st hi so) :
    ∀ m t (cv : Nat → Int32), t + m = 6 → (∀ i, cv i = if d * 6 ≤ i ∧ i < d * 6 + t then 0 else cm i) → wY_put_63 post (nI d) x2 x3 kf (m + 1) (nI t) ey cv sh sd dn st hi so := by
  intro m
  induction m with
  | zero =>
    intro t cv ht h
    obtain rfl : t = 6 := by omega
    exact pk_le 6 6 (fun _ => k cv h) (fun z => absurd z (by omega))
  | succ m ih =>
    intro t cv ht h
    have c : (nI (d * 6 + t)).toNatClampNeg = d * 6 + t := sq_c (by omega)
    refine pk_le 6 t (fun z => absurd z (by omega)) (fun _ => ⟨pk_in (d * 6 + t) 96 (by omega) (sq_ix d t), nm_r (e' := upd cv (d * 6 + t) 0) (by rw [sq_ix, c]) (nm_r (nI_1 t) (ih (t + 1) _ (by omega) (fun i => ?_)))⟩)
    unfold upd
    rw [h i]
    by_cases e : i = d * 6 + t
    · rw [if_pos e, if_pos (by omega)]
    · rw [if_neg e]
      by_cases f : d * 6 ≤ i ∧ i < d * 6 + t
      · rw [if_pos f, if_pos (by omega)]
      · rw [if_neg f, if_neg (by omega)]
theorem sq_put89 {post : Int32 → SY → Prop} {kf : Int32} {ey cm sh sd dn st hi so : Nat → Int32} {d t : Nat} {x3 : Int32} (hd16 : d < 16) (ht : t < 6) (k : ∀ sv, sq_LY dn st sv (d % 3) → post (cm (d * 6 + t)) (kf, ey, upd cm (d * 6 + t) x3, sh, sd, dn, sv, hi, so)) : wY_put_89 post (nI d) (nI t) x3 kf ey cm sh sd dn st hi so := by
  have c : (nI (d * 6 + t)).toNatClampNeg = d * 6 + t := sq_c (by omega)
  have v : vp_in (nI (d * 6 + t)) 96 := pk_in (d * 6 + t) 96 (by omega)
  unfold wY_put_89
  rw [sq_ix, c]
  exact ⟨v, nm_e ⟨v, nm_e (sq_changed hd16 k)⟩⟩
theorem i_vc_put {k : Nat} {u : SX} {v : SY} (I : i_Rel k u v) (hk : k + 4 ≤ 2048) (v1 : Int32) (v2 : Int32) (v3 : Int32) : wpX_put (fun r u' => wpY_put (fun r' v' => r' = r ∧ i_Rel (k + 4) u' v') v v1 v2 v3) u v1 v2 v3 := by
  obtain ⟨ke, up, cu, ex, cn, se, sc, hd, hs⟩ := u
  obtain ⟨kf, ey, cm, sh, sd, dn, st, hi, so⟩ := v
  obtain ⟨N, D, S, K⟩ := I
  unfold wpX_put wpY_put
  dsimp only
  by_cases h1 : v1 < 0 ∨ nI 16 ≤ v1
  · exact sq_dX0 h1 (br_t rfl (sq_dY0 h1 (br_t rfl ⟨rfl, N, D, S, K⟩)))
  by_cases h2 : v2 < 0 ∨ nI 6 ≤ v2
  · obtain ⟨d, hd16, rfl⟩ : ∃ d, d < 16 ∧ v1 = nI d := by
      rcases pk_ix v1 (n := 16) (by omega) with h | h | h
      · exact absurd (Or.inl h) h1
      · exact absurd (Or.inr h) h1
      · exact h
    exact sq_dX1 hd16 (br_f sq_10 (sq_tX0 h2 (br_t rfl (sq_dY1 hd16 (br_f sq_10 (sq_tY0 h2 (br_t rfl ⟨rfl, N, D, S, K⟩)))))))
  obtain ⟨d, hd16, rfl⟩ : ∃ d, d < 16 ∧ v1 = nI d := by
    rcases pk_ix v1 (n := 16) (by omega) with h | h | h
    · exact absurd (Or.inl h) h1
    · exact absurd (Or.inr h) h1
    · exact h
  obtain ⟨t, ht, rfl⟩ : ∃ t, t < 6 ∧ v2 = nI t := by
    rcases pk_ix v2 (n := 6) (by omega) with h | h | h
    · exact absurd (Or.inl h) h2
    · exact absurd (Or.inr h) h2
    · exact h
  refine sq_dX1 hd16 (br_f sq_10 (sq_tX1 ht (br_f sq_10 (br_c (fun h3 => ?_) (fun h3 => br_c (fun h4 => ⟨sq_30, ?_⟩) (fun h4 => ?_))))))
  · exact sq_dY1 hd16 (br_f sq_10 (sq_tY1 ht (br_f sq_10 (br_t h3 ⟨rfl, N, D, S, K⟩))))
  · obtain ⟨c, hc, rfl⟩ : ∃ c, c ≤ 9 ∧ v3 = nI c := nI_of2 (M := 9) (by decide) h3 h4
    have cd : (nI d).toNatClampNeg = d := sq_c (by omega)
    have vd : vp_in (nI d) 16 := pk_in d 16 hd16
    have ci : (nI (d * 6 + t)).toNatClampNeg = d * 6 + t := sq_c (by omega)
    have vi : vp_in (nI (d * 6 + t)) 96 := pk_in (d * 6 + t) 96 (by omega)
    have hs3 : d % 3 < 3 := by omega
    rw [sq_r3 (by omega), sq_ix, cd, sq_n1]
    have tail : ∀ (cv ew cw sv : Nat → Int32), sq_LX up cu cv (d % 3) → sq_LY dn st sv (d % 3) → (∀ j, j < 16 → ew j = upd ex d 1 j) → (∀ e, e < 16 → ∀ t, t < 6 → ¬ upd ex d 1 e = 0 → cw (e * 6 + t) = cn (e * 6 + t)) →
        cw (d * 6 + t) = cn (d * 6 + t) ∧ i_Rel (k + 4) (ke, up, cv, upd ex d 1, upd cn (d * 6 + t) (nI c), se, sc, hd, hs) (kf, ew, upd cw (d * 6 + t) (nI c), sh, sd, dn, sv, hi, so) := by
      intro cv ew cw sv A B he hc'
      refine ⟨hc' d hd16 t ht (by rw [pk_us]; exact sq_10), sq_NRch N A B, ⟨fun j hj => ⟨he j hj, ?_⟩, fun e he' t' ht' => ?_⟩, S, K⟩
      · by_cases e : j = d
        · subst e; rw [pk_us]; exact Or.inr rfl
        · rw [pk_un e]; exact (D.1 j hj).2
      · have q := D.2 e he' t' ht'
        by_cases z : e * 6 + t' = d * 6 + t
        · have ed : e = d := by omega
          rw [z, pk_us, pk_us, ed, pk_us]
          exact ⟨⟨c, hc, rfl⟩, fun y => absurd y sq_10, fun _ => rfl⟩
        · rw [pk_un z, pk_un z]
          refine ⟨q.1, fun y => q.2.1 ?_, fun y => hc' e he' t' ht' y⟩
          by_cases ed : e = d
          · subst ed; rw [pk_us] at y; exact absurd y sq_10
          · rw [pk_un ed] at y; exact y
    refine nm_e (sq_oX hs3 (fun o => br_f sq_10 ?_) (fun o => br_t rfl ?_))
    · refine sq_leave hs3 (fun cv A => nm_e ⟨vi, nm_e ⟨vd, nm_e ⟨vi, nm_e ?_⟩⟩⟩)
      rw [ci]
      refine sq_dY1 hd16 (br_f sq_10 (sq_tY1 ht (br_f sq_10 (br_f h3 (br_t h4 ⟨sq_30, sq_oY1 hs3 ((sq_op N.1 hs3).mpr o) (br_f sq_10 ⟨vd, br_c (fun a => ⟨vd, nm_e ⟨7, ?_⟩⟩) (fun a => ?_)⟩)⟩)))))
      · refine sq_zY hd16 (fun cw hw => ?_) 6 0 cm rfl (fun i => by rw [if_neg (by omega)])
        refine sq_put89 hd16 ht (fun sv B => tail cv _ cw sv A B (fun j hj => ?_) (fun e he t' ht' q => ?_))
        · unfold upd
          rw [(D.1 j hj).1]
        · rw [hw]
          have a' : ex d = 0 := by rw [← (D.1 d hd16).1]; exact a
          by_cases ed : e = d
          · subst ed
            rw [if_pos (by omega), (D.2 e he t' ht').2.1 a']
          · rw [if_neg (by omega)]
            rw [pk_un ed] at q
            exact (D.2 e he t' ht').2.2 q
      · have a' : ¬ ex d = 0 := by rw [← (D.1 d hd16).1]; exact a
        refine sq_put89 hd16 ht (fun sv B => tail cv _ cm sv A B (fun j hj => ?_) (fun e he t' ht' q => ?_))
        · rw [(D.1 j hj).1]
          by_cases e : j = d
          · subst e; rw [pk_us]; exact (D.1 j hj).2.resolve_left a'
          · rw [pk_un e]
        · refine (D.2 e he t' ht').2.2 ?_
          by_cases ed : e = d
          · subst ed; exact a'
          · rw [pk_un ed] at q; exact q
    · exact sq_dY1 hd16 (br_f sq_10 (sq_tY1 ht (br_f sq_10 (br_f h3 (br_t h4 ⟨sq_30, sq_oY0 hs3 (fun z => o ((sq_op N.1 hs3).mp z)) (br_t rfl ⟨rfl, N, D, S, K⟩)⟩)))))
  · exact sq_dY1 hd16 (br_f sq_10 (sq_tY1 ht (br_f sq_10 (br_f h3 (br_f h4 ⟨rfl, N, D, S, K⟩)))))
theorem i_vc_delete {k : Nat} {u : SX} {v : SY} (I : i_Rel k u v) (hk : k + 4 ≤ 2048) (v1 : Int32) : wpX_delete (fun r u' => wpY_delete (fun r' v' => r' = r ∧ i_Rel (k + 4) u' v') v v1) u v1 := by
  obtain ⟨ke, up, cu, ex, cn, se, sc, hd, hs⟩ := u
  obtain ⟨kf, ey, cm, sh, sd, dn, st, hi, so⟩ := v
  obtain ⟨N, D, S, K⟩ := I
  unfold wpX_delete wpY_delete
  dsimp only
  by_cases h1 : v1 < 0 ∨ nI 16 ≤ v1
  · exact sq_dX0 h1 (br_t rfl (sq_dY0 h1 (br_t rfl ⟨rfl, N, D, S, K⟩)))
  obtain ⟨d, hd16, rfl⟩ : ∃ d, d < 16 ∧ v1 = nI d := by
    rcases pk_ix v1 (n := 16) (by omega) with h | h | h
    · exact absurd (Or.inl h) h1
    · exact absurd (Or.inr h) h1
    · exact h
  have cd : (nI d).toNatClampNeg = d := sq_c (by omega)
  have vd : vp_in (nI d) 16 := pk_in d 16 hd16
  have hs3 : d % 3 < 3 := by omega
  have eD := (D.1 d hd16).1
  rw [sq_r3 (by omega), cd, sq_n0]
  refine sq_dX1 hd16 (br_f sq_10 ⟨sq_30, nm_e (sq_oX hs3 (fun o => br_f sq_10 ⟨vd, br_c (fun a => ?_) (fun a => ?_)⟩) (fun o => br_t rfl ?_))⟩)
  · exact sq_dY1 hd16 (br_f sq_10 ⟨sq_30, sq_oY1 hs3 ((sq_op N.1 hs3).mpr o) (br_f sq_10 ⟨vd, br_t (by rw [eD]; exact a) ⟨rfl, N, D, S, K⟩⟩)⟩)
  · refine sq_leave hs3 (fun cv A => ⟨vd, nm_e ⟨7, ?_⟩⟩)
    refine sq_zX hd16 (fun cw hw => ?_) 6 0 cn rfl (fun i => by rw [if_neg (by omega)])
    refine sq_dY1 hd16 (br_f sq_10 ⟨sq_30, sq_oY1 hs3 ((sq_op N.1 hs3).mpr o) (br_f sq_10 ⟨vd, br_f (by rw [eD]; exact a) ⟨vd, nm_e (sq_changed hd16 (fun sv B => ⟨rfl, sq_NRch N A B, ⟨fun j hj => ?_, fun e he t ht => ?_⟩, S, K⟩))⟩⟩)⟩)
    · unfold upd
      dsimp only
      by_cases e : j = d
      · rw [if_pos e, if_pos e]; exact ⟨rfl, Or.inl rfl⟩
      · rw [if_neg e, if_neg e]; exact D.1 j hj
    · rw [hw]
      by_cases ed : e = d
      · subst ed
        rw [if_pos (by omega), pk_us]
        exact ⟨⟨0, by omega, nI_0.symm⟩, fun _ => rfl, fun z => absurd rfl z⟩
      · rw [if_neg (by omega), pk_un ed]
        exact D.2 e he t ht
  · exact sq_dY1 hd16 (br_f sq_10 ⟨sq_30, sq_oY0 hs3 (fun z => o ((sq_op N.1 hs3).mp z)) (br_t rfl ⟨rfl, N, D, S, K⟩)⟩)
theorem i_vc_count {k : Nat} {u : SX} {v : SY} (I : i_Rel k u v) (hk : k + 4 ≤ 2048) (v1 : Int32) (v2 : Int32) : wpX_count (fun r => wpY_count (fun r' => r' = r ∧ i_Rel (k + 4) u v) v v1 v2) u v1 v2 := by
  obtain ⟨ke, up, cu, ex, cn, se, sc, hd, hs⟩ := u
  obtain ⟨kf, ey, cm, sh, sd, dn, st, hi, so⟩ := v
  obtain ⟨N, D, S, K⟩ := I
  have R : i_Rel (k + 4) (ke, up, cu, ex, cn, se, sc, hd, hs) (kf, ey, cm, sh, sd, dn, st, hi, so) := ⟨N, D, S, K⟩
  generalize i_Rel (k + 4) (ke, up, cu, ex, cn, se, sc, hd, hs) (kf, ey, cm, sh, sd, dn, st, hi, so) = Q at *
  unfold wpX_count wpY_count
  dsimp only
  by_cases h1 : v1 < 0 ∨ nI 16 ≤ v1
  · exact sq_dX0 h1 (br_t rfl (sq_dY0 h1 (br_t rfl ⟨rfl, R⟩)))
  obtain ⟨d, hd16, rfl⟩ : ∃ d, d < 16 ∧ v1 = nI d := by
    rcases pk_ix v1 (n := 16) (by omega) with h | h | h
    · exact absurd (Or.inl h) h1
    · exact absurd (Or.inr h) h1
    · exact h
  by_cases h2 : v2 < 0 ∨ nI 6 ≤ v2
  · exact sq_dX1 hd16 (br_f sq_10 (sq_tX0 h2 (br_t rfl (sq_dY1 hd16 (br_f sq_10 (sq_tY0 h2 (br_t rfl ⟨rfl, R⟩)))))))
  obtain ⟨t, ht, rfl⟩ : ∃ t, t < 6 ∧ v2 = nI t := by
    rcases pk_ix v2 (n := 6) (by omega) with h | h | h
    · exact absurd (Or.inl h) h2
    · exact absurd (Or.inr h) h2
    · exact h
  have cd : (nI d).toNatClampNeg = d := sq_c (by omega)
  have vd : vp_in (nI d) 16 := pk_in d 16 hd16
  have ci : (nI (d * 6 + t)).toNatClampNeg = d * 6 + t := sq_c (by omega)
  have vi : vp_in (nI (d * 6 + t)) 96 := pk_in (d * 6 + t) 96 (by omega)
  have hs3 : d % 3 < 3 := by omega
  have eD := (D.1 d hd16).1
  rw [sq_r3 (by omega), sq_ix, cd, ci]
  refine sq_dX1 hd16 (br_f sq_10 (sq_tX1 ht (br_f sq_10 ⟨sq_30, sq_oX hs3 (fun o => br_f sq_10 ⟨vd, br_c (fun a => ?_) (fun a => ⟨vi, ?_⟩)⟩) (fun o => br_t rfl ?_)⟩)))
  · exact sq_dY1 hd16 (br_f sq_10 (sq_tY1 ht (br_f sq_10 ⟨sq_30, sq_oY1 hs3 ((sq_op N.1 hs3).mpr o) (br_f sq_10 ⟨vd, br_t (by rw [eD]; exact a) ⟨rfl, R⟩⟩)⟩)))
  · exact sq_dY1 hd16 (br_f sq_10 (sq_tY1 ht (br_f sq_10 ⟨sq_30, sq_oY1 hs3 ((sq_op N.1 hs3).mpr o) (br_f sq_10 ⟨vd, br_f (by rw [eD]; exact a) ⟨vi, (D.2 d hd16 t ht).2.2 a, R⟩⟩)⟩)))
  · exact sq_dY1 hd16 (br_f sq_10 (sq_tY1 ht (br_f sq_10 ⟨sq_30, sq_oY0 hs3 (fun z => o ((sq_op N.1 hs3).mp z)) (br_t rfl ⟨rfl, R⟩)⟩)))
