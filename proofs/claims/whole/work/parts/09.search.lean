/-! hit, score, search -/
theorem i_vc_hit {k : Nat} {u : SX} {v : SY} (I : i_Rel k u v) (hk : k + 4 ≤ 2048) (v1 : Int32) : wpX_hit (fun r => wpY_hit (fun r' => r' = r ∧ i_Rel (k + 4) u v) v v1) u v1 := by
  obtain ⟨ke, up, cu, ex, cn, se, sc, hd, hs⟩ := u
  obtain ⟨kf, ey, cm, sh, sd, dn, st, hi, so⟩ := v
  obtain ⟨N, D, S, K⟩ := I
  have R : i_Rel (k + 4) (ke, up, cu, ex, cn, se, sc, hd, hs) (kf, ey, cm, sh, sd, dn, st, hi, so) := ⟨N, D, S, K⟩
  generalize i_Rel (k + 4) (ke, up, cu, ex, cn, se, sc, hd, hs) (kf, ey, cm, sh, sd, dn, st, hi, so) = Q at *
  obtain ⟨n, hn, rfl, rfl, A⟩ := K
  unfold wpX_hit wpX_isKept wpY_hit
  dsimp only
  by_cases h0 : v1 < 0
  · exact br_t h0 (br_t rfl (br_t h0 ⟨rfl, R⟩))
  obtain ⟨i, hi31, rfl⟩ := nI_of h0
  refine br_f h0 (pk_le n i (fun z => br_t rfl (br_f h0 (br_t (nI_le z hi31) ⟨rfl, R⟩))) (fun z => ?_))
  have ci : (nI i).toNatClampNeg = i := nI_clamp hi31
  have vi : vp_in (nI i) 16 := pk_in i 16 (by omega)
  exact br_f sq_10 ⟨vi, br_f h0 (br_f (nI_ge z (by omega)) ⟨vi, by rw [ci]; exact (A i z).1, R⟩)⟩
theorem i_vc_score {k : Nat} {u : SX} {v : SY} (I : i_Rel k u v) (hk : k + 4 ≤ 2048) (v1 : Int32) : wpX_score (fun r => wpY_score (fun r' => r' = r ∧ i_Rel (k + 4) u v) v v1) u v1 := by
  obtain ⟨ke, up, cu, ex, cn, se, sc, hd, hs⟩ := u
  obtain ⟨kf, ey, cm, sh, sd, dn, st, hi, so⟩ := v
  obtain ⟨N, D, S, K⟩ := I
  have R : i_Rel (k + 4) (ke, up, cu, ex, cn, se, sc, hd, hs) (kf, ey, cm, sh, sd, dn, st, hi, so) := ⟨N, D, S, K⟩
  generalize i_Rel (k + 4) (ke, up, cu, ex, cn, se, sc, hd, hs) (kf, ey, cm, sh, sd, dn, st, hi, so) = Q at *
  obtain ⟨n, hn, rfl, rfl, A⟩ := K
  unfold wpX_score wpX_isKept wpY_score
  dsimp only
  by_cases h0 : v1 < 0
  · exact br_t h0 (br_t rfl (br_t h0 ⟨rfl, R⟩))
  obtain ⟨i, hi31, rfl⟩ := nI_of h0
  refine br_f h0 (pk_le n i (fun z => br_t rfl (br_f h0 (br_t (nI_le z hi31) ⟨rfl, R⟩))) (fun z => ?_))
  have ci : (nI i).toNatClampNeg = i := nI_clamp hi31
  have vi : vp_in (nI i) 16 := pk_in i 16 (by omega)
  exact br_f sq_10 ⟨vi, br_f h0 (br_f (nI_ge z (by omega)) ⟨vi, by rw [ci]; exact (A i z).2, R⟩)⟩
theorem sq_seK {k : Nat} {v1 v2 : Int32} {up cu ex cn se sc : Nat → Int32} {kf : Int32} {ey cm sh sd dn st hi so : Nat → Int32} {P : Nat → Bool} {c : Nat → Nat} (CY : sq_CY P c sh sd dn st) (B : sq_B c) (N : sq_NR up cu dn st) (D : sq_DR ex cn ey cm) (Z : sq_SR se sc sh sd)
    {n K z : Nat} {h : Nat → Nat} {gd gs : Nat → Int32} (H : sq_SO (sq_sv P c v1) 16 n h) (A : sq_AR (sq_sv P c v1) n h gd gs) (hK : K ≤ 16)
    (k1 : ∀ i, i < K → ¬ v2 ≤ nI i) (k2 : v2 ≤ nI K ∨ K = 16) (ez : min n z = min K n) :
    wpY_search (fun r' v' => r' = nI (min n z) ∧ i_Rel (k + 4) (nI (min n z), up, cu, ex, cn, se, sc, gd, gs) v') (kf, ey, cm, sh, sd, dn, st, hi, so) v1 v2 := by
  rw [ez]
  have hB : ∀ e, e < 16 → sq_sv P c v1 e < 20000 := fun e he => sq_svle B he
  have e0 : min 0 n = 0 := Nat.min_eq_left (Nat.zero_le n)
  refine ⟨K + 1, ?_⟩
  have := sq_seY (post := fun r' v' => r' = nI (min K n) ∧ i_Rel (k + 4) (nI (min K n), up, cu, ex, cn, se, sc, gd, gs) v') CY B H hK k1 k2 (fun fi fo F => ⟨rfl, N, D, Z, ⟨min K n, by omega, rfl, rfl, fun i hi => ?_⟩⟩) K 0 1000000 (-1) hi so (by omega) (fun j hj => ⟨fun _ => by omega, fun _ => Or.inl (nI_lt (b := 1000000) (by have := hB _ (H.2.1 j hj).1; omega) (by omega))⟩) (fun i hi => absurd hi (by omega))
  · rw [e0] at this; exact this
  · have a := A i (by omega)
    have b := F i hi
    exact ⟨b.1.trans a.1.symm, b.2.trans a.2.symm⟩
theorem i_vc_search {k : Nat} {u : SX} {v : SY} (I : i_Rel k u v) (hk : k + 4 ≤ 2048) (v1 : Int32) (v2 : Int32) : wpX_search (fun r u' => wpY_search (fun r' v' => r' = r ∧ i_Rel (k + 4) u' v') v v1 v2) u v1 v2 := by
  obtain ⟨ke, up, cu, ex, cn, se, sc, hd, hs⟩ := u
  obtain ⟨kf, ey, cm, sh, sd, dn, st, hi, so⟩ := v
  obtain ⟨N, D, Z, K⟩ := I
  obtain ⟨P, c, CX, CY, B⟩ := sq_ctx N Z
  refine ⟨17, sq_seX CX B (fun n h gd gs H A => ?_) 16 0 0 (fun _ => 0) hd hs rfl (sq_SO0 _ _) (fun i z => absurd z (by omega))⟩
  have hn := H.1
  by_cases h0 : v2 < 0
  · refine br_f (fun y => absurd h0 (Int32.not_lt.mpr y)) (sq_56 (z := 0) hn (by omega) ?_)
    exact sq_seK (K := 0) CY B N D Z H A (by omega) (fun i y => absurd y (by omega)) (Or.inl (Int32.le_of_lt h0)) (by omega)
  · obtain ⟨z, hz, rfl⟩ := nI_of h0
    refine br_t (nI_pos' hz) (sq_56 (z := z) hn hz ?_)
    refine sq_seK (K := min z 16) CY B N D Z H A (by omega) (fun i y => nI_ge (by omega) hz) ?_ (by omega)
    by_cases y : z ≤ 16
    · rw [Nat.min_eq_left y]; exact Or.inl (nI_le (Nat.le_refl z) hz)
    · exact Or.inr (Nat.min_eq_right (by omega))
