/-! refresh -/
def sq_nP (P : Nat → Bool) : Nat → Nat
  | 0 => 0
  | n + 1 => sq_nP P n + (if P n = true then 1 else 0)
theorem sq_nP1 {P : Nat → Bool} {n : Nat} (h : P n = true) : sq_nP P (n + 1) = sq_nP P n + 1 := by
  show sq_nP P n + _ = _
  rw [if_pos h]
theorem sq_nP0 {P : Nat → Bool} {n : Nat} (h : ¬ P n = true) : sq_nP P (n + 1) = sq_nP P n := by
  show sq_nP P n + _ = _
  rw [if_neg h]; rfl
theorem sq_nPle (P : Nat → Bool) : ∀ n, sq_nP P n ≤ n := by
  intro n
  induction n with
  | zero => exact Nat.le_refl 0
  | succ n ih =>
    by_cases h : P n = true
    · rw [sq_nP1 h]; omega
    · rw [sq_nP0 h]; omega
noncomputable def sq_O (up cu : Nat → Int32) (s : Nat) : Bool := @decide (sq_opX up cu s) (Classical.propDecidable _)
theorem sq_Oi {up cu : Nat → Int32} {s : Nat} : sq_O up cu s = true ↔ sq_opX up cu s := by
  unfold sq_O
  exact @decide_eq_true_iff _ (Classical.propDecidable _)
theorem sq_ms22 {post : SX → Prop} {J : Int32 → (Nat → Int32) → (Nat → Int32) → (Nat → Int32) → (Nat → Int32) → (Nat → Int32) → (Nat → Int32) → (Nat → Int32) → (Nat → Int32) → Prop} {ke : Int32} {up cu ex cn se sc hd hs : Nat → Int32} {d : Nat} (hd16 : d < 16)
    (k : ∀ cv : Nat → Int32, (∀ i, cv i = if d * 6 ≤ i ∧ i < d * 6 + 6 then cn i else sc i) → J (nI (d + 3)) up cu ex cn se cv hd hs) :
    ∀ m t (cv : Nat → Int32), t + m = 6 → (∀ i, cv i = if d * 6 ≤ i ∧ i < d * 6 + t then cn i else sc i) → wX_makeSearchable_22 post J (nI d) ke (m + 1) (nI t) up cu ex cn se cv hd hs := by
  intro m
  induction m with
  | zero =>
    intro t cv ht h
    obtain rfl : t = 6 := by omega
    exact pk_le 6 6 (fun _ => nm_r (sq_3 d) (k cv h)) (fun z => absurd z (by omega))
  | succ m ih =>
    intro t cv ht h
    have c : (nI (d * 6 + t)).toNatClampNeg = d * 6 + t := sq_c (by omega)
    have v : vp_in (nI (d * 6 + t)) 96 := pk_in (d * 6 + t) 96 (by omega)
    refine pk_le 6 t (fun z => absurd z (by omega)) (fun _ => nm_r (sq_ix d t) ⟨v, v, nm_r (e' := upd cv (d * 6 + t) (cn (d * 6 + t))) (by rw [c]) (nm_r (nI_1 t) (ih (t + 1) _ (by omega) (fun i => ?_)))⟩)
    unfold upd
    rw [h i]
    by_cases e : i = d * 6 + t
    · rw [if_pos e, if_pos (by omega), e]
    · rw [if_neg e]
      by_cases f : d * 6 ≤ i ∧ i < d * 6 + t
      · rw [if_pos f, if_pos (by omega)]
      · rw [if_neg f, if_neg (by omega)]
theorem sq_ms2 {post : SX → Prop} {ke : Int32} {up cu ex cn se sc hd hs : Nat → Int32} {s : Nat} (hs3 : s < 3) (hE : ∀ d, d < 16 → ex d = 0 ∨ ex d = 1)
    (k : ∀ ev cv : Nat → Int32, (∀ e, e < 16 → ev e = if e % 3 = s then ex e else se e) → (∀ i, i < 96 → cv i = if i / 6 % 3 = s then cn i else sc i) → post (ke, up, cu, ex, cn, ev, cv, hd, hs)) :
    ∀ m d (ev cv : Nat → Int32), 16 ≤ d + 3 * m → d < 19 → d % 3 = s → (∀ e, e < 16 → ev e = if e % 3 = s ∧ e < d then ex e else se e) → (∀ i, i < 96 → cv i = if i / 6 % 3 = s ∧ i / 6 < d then cn i else sc i) → wX_makeSearchable_2 post ke (m + 1) (nI d) up cu ex cn ev cv hd hs := by
  have fin : ∀ d (ev cv : Nat → Int32), 16 ≤ d → (∀ e, e < 16 → ev e = if e % 3 = s ∧ e < d then ex e else se e) → (∀ i, i < 96 → cv i = if i / 6 % 3 = s ∧ i / 6 < d then cn i else sc i) → post (ke, up, cu, ex, cn, ev, cv, hd, hs) := by
    intro d ev cv hd he hc
    refine k ev cv (fun e h => ?_) (fun i h => ?_)
    · rw [he e h]
      by_cases f : e % 3 = s
      · rw [if_pos f, if_pos ⟨f, by omega⟩]
      · rw [if_neg f, if_neg (fun z => f z.1)]
    · rw [hc i h]
      by_cases f : i / 6 % 3 = s
      · rw [if_pos f, if_pos ⟨f, by omega⟩]
      · rw [if_neg f, if_neg (fun z => f z.1)]
  intro m
  induction m with
  | zero =>
    intro d ev cv hm hd hd3 he hc
    exact pk_le 16 d (fun _ => fin d ev cv (by omega) he hc) (fun z => absurd z (by omega))
  | succ m ih =>
    intro d ev cv hm hd hd3 he hc
    have c : (nI d).toNatClampNeg = d := sq_c (by omega)
    refine pk_le 16 d (fun _ => fin d ev cv (by omega) he hc) (fun h16 => ?_)
    have v : vp_in (nI d) 16 := pk_in d 16 h16
    refine ⟨v, v, nm_r (e' := upd ev d (ex d)) (by rw [c, sq_nb (hE d h16)]) ⟨7, sq_ms22 h16 (fun cw hw => ?_) 6 0 cv rfl (fun i => by rw [if_neg (by omega)])⟩⟩
    refine ih (d + 3) _ _ (by omega) (by omega) (by omega) (fun e h => ?_) (fun i h => ?_)
    · unfold upd
      by_cases f : e = d
      · rw [if_pos f, if_pos (by omega), f]
      · rw [if_neg f, he e h]
        by_cases g : e % 3 = s ∧ e < d
        · rw [if_pos g, if_pos (by omega)]
        · rw [if_neg g, if_neg (by omega)]
    · rw [hw i]
      by_cases f : d * 6 ≤ i ∧ i < d * 6 + 6
      · rw [if_pos f, if_pos (by omega)]
      · rw [if_neg f, hc i h]
        by_cases g : i / 6 % 3 = s ∧ i / 6 < d
        · rw [if_pos g, if_pos (by omega)]
        · rw [if_neg g, if_neg (by omega)]
theorem sq_ms {post : SX → Prop} {ke : Int32} {up cu ex cn se sc hd hs : Nat → Int32} {s : Nat} (hs3 : s < 3) (hE : ∀ d, d < 16 → ex d = 0 ∨ ex d = 1)
    (k : ∀ ev cv : Nat → Int32, (∀ e, e < 16 → ev e = if e % 3 = s then ex e else se e) → (∀ i, i < 96 → cv i = if i / 6 % 3 = s then cn i else sc i) → post (ke, up, cu, ex, cn, ev, cv, hd, hs)) : wpX_makeSearchable post (ke, up, cu, ex, cn, se, sc, hd, hs) (nI s) :=
  ⟨7, sq_ms2 hs3 hE k 6 s se sc (by omega) (by omega) (by omega) (fun e _ => by rw [if_neg (by omega)]) (fun i _ => by rw [if_neg (by omega)])⟩
theorem sq_rfX {post : Int32 → SX → Prop} {ke : Int32} {up cu ex cn se sc hd hs : Nat → Int32} (hE : ∀ d, d < 16 → ex d = 0 ∨ ex d = 1)
    (k : ∀ ev cv : Nat → Int32, (∀ e, e < 16 → ev e = if sq_O up cu (e % 3) = true then ex e else se e) → (∀ i, i < 96 → cv i = if sq_O up cu (i / 6 % 3) = true then cn i else sc i) → post (nI (sq_nP (sq_O up cu) 3)) (ke, up, cu, ex, cn, ev, cv, hd, hs)) :
    ∀ m s (ev cv : Nat → Int32), s + m = 3 → (∀ e, e < 16 → ev e = if sq_O up cu (e % 3) = true ∧ e % 3 < s then ex e else se e) → (∀ i, i < 96 → cv i = if sq_O up cu (i / 6 % 3) = true ∧ i / 6 % 3 < s then cn i else sc i) → wX_refresh_4 post (m + 1) (nI (sq_nP (sq_O up cu) s)) (nI s) ke up cu ex cn ev cv hd hs := by
  intro m
  induction m with
  | zero =>
    intro s ev cv hm he hc
    obtain rfl : s = 3 := by omega
    refine pk_le 3 3 (fun _ => k ev cv (fun e h => ?_) (fun i h => ?_)) (fun z => absurd z (by omega))
    · rw [he e h]
      by_cases f : sq_O up cu (e % 3) = true
      · rw [if_pos f, if_pos ⟨f, by omega⟩]
      · rw [if_neg f, if_neg (fun z => f z.1)]
    · rw [hc i h]
      by_cases f : sq_O up cu (i / 6 % 3) = true
      · rw [if_pos f, if_pos ⟨f, by omega⟩]
      · rw [if_neg f, if_neg (fun z => f z.1)]
  | succ m ih =>
    intro s ev cv hm he hc
    refine pk_le 3 s (fun z => absurd z (by omega)) (fun _ => sq_oX (by omega) (fun o => br_f sq_10 ?_) (fun o => br_t rfl (nm_r (nI_1 s) ?_)))
    · have o' := sq_Oi.mpr o
      refine sq_ms (by omega) hE (fun ew cw h1 h2 => nm_r (by rw [sq_nP1 o', ← nI_1]) (nm_r (nI_1 s) (ih (s + 1) _ _ (by omega) (fun e h => ?_) (fun i h => ?_))))
      · rw [h1 e h]
        by_cases f : e % 3 = s
        · rw [if_pos f, if_pos ⟨by rw [f]; exact o', by omega⟩]
        · rw [if_neg f, he e h]
          by_cases g : sq_O up cu (e % 3) = true ∧ e % 3 < s
          · rw [if_pos g, if_pos ⟨g.1, by omega⟩]
          · rw [if_neg g, if_neg (fun z => g ⟨z.1, by omega⟩)]
      · rw [h2 i h]
        by_cases f : i / 6 % 3 = s
        · rw [if_pos f, if_pos ⟨by rw [f]; exact o', by omega⟩]
        · rw [if_neg f, hc i h]
          by_cases g : sq_O up cu (i / 6 % 3) = true ∧ i / 6 % 3 < s
          · rw [if_pos g, if_pos ⟨g.1, by omega⟩]
          · rw [if_neg g, if_neg (fun z => g ⟨z.1, by omega⟩)]
    · have o' : ¬ sq_O up cu s = true := fun z => o (sq_Oi.mp z)
      rw [← sq_nP0 o']
      refine ih (s + 1) _ _ (by omega) (fun e h => ?_) (fun i h => ?_)
      · rw [he e h]
        by_cases g : sq_O up cu (e % 3) = true ∧ e % 3 < s
        · rw [if_pos g, if_pos ⟨g.1, by omega⟩]
        · have : ¬ (sq_O up cu (e % 3) = true ∧ e % 3 < s + 1) := by
            intro z
            by_cases f : e % 3 = s
            · rw [f] at z; exact o' z.1
            · exact g ⟨z.1, by omega⟩
          rw [if_neg g, if_neg this]
      · rw [hc i h]
        by_cases g : sq_O up cu (i / 6 % 3) = true ∧ i / 6 % 3 < s
        · rw [if_pos g, if_pos ⟨g.1, by omega⟩]
        · have : ¬ (sq_O up cu (i / 6 % 3) = true ∧ i / 6 % 3 < s + 1) := by
            intro z
            by_cases f : i / 6 % 3 = s
            · rw [f] at z; exact o' z.1
            · exact g ⟨z.1, by omega⟩
          rw [if_neg g, if_neg this]
theorem sq_rfY {post : Int32 → SY → Prop} {kf : Int32} {ey cm sh sd dn st hi so : Nat → Int32} {O : Nat → Bool} {x1 : Int32} (hO : ∀ s, s < 3 → (O s = true ↔ sq_opY dn st s)) (hE : ∀ d, d < 16 → ey d = 0 ∨ ey d = 1)
    (k : ∀ ev cv : Nat → Int32, (∀ e, e < 16 → ev e = if O (e % 3) = true then ey e else sh e) → (∀ i, i < 96 → cv i = if O (i / 6 % 3) = true then cm i else sd i) → post x1 (kf, ey, cm, ev, cv, dn, st, hi, so)) :
    ∀ m i (ev cv : Nat → Int32), i + m = 96 → (∀ e, e < 16 → ev e = if O (e % 3) = true ∧ e * 6 < i then ey e else sh e) → (∀ j, j < 96 → cv j = if O (j / 6 % 3) = true ∧ j < i then cm j else sd j) → wY_refresh_28 post x1 kf (m + 1) (nI i) ey cm ev cv dn st hi so := by
  intro m
  induction m with
  | zero =>
    intro i ev cv hm he hc
    obtain rfl : i = 96 := by omega
    refine pk_le 96 96 (fun _ => k ev cv (fun e h => ?_) (fun j h => ?_)) (fun z => absurd z (by omega))
    · rw [he e h]
      by_cases f : O (e % 3) = true
      · rw [if_pos f, if_pos ⟨f, by omega⟩]
      · rw [if_neg f, if_neg (fun z => f z.1)]
    · rw [hc j h]
      by_cases f : O (j / 6 % 3) = true
      · rw [if_pos f, if_pos ⟨f, by omega⟩]
      · rw [if_neg f, if_neg (fun z => f z.1)]
  | succ m ih =>
    intro i ev cv hm he hc
    have hi : i < 96 := by omega
    have d16 : i / 6 < 16 := by omega
    have s3 : i / 6 % 3 < 3 := by omega
    refine pk_le 96 i (fun z => absurd z (by omega)) (fun _ => ⟨sq_60, nm_r (sq_d6 (by omega)) ⟨sq_30, ?_⟩⟩)
    rw [sq_r3 (by omega)]
    have c : (nI (i / 6)).toNatClampNeg = i / 6 := sq_c (by omega)
    have ci : (nI i).toNatClampNeg = i := sq_c (by omega)
    have v : vp_in (nI (i / 6)) 16 := pk_in (i / 6) 16 d16
    have vi : vp_in (nI i) 96 := pk_in i 96 hi
    refine sq_oY s3 (fun o => br_f sq_10 ?_) (fun o => br_t rfl (nm_r (nI_1 i) ?_))
    · have o' := (hO _ s3).mpr o
      refine ⟨v, v, nm_r (e' := upd ev (i / 6) (ey (i / 6))) (by rw [c, sq_nb (hE _ d16)]) ⟨vi, vi, nm_r (e' := upd cv i (cm i)) (by rw [ci]) (nm_r (nI_1 i) (ih (i + 1) _ _ (by omega) (fun e h => ?_) (fun j h => ?_)))⟩⟩
      · unfold upd
        by_cases f : e = i / 6
        · rw [if_pos f, if_pos ⟨by rw [f]; exact o', by omega⟩, f]
        · rw [if_neg f, he e h]
          by_cases g : O (e % 3) = true ∧ e * 6 < i
          · rw [if_pos g, if_pos ⟨g.1, by omega⟩]
          · rw [if_neg g, if_neg (fun z => g ⟨z.1, by omega⟩)]
      · unfold upd
        by_cases f : j = i
        · rw [if_pos f, if_pos ⟨by rw [f]; exact o', by omega⟩, f]
        · rw [if_neg f, hc j h]
          by_cases g : O (j / 6 % 3) = true ∧ j < i
          · rw [if_pos g, if_pos ⟨g.1, by omega⟩]
          · rw [if_neg g, if_neg (fun z => g ⟨z.1, by omega⟩)]
    · have o' : ¬ O (i / 6 % 3) = true := fun z => o ((hO _ s3).mp z)
      refine ih (i + 1) _ _ (by omega) (fun e h => ?_) (fun j h => ?_)
      · rw [he e h]
        by_cases g : O (e % 3) = true ∧ e * 6 < i
        · rw [if_pos g, if_pos ⟨g.1, by omega⟩]
        · have : ¬ (O (e % 3) = true ∧ e * 6 < i + 1) := by
            intro z
            by_cases f : e = i / 6
            · rw [f] at z; exact o' z.1
            · exact g ⟨z.1, by omega⟩
          rw [if_neg g, if_neg this]
      · rw [hc j h]
        by_cases g : O (j / 6 % 3) = true ∧ j < i
        · rw [if_pos g, if_pos ⟨g.1, by omega⟩]
        · have : ¬ (O (j / 6 % 3) = true ∧ j < i + 1) := by
            intro z
            by_cases f : j = i
            · rw [f] at z; exact o' z.1
            · exact g ⟨z.1, by omega⟩
          rw [if_neg g, if_neg this]
theorem sq_rfY4 {post : Int32 → SY → Prop} {kf : Int32} {ey cm sh sd dn st hi so : Nat → Int32} {O : Nat → Bool} (hO : ∀ s, s < 3 → (O s = true ↔ sq_opY dn st s))
    (k : ∃ n, wY_refresh_28 post (nI (sq_nP O 3)) kf n 0 ey cm sh sd dn st hi so) : ∀ m s, s + m = 3 → wY_refresh_4 post kf ey cm sh sd dn st hi so (m + 1) (nI (sq_nP O s)) (nI s) := by
  intro m
  induction m with
  | zero =>
    intro s hm
    obtain rfl : s = 3 := by omega
    exact pk_le 3 3 (fun _ => k) (fun z => absurd z (by omega))
  | succ m ih =>
    intro s hm
    refine pk_le 3 s (fun z => absurd z (by omega)) (fun _ => sq_oY (by omega) (fun o => br_f sq_10 ?_) (fun o => br_t rfl (nm_r (nI_1 s) ?_)))
    · have o' := (hO s (by omega)).mpr o
      exact nm_r (by rw [sq_nP1 o', ← nI_1]) (nm_r (nI_1 s) (ih (s + 1) (by omega)))
    · have o' : ¬ O s = true := fun z => o ((hO s (by omega)).mp z)
      rw [← sq_nP0 o']
      exact ih (s + 1) (by omega)
theorem i_vc_refresh {k : Nat} {u : SX} {v : SY} (I : i_Rel k u v) (hk : k + 4 ≤ 2048) : wpX_refresh (fun r u' => wpY_refresh (fun r' v' => r' = r ∧ i_Rel (k + 4) u' v') v) u := by
  obtain ⟨ke, up, cu, ex, cn, se, sc, hd, hs⟩ := u
  obtain ⟨kf, ey, cm, sh, sd, dn, st, hi, so⟩ := v
  obtain ⟨N, D, S, K⟩ := I
  have hO : ∀ s, s < 3 → (sq_O up cu s = true ↔ sq_opY dn st s) := fun s h => sq_Oi.trans (sq_op N.1 h).symm
  refine ⟨4, sq_rfX (fun d h => (D.1 d h).2) (fun ev cv h1 h2 => ?_) 3 0 se sc rfl (fun e _ => by rw [if_neg (by omega)]) (fun i _ => by rw [if_neg (by omega)])⟩
  refine ⟨4, sq_rfY4 hO ⟨97, ?_⟩ 3 0 rfl⟩
  refine sq_rfY hO (fun d h => by rw [(D.1 d h).1]; exact (D.1 d h).2) (fun ew cw h3 h4 => ?_) 96 0 sh sd rfl (fun e _ => by rw [if_neg (by omega)]) (fun i _ => by rw [if_neg (by omega)])
  refine ⟨rfl, N, D, ⟨fun d h => ?_, fun d h t ht => ?_⟩, K⟩
  · show ew d = ev d
    rw [h1 d h, h3 d h, (D.1 d h).1, S.1 d h]
  · have a := h2 (d * 6 + t) (by omega)
    have b := h4 (d * 6 + t) (by omega)
    have e : (d * 6 + t) / 6 = d := by omega
    rw [e] at a b
    have c := h1 d h
    show (∃ c, c ≤ 9 ∧ cv (d * 6 + t) = nI c) ∧ (¬ ev d = 0 → cw (d * 6 + t) = cv (d * 6 + t))
    rw [a, b, c]
    by_cases o : sq_O up cu (d % 3) = true
    · rw [if_pos o, if_pos o, if_pos o]
      exact ⟨(D.2 d h t ht).1, (D.2 d h t ht).2.2⟩
    · rw [if_neg o, if_neg o, if_neg o]
      exact S.2 d h t ht
