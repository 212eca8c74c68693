section
/-! pasted rows (kit/rows) -/
theorem pk_us {f : Nat → Int32} {k : Nat} {x : Int32} : upd f k x k = x := if_pos rfl
theorem pk_un {f : Nat → Int32} {k j : Nat} {x : Int32} (h : j ≠ k) : upd f k x j = f j := if_neg h
theorem pk_sub {a b : Nat} (h : b ≤ a) : nI a - nI b = nI (a - b) := by
  obtain ⟨c, rfl⟩ : ∃ c, a = c + b := ⟨a - b, by omega⟩
  rw [← nI_add, Int32.add_sub_cancel, Nat.add_sub_cancel]
theorem pk_m1 (n : Nat) : nI (n + 1) + (-1) = nI n := by
  rw [← nI_1, Int32.add_assoc, show (1 : Int32) + (-1) = 0 from rfl, Int32.add_zero]
theorem pk_mul (a b : Nat) : nI a * nI b = nI (a * b) := (Int32.ofNat_mul a b).symm
theorem pk_div {a d : Nat} (ha : a < 2 ^ 31) (h0 : 0 < d) (hd : d < 2 ^ 31) : nI a / nI d = nI (a / d) := by
  apply Int32.toInt_inj.mp
  rw [lg_idiv_nonneg (by rw [nI_toInt ha]; omega) (by rw [nI_toInt hd]; omega), nI_toInt ha, nI_toInt hd, nI_toInt (Nat.lt_of_le_of_lt (Nat.div_le_self a d) ha)]
  first | rfl | exact (Int.natCast_ediv _ _).symm
theorem pk_rem {a d : Nat} (ha : a < 2 ^ 31) (h0 : 0 < d) (hd : d < 2 ^ 31) : nI a - nI a / nI d * nI d = nI (a % d) := by
  rw [pk_div ha h0 hd, pk_mul, pk_sub (Nat.div_mul_le_self a d)]
  exact congrArg nI (by have := Nat.div_add_mod' a d; omega)
theorem pk_ix (x : Int32) {n : Nat} (hn : n < 2 ^ 31) : x < 0 ∨ nI n ≤ x ∨ ∃ j : Nat, j < n ∧ x = nI j := by
  by_cases h : x < 0
  · exact Or.inl h
  · obtain ⟨j, hj, rfl⟩ := nI_of h
    by_cases h2 : j < n
    · exact Or.inr (Or.inr ⟨j, h2, rfl⟩)
    · exact Or.inr (Or.inl (nI_le (by omega) hj))
theorem pk_le {x y : Int32} {A B : Prop} (a b : Nat) (f : a ≤ b → A) (g : b < a → B) (hx : x = nI a := by rfl) (hy : y = nI b := by rfl) (ha : a < 2 ^ 31 := by omega) (hb : b < 2 ^ 31 := by omega) : (x ≤ y → A) ∧ (¬ x ≤ y → B) := by
  subst hx hy
  rw [nI_leI ha hb]
  exact ⟨f, fun z => g (by omega)⟩
theorem pk_lt {x y : Int32} {A B : Prop} (a b : Nat) (f : a < b → A) (g : b ≤ a → B) (hx : x = nI a := by rfl) (hy : y = nI b := by rfl) (ha : a < 2 ^ 31 := by omega) (hb : b < 2 ^ 31 := by omega) : (x < y → A) ∧ (¬ x < y → B) := by
  subst hx hy
  rw [nI_ltI ha hb]
  exact ⟨f, fun z => g (by omega)⟩
theorem pk_eq {x y : Int32} {A B : Prop} (a b : Nat) (f : a = b → A) (g : a ≠ b → B) (hx : x = nI a := by rfl) (hy : y = nI b := by rfl) (ha : a < 2 ^ 31 := by omega) (hb : b < 2 ^ 31 := by omega) : (x = y → A) ∧ (¬ x = y → B) := by
  subst hx hy
  rw [nI_eq ha hb]
  exact ⟨f, g⟩
theorem pk_in {x : Int32} (n N : Nat) (h : n < N) (hx : x = nI n := by rfl) (hN : N < 2 ^ 31 := by omega) : vp_in x N := by
  subst hx
  exact vp_in_nI h hN
theorem pk_cl {x : Int32} (n : Nat) (hx : x = nI n := by rfl) (h : n < 2 ^ 31 := by omega) : x.toNatClampNeg = n := by
  subst hx
  exact nI_clamp h
theorem pk_tn {n : Nat} (h : n < 2 ^ 32) : (nI n).toBitVec.toNat = n := Nat.mod_eq_of_lt h
theorem pk_and (x : Int32) {m : Int32} (k : Nat) (hm : m.toBitVec.toNat = 2 ^ k - 1) : x &&& m = nI (x.toBitVec.toNat % 2 ^ k) := by
  apply Int32.toBitVec_inj.mp
  apply BitVec.eq_of_toNat_eq
  rw [Int32.toBitVec_and, BitVec.toNat_and, hm, Nat.and_two_pow_sub_one_eq_mod]
  show _ = (BitVec.ofNat 32 _).toNat
  rw [BitVec.toNat_ofNat]
  exact (Nat.mod_eq_of_lt (Nat.lt_of_le_of_lt (Nat.mod_le _ _) x.toBitVec.isLt)).symm
theorem pk_andN {n : Nat} (h : n < 2 ^ 32) {m : Int32} (k : Nat) (hm : m.toBitVec.toNat = 2 ^ k - 1) : nI n &&& m = nI (n % 2 ^ k) := by
  rw [pk_and _ k hm, pk_tn h]
theorem pk_andE (x : Int32) {m : Int32} (k : Nat) (hm : m.toBitVec.toNat = 2 ^ k - 1) : ∃ j : Nat, j < 2 ^ k ∧ x &&& m = nI j := ⟨_, Nat.mod_lt _ (Nat.two_pow_pos k), pk_and x k hm⟩
/-! own rows: the relation -/
theorem sq_n0 : vp_nar .boolean 0 = 0 := by show (0 : Int32) &&& 1 = 0; decide
theorem sq_n1 : vp_nar .boolean 1 = 1 := by show (1 : Int32) &&& 1 = 1; decide
theorem sq_nb {x : Int32} (h : x = 0 ∨ x = 1) : vp_nar .boolean x = x := by
  rcases h with rfl | rfl
  · exact sq_n0
  · exact sq_n1
theorem sq_10 : ¬ (1 : Int32) = 0 := by decide
theorem sq_30 : ¬ (3 : Int32) = 0 := by decide
theorem sq_60 : ¬ (6 : Int32) = 0 := by decide
theorem sq_c {n : Nat} (h : n < 1000) : (nI n).toNatClampNeg = n := nI_clamp (by omega)
theorem sq_3 (s : Nat) : nI s + 3 = nI (s + 3) := nI_add s 3
theorem sq_ix (d t : Nat) : nI d * 6 + nI t = nI (d * 6 + t) := by
  rw [show (6 : Int32) = nI 6 from rfl, pk_mul, nI_add]
theorem sq_r3 {d : Nat} (h : d < 1000) : nI d - nI d / 3 * 3 = nI (d % 3) :=
  pk_rem (a := d) (d := 3) (by omega) (by omega) (by omega)
theorem sq_d6 {d : Nat} (h : d < 1000) : nI d / 6 = nI (d / 6) :=
  pk_div (a := d) (d := 6) (by omega) (by omega) (by omega)
def sq_opX (up cu : Nat → Int32) (s : Nat) : Prop := (¬ up s = 0 ∧ ¬ cu s = 0) ∨ (¬ up (s + 3) = 0 ∧ ¬ cu (s + 3) = 0)
def sq_opY (dn st : Nat → Int32) (s : Nat) : Prop := (dn s = 0 ∧ st s = 0) ∨ (dn (s + 3) = 0 ∧ st (s + 3) = 0)
def sq_N1 (up cu dn st : Nat → Int32) : Prop := ∀ j, j < 6 → (up j = 0 ↔ ¬ dn j = 0) ∧ (cu j = 0 ↔ ¬ st j = 0)
def sq_NR (up cu dn st : Nat → Int32) : Prop := sq_N1 up cu dn st ∧ ∀ j, j < 6 → sq_opX up cu (j % 3) → ¬ up j = 0 → ¬ cu j = 0
def sq_DR (ex cn ey cm : Nat → Int32) : Prop := (∀ d, d < 16 → ey d = ex d ∧ (ex d = 0 ∨ ex d = 1)) ∧
  ∀ d, d < 16 → ∀ t, t < 6 → (∃ c, c ≤ 9 ∧ cn (d * 6 + t) = nI c) ∧ (ex d = 0 → cn (d * 6 + t) = 0) ∧ (¬ ex d = 0 → cm (d * 6 + t) = cn (d * 6 + t))
def sq_SR (se sc sh sd : Nat → Int32) : Prop := (∀ d, d < 16 → sh d = se d) ∧
  ∀ d, d < 16 → ∀ t, t < 6 → (∃ c, c ≤ 9 ∧ sc (d * 6 + t) = nI c) ∧ (¬ se d = 0 → sd (d * 6 + t) = sc (d * 6 + t))
def sq_KR (ke : Int32) (hd hs : Nat → Int32) (kf : Int32) (hi so : Nat → Int32) : Prop :=
  ∃ n, n ≤ 16 ∧ ke = nI n ∧ kf = nI n ∧ ∀ i, i < n → hi i = hd i ∧ so i = hs i
def sq_R (u : SX) (v : SY) : Prop := match u, v with
  | (ke, up, cu, ex, cn, se, sc, hd, hs), (kf, ey, cm, sh, sd, dn, st, hi, so) => sq_NR up cu dn st ∧ sq_DR ex cn ey cm ∧ sq_SR se sc sh sd ∧ sq_KR ke hd hs kf hi so
def i_Rel (_ : Nat) (u : SX) (v : SY) : Prop := sq_R u v
theorem i_up {k : Nat} {u : SX} {v : SY} (h : i_Rel k u v) : i_Rel (k + 4) u v := h
theorem sq_init {post : SX → Prop} (h : ∀ up cu : Nat → Int32, (∀ j, j < 6 → up j = 1 ∧ cu j = 1) → post (0, up, cu, (fun _ => 0), (fun _ => 0), (fun _ => 0), (fun _ => 0), (fun _ => 0), (fun _ => 0))) : wpX_init post := by
  have key : ∀ m j (up cu : Nat → Int32), j + m = 6 → (∀ i, i < j → up i = 1 ∧ cu i = 1) → wX_init_75 post 0 (m + 1) (nI j) up cu (fun _ => 0) (fun _ => 0) (fun _ => 0) (fun _ => 0) (fun _ => 0) (fun _ => 0) := by
    intro m
    induction m with
    | zero =>
      intro j up cu hj hi
      exact pk_le 6 j (fun _ => h up cu (fun i hi' => hi i (by omega))) (fun z => absurd z (by omega))
    | succ m ih =>
      intro j up cu hj hi
      have c : (nI j).toNatClampNeg = j := sq_c (by omega)
      have v : vp_in (nI j) 6 := pk_in j 6 (by omega)
      refine pk_le 6 j (fun z => absurd z (by omega)) (fun _ => ⟨v, nm_r (e' := upd up j 1) (by rw [c, sq_n1]) ⟨v, nm_r (e' := upd cu j 1) (by rw [c, sq_n1]) (nm_r (nI_1 j) (ih (j + 1) _ _ (by omega) ?_))⟩⟩)
      intro i hi'
      by_cases e : i = j
      · subst e; exact ⟨pk_us, pk_us⟩
      · rw [pk_un e, pk_un e]; exact hi i (by omega)
  exact ⟨7, key 6 0 _ _ rfl (fun i hi => absurd hi (by omega))⟩
theorem i_vc0 : wpX_init (fun u => wpY_init (fun v => i_Rel 0 u v)) := by
  refine sq_init (fun up cu h => ?_)
  unfold wpY_init i_Rel
  refine ⟨⟨fun j hj => ?_, fun j hj _ _ => ?_⟩, ⟨fun d _ => ⟨rfl, Or.inl rfl⟩, fun d _ t _ => ⟨⟨0, by omega, nI_0.symm⟩, fun _ => rfl, fun _ => rfl⟩⟩, ⟨fun d _ => rfl, fun d _ t _ => ⟨⟨0, by omega, nI_0.symm⟩, fun _ => rfl⟩⟩, ⟨0, by omega, nI_0.symm, nI_0.symm, fun i hi => absurd hi (by omega)⟩⟩
  · rw [(h j hj).1, (h j hj).2]
    exact ⟨⟨fun z => absurd z sq_10, fun z => absurd rfl z⟩, ⟨fun z => absurd z sq_10, fun z => absurd rfl z⟩⟩
  · rw [(h j hj).2]; exact sq_10
end
section
/-! nodes: open, what a change leaves behind, crash, restart -/
theorem sq_dX0 {post : Int32 → Prop} {p : Int32} (h : p < 0 ∨ nI 16 ≤ p) (k : post 0) : wpX_isDoc post p := by
  unfold wpX_isDoc
  exact br_c (fun _ => k) (fun z => br_t (h.resolve_left z) k)
theorem sq_dX1 {post : Int32 → Prop} {d : Nat} (h : d < 16) (k : post 1) : wpX_isDoc post (nI d) := by
  unfold wpX_isDoc
  exact br_f (nI_pos (by omega)) (br_f (nI_ge (b := 16) h (by omega)) k)
theorem sq_tX0 {post : Int32 → Prop} {p : Int32} (h : p < 0 ∨ nI 6 ≤ p) (k : post 0) : wpX_isTerm post p := by
  unfold wpX_isTerm
  exact br_c (fun _ => k) (fun z => br_t (h.resolve_left z) k)
theorem sq_tX1 {post : Int32 → Prop} {d : Nat} (h : d < 6) (k : post 1) : wpX_isTerm post (nI d) := by
  unfold wpX_isTerm
  exact br_f (nI_pos (by omega)) (br_f (nI_ge (b := 6) h (by omega)) k)
theorem sq_nX0 {post : Int32 → Prop} {p : Int32} (h : p < 0 ∨ nI 6 ≤ p) (k : post 0) : wpX_isNode post p := by
  unfold wpX_isNode
  exact br_c (fun _ => k) (fun z => br_t (h.resolve_left z) k)
theorem sq_nX1 {post : Int32 → Prop} {d : Nat} (h : d < 6) (k : post 1) : wpX_isNode post (nI d) := by
  unfold wpX_isNode
  exact br_f (nI_pos (by omega)) (br_f (nI_ge (b := 6) h (by omega)) k)
theorem sq_dY0 {post : Int32 → Prop} {kf : Int32} {ey cm sh sd dn st hi so : Nat → Int32} {p : Int32} (h : p < 0 ∨ nI 16 ≤ p) (k : post 0) : wpY_isDoc post (kf, ey, cm, sh, sd, dn, st, hi, so) p := by
  unfold wpY_isDoc
  exact br_c (fun _ => k) (fun z => br_t (h.resolve_left z) k)
theorem sq_dY1 {post : Int32 → Prop} {kf : Int32} {ey cm sh sd dn st hi so : Nat → Int32} {d : Nat} (h : d < 16) (k : post 1) : wpY_isDoc post (kf, ey, cm, sh, sd, dn, st, hi, so) (nI d) := by
  unfold wpY_isDoc
  exact br_f (nI_pos (by omega)) (br_f (nI_ge (b := 16) h (by omega)) k)
theorem sq_tY0 {post : Int32 → Prop} {kf : Int32} {ey cm sh sd dn st hi so : Nat → Int32} {p : Int32} (h : p < 0 ∨ nI 6 ≤ p) (k : post 0) : wpY_isTerm post (kf, ey, cm, sh, sd, dn, st, hi, so) p := by
  unfold wpY_isTerm
  exact br_c (fun _ => k) (fun z => br_t (h.resolve_left z) k)
theorem sq_tY1 {post : Int32 → Prop} {kf : Int32} {ey cm sh sd dn st hi so : Nat → Int32} {d : Nat} (h : d < 6) (k : post 1) : wpY_isTerm post (kf, ey, cm, sh, sd, dn, st, hi, so) (nI d) := by
  unfold wpY_isTerm
  exact br_f (nI_pos (by omega)) (br_f (nI_ge (b := 6) h (by omega)) k)
theorem sq_oX {post : Int32 → Prop} {ke : Int32} {up cu ex cn se sc hd hs : Nat → Int32} {s : Nat} (hs3 : s < 3) (k1 : sq_opX up cu s → post 1) (k0 : ¬ sq_opX up cu s → post 0) : wpX_isOpen post (ke, up, cu, ex, cn, se, sc, hd, hs) (nI s) := by
  have c0 : (nI s).toNatClampNeg = s := sq_c (by omega)
  have c3 : (nI (s + 3)).toNatClampNeg = s + 3 := sq_c (by omega)
  have i0 : vp_in (nI s) 6 := pk_in s 6 (by omega)
  have i3 : vp_in (nI (s + 3)) 6 := pk_in (s + 3) 6 (by omega)
  unfold wpX_isOpen wX_isOpen_22
  dsimp only
  intro x2 e
  subst e
  rw [sq_3, c0, c3]
  unfold sq_opX at k1 k0
  by_cases a : up s = 0 <;> by_cases b : cu s = 0 <;> by_cases c : up (s + 3) = 0 <;> by_cases d : cu (s + 3) = 0 <;> simp_all
theorem sq_oX1 {post : Int32 → Prop} {ke : Int32} {up cu ex cn se sc hd hs : Nat → Int32} {s : Nat} (hs3 : s < 3) (h : sq_opX up cu s) (k : post 1) : wpX_isOpen post (ke, up, cu, ex, cn, se, sc, hd, hs) (nI s) :=
  sq_oX hs3 (fun _ => k) (fun z => absurd h z)
theorem sq_oX0 {post : Int32 → Prop} {ke : Int32} {up cu ex cn se sc hd hs : Nat → Int32} {s : Nat} (hs3 : s < 3) (h : ¬ sq_opX up cu s) (k : post 0) : wpX_isOpen post (ke, up, cu, ex, cn, se, sc, hd, hs) (nI s) :=
  sq_oX hs3 (fun z => absurd z h) (fun _ => k)
theorem sq_oY {post : Int32 → Prop} {kf : Int32} {ey cm sh sd dn st hi so : Nat → Int32} {s : Nat} (hs3 : s < 3) (k1 : sq_opY dn st s → post 1) (k0 : ¬ sq_opY dn st s → post 0) : wpY_open post (kf, ey, cm, sh, sd, dn, st, hi, so) (nI s) := by
  have c0 : (nI s).toNatClampNeg = s := sq_c (by omega)
  have c3 : (nI (s + 3)).toNatClampNeg = s + 3 := sq_c (by omega)
  have i0 : vp_in (nI s) 6 := pk_in s 6 (by omega)
  have i3 : vp_in (nI (s + 3)) 6 := pk_in (s + 3) 6 (by omega)
  unfold wpY_open wY_open_29
  dsimp only
  refine br_f (nI_pos (by omega)) (br_t (nI_le (b := 2) (by omega) (by omega)) ?_)
  rw [sq_3, c0, c3]
  unfold sq_opY at k1 k0
  by_cases a : dn s = 0 <;> by_cases b : st s = 0 <;> by_cases c : dn (s + 3) = 0 <;> by_cases d : st (s + 3) = 0 <;> simp_all
theorem sq_oY1 {post : Int32 → Prop} {kf : Int32} {ey cm sh sd dn st hi so : Nat → Int32} {s : Nat} (hs3 : s < 3) (h : sq_opY dn st s) (k : post 1) : wpY_open post (kf, ey, cm, sh, sd, dn, st, hi, so) (nI s) :=
  sq_oY hs3 (fun _ => k) (fun z => absurd h z)
theorem sq_oY0 {post : Int32 → Prop} {kf : Int32} {ey cm sh sd dn st hi so : Nat → Int32} {s : Nat} (hs3 : s < 3) (h : ¬ sq_opY dn st s) (k : post 0) : wpY_open post (kf, ey, cm, sh, sd, dn, st, hi, so) (nI s) :=
  sq_oY hs3 (fun z => absurd z h) (fun _ => k)
theorem sq_op {up cu dn st : Nat → Int32} (N : sq_N1 up cu dn st) {s : Nat} (hs3 : s < 3) : sq_opY dn st s ↔ sq_opX up cu s := by
  have a := N s (by omega)
  have b := N (s + 3) (by omega)
  unfold sq_opX sq_opY
  rw [a.1, a.2, b.1, b.2]
  simp only [Decidable.not_not]
/-- what a change leaves behind -/
def sq_LX (up cu cv : Nat → Int32) (s : Nat) : Prop := ∀ j, j < 6 → (cv j = 0 ↔ cu j = 0 ∨ ((j = s ∨ j = s + 3) ∧ up j = 0))
def sq_LY (dn st sv : Nat → Int32) (s : Nat) : Prop := ∀ j, j < 6 → (sv j = 0 ↔ st j = 0 ∧ ¬ ((j = s ∨ j = s + 3) ∧ ¬ dn j = 0))
theorem sq_leave1 {post : SX → Prop} {ke : Int32} {up cu ex cn se sc hd hs : Nat → Int32} {n x : Nat} (hx : x < 6)
    (k0 : up x = 0 → wX_leaveDownCopiesBehind_2 post ke n (nI (x + 3)) up (upd cu x 0) ex cn se sc hd hs)
    (k1 : ¬ up x = 0 → wX_leaveDownCopiesBehind_2 post ke n (nI (x + 3)) up cu ex cn se sc hd hs) : wX_leaveDownCopiesBehind_2 post ke (n + 1) (nI x) up cu ex cn se sc hd hs := by
  have c0 : (nI x).toNatClampNeg = x := sq_c (by omega)
  have i0 : vp_in (nI x) 6 := pk_in x 6 (by omega)
  exact pk_le 6 x (fun z => absurd z (by omega)) (fun _ => ⟨i0, br_c (fun z => ⟨i0, nm_r (e' := upd cu x 0) (by rw [c0, sq_n0]) (nm_r (sq_3 x) (k0 (by rw [c0] at z; exact z)))⟩) (fun z => nm_r (sq_3 x) (k1 (by rw [c0] at z; exact z)))⟩)
theorem sq_leave9 {post : SX → Prop} {ke : Int32} {up cu ex cn se sc hd hs : Nat → Int32} {n x : Nat} (hx : 6 ≤ x) (hx' : x < 100) (k : post (ke, up, cu, ex, cn, se, sc, hd, hs)) : wX_leaveDownCopiesBehind_2 post ke (n + 1) (nI x) up cu ex cn se sc hd hs :=
  pk_le 6 x (fun _ => k) (fun z => absurd z (by omega))
theorem sq_leave {post : SX → Prop} {ke : Int32} {up cu ex cn se sc hd hs : Nat → Int32} {s : Nat} (hs3 : s < 3) (k : ∀ cv, sq_LX up cu cv s → post (ke, up, cv, ex, cn, se, sc, hd, hs)) : wpX_leaveDownCopiesBehind post (ke, up, cu, ex, cn, se, sc, hd, hs) (nI s) := by
  have q : ∀ cv : Nat → Int32, (∀ j, j < 6 → cv j = if (j = s ∨ j = s + 3) ∧ up j = 0 then 0 else cu j) → post (ke, up, cv, ex, cn, se, sc, hd, hs) := by
    intro cv h
    refine k cv (fun j hj => ?_)
    rw [h j hj]
    by_cases z : (j = s ∨ j = s + 3) ∧ up j = 0 <;> simp [z]
  refine ⟨3, sq_leave1 (by omega) (fun a => sq_leave1 (by omega) (fun b => sq_leave9 (by omega) (by omega) (q _ ?_)) (fun b => sq_leave9 (by omega) (by omega) (q _ ?_))) (fun a => sq_leave1 (by omega) (fun b => sq_leave9 (by omega) (by omega) (q _ ?_)) (fun b => sq_leave9 (by omega) (by omega) (q _ ?_)))⟩
  all_goals
    intro j hj
    try unfold upd
    by_cases e : j = s
    · subst e; simp [a]
    · by_cases f : j = s + 3
      · subst f; simp [b]
      · simp [e, f]
theorem sq_changed {post : SY → Prop} {kf : Int32} {ey cm sh sd dn st hi so : Nat → Int32} {d : Nat} (hd16 : d < 16) (k : ∀ sv, sq_LY dn st sv (d % 3) → post (kf, ey, cm, sh, sd, dn, sv, hi, so)) : wpY_changed post (kf, ey, cm, sh, sd, dn, st, hi, so) (nI d) := by
  have q : ∀ sv : Nat → Int32, (∀ j, j < 6 → sv j = if (j = d % 3 ∨ j = d % 3 + 3) ∧ ¬ dn j = 0 then 1 else st j) → post (kf, ey, cm, sh, sd, dn, sv, hi, so) := by
    intro sv h
    refine k sv (fun j hj => ?_)
    rw [h j hj]
    by_cases z : (j = d % 3 ∨ j = d % 3 + 3) ∧ ¬ dn j = 0
    · rw [if_pos z]; exact ⟨fun y => absurd y sq_10, fun y => absurd z y.2⟩
    · rw [if_neg z]; exact ⟨fun y => ⟨y, z⟩, fun y => y.1⟩
  have hs3 : d % 3 < 3 := by omega
  unfold wpY_changed wY_changed_20
  dsimp only
  refine ⟨sq_30, nm_r (sq_r3 (by omega)) ?_⟩
  generalize d % 3 = s at *
  have c0 : (nI s).toNatClampNeg = s := sq_c (by omega)
  have c3 : (nI (s + 3)).toNatClampNeg = s + 3 := sq_c (by omega)
  have i0 : vp_in (nI s) 6 := pk_in s 6 (by omega)
  have i3 : vp_in (nI (s + 3)) 6 := pk_in (s + 3) 6 (by omega)
  rw [sq_3, c0, c3, sq_n1]
  refine ⟨i0, br_c (fun a => ⟨i3, br_c (fun b => q _ ?_) (fun b => ⟨i3, nm_e (q _ ?_)⟩)⟩) (fun a => ⟨i0, nm_e ⟨i3, br_c (fun b => q _ ?_) (fun b => ⟨i3, nm_e (q _ ?_)⟩)⟩⟩)⟩
  all_goals
    intro j hj
    try unfold upd
    by_cases e : j = s
    · subst e; simp [a]
    · by_cases f : j = s + 3
      · subst f; simp [b]
      · simp [e, f]
theorem sq_NRch {up cu dn st cv sv : Nat → Int32} {s : Nat} (N : sq_NR up cu dn st) (A : sq_LX up cu cv s) (B : sq_LY dn st sv s) : sq_NR up cv dn sv := by
  refine ⟨fun j hj => ⟨(N.1 j hj).1, ?_⟩, fun j hj o hu => ?_⟩
  · rw [A j hj, B j hj, (N.1 j hj).1, (N.1 j hj).2]
    by_cases a : st j = 0 <;> by_cases b : dn j = 0 <;> by_cases e : (j = s ∨ j = s + 3) <;> simp [a, b, e]
  · intro z
    rcases (A j hj).mp z with y | y
    · refine N.2 j hj ?_ hu y
      have g : ∀ i, i < 6 → ¬ cv i = 0 → ¬ cu i = 0 := fun i hi q w => q ((A i hi).mpr (Or.inl w))
      rcases o with o | o
      · exact Or.inl ⟨o.1, g _ (by omega) o.2⟩
      · exact Or.inr ⟨o.1, g _ (by omega) o.2⟩
    · exact hu y.2
end
section
/-! crash, restart, open -/
def sq_BX (up cu cv : Nat → Int32) (s : Nat) : Prop := (sq_opX up cu s → ∀ j, j < 6 → (cv j = 0 ↔ cu j = 0 ∧ ¬ ((j = s ∨ j = s + 3) ∧ ¬ up j = 0))) ∧ (¬ sq_opX up cu s → ∀ j, j < 6 → cv j = cu j)
def sq_BY (dn st sv : Nat → Int32) (s : Nat) : Prop := (sq_opY dn st s → ∀ j, j < 6 → (sv j = 0 ↔ st j = 0 ∨ ((j = s ∨ j = s + 3) ∧ dn j = 0))) ∧ (¬ sq_opY dn st s → ∀ j, j < 6 → sv j = st j)
theorem sq_bring1 {post : SX → Prop} {ke : Int32} {up cu ex cn se sc hd hs : Nat → Int32} {n x : Nat} (hx : x < 6)
    (k0 : ¬ up x = 0 → wX_bringUpCopiesLevel_11 post ke n (nI (x + 3)) up (upd cu x 1) ex cn se sc hd hs)
    (k1 : up x = 0 → wX_bringUpCopiesLevel_11 post ke n (nI (x + 3)) up cu ex cn se sc hd hs) : wX_bringUpCopiesLevel_11 post ke (n + 1) (nI x) up cu ex cn se sc hd hs := by
  have c0 : (nI x).toNatClampNeg = x := sq_c (by omega)
  have i0 : vp_in (nI x) 6 := pk_in x 6 (by omega)
  exact pk_le 6 x (fun z => absurd z (by omega)) (fun _ => ⟨i0, br_c (fun z => nm_r (sq_3 x) (k1 (by rw [c0] at z; exact z))) (fun z => ⟨i0, nm_r (e' := upd cu x 1) (by rw [c0, sq_n1]) (nm_r (sq_3 x) (k0 (by rw [c0] at z; exact z)))⟩)⟩)
theorem sq_bring9 {post : SX → Prop} {ke : Int32} {up cu ex cn se sc hd hs : Nat → Int32} {n x : Nat} (hx : 6 ≤ x) (hx' : x < 100) (k : post (ke, up, cu, ex, cn, se, sc, hd, hs)) : wX_bringUpCopiesLevel_11 post ke (n + 1) (nI x) up cu ex cn se sc hd hs :=
  pk_le 6 x (fun _ => k) (fun z => absurd z (by omega))
theorem sq_bring {post : SX → Prop} {ke : Int32} {up cu ex cn se sc hd hs : Nat → Int32} {s : Nat} (hs3 : s < 3) (k : ∀ cv, sq_BX up cu cv s → post (ke, up, cv, ex, cn, se, sc, hd, hs)) : wpX_bringUpCopiesLevel post (ke, up, cu, ex, cn, se, sc, hd, hs) (nI s) := by
  unfold wpX_bringUpCopiesLevel
  dsimp only
  refine sq_oX hs3 (fun o => br_f sq_10 ?_) (fun o => br_t rfl (k _ ⟨fun z => absurd z o, fun _ j _ => rfl⟩))
  have q : ∀ cv : Nat → Int32, (∀ j, j < 6 → cv j = if (j = s ∨ j = s + 3) ∧ ¬ up j = 0 then 1 else cu j) → post (ke, up, cv, ex, cn, se, sc, hd, hs) := by
    intro cv h
    refine k cv ⟨fun _ j hj => ?_, fun z => absurd o z⟩
    rw [h j hj]
    by_cases z : (j = s ∨ j = s + 3) ∧ ¬ up j = 0
    · rw [if_pos z]; exact ⟨fun y => absurd y sq_10, fun y => absurd z y.2⟩
    · rw [if_neg z]; exact ⟨fun y => ⟨y, z⟩, fun y => y.1⟩
  refine ⟨3, sq_bring1 (by omega) (fun a => sq_bring1 (by omega) (fun b => sq_bring9 (by omega) (by omega) (q _ ?_)) (fun b => sq_bring9 (by omega) (by omega) (q _ ?_))) (fun a => sq_bring1 (by omega) (fun b => sq_bring9 (by omega) (by omega) (q _ ?_)) (fun b => sq_bring9 (by omega) (by omega) (q _ ?_)))⟩
  all_goals
    intro j hj
    try unfold upd
    by_cases e : j = s
    · subst e; simp [a]
    · by_cases f : j = s + 3
      · subst f; simp [b]
      · simp [e, f]
theorem sq_re62 {post : Int32 → SY → Prop} {kf : Int32} {ey cm sh sd dn st hi so : Nat → Int32} {s : Nat} {z : Int32} (hs3 : s < 3)
    (k1 : sq_opY dn st s → dn (s + 3) = 0 → post z (kf, ey, cm, sh, sd, dn, upd st (s + 3) 0, hi, so))
    (k2 : sq_opY dn st s → ¬ dn (s + 3) = 0 → post z (kf, ey, cm, sh, sd, dn, st, hi, so))
    (k0 : ¬ sq_opY dn st s → post z (kf, ey, cm, sh, sd, dn, st, hi, so)) : wY_restart_62 post z (nI s) kf ey cm sh sd dn st hi so := by
  have c3 : (nI (s + 3)).toNatClampNeg = s + 3 := sq_c (by omega)
  have i3 : vp_in (nI (s + 3)) 6 := pk_in (s + 3) 6 (by omega)
  unfold wY_restart_62
  refine sq_oY hs3 (fun o => br_f sq_10 ?_) (fun o => br_t rfl (k0 o))
  rw [sq_3, c3, sq_n0]
  exact ⟨i3, br_c (fun a => ⟨i3, nm_e (k1 o a)⟩) (fun a => k2 o a)⟩
theorem sq_re26 {post : Int32 → SY → Prop} {kf : Int32} {ey cm sh sd dn st hi so : Nat → Int32} {i : Nat} {z : Int32} (hi6 : i < 6) (k : ∀ sv, sq_BY (upd dn i 0) st sv (i % 3) → post z (kf, ey, cm, sh, sd, upd dn i 0, sv, hi, so)) : wY_restart_26 post (nI i) z kf ey cm sh sd dn st hi so := by
  have ci : (nI i).toNatClampNeg = i := sq_c (by omega)
  have ii : vp_in (nI i) 6 := pk_in i 6 (by omega)
  unfold wY_restart_26
  rw [sq_r3 (by omega)]
  refine ⟨ii, nm_r (e' := upd dn i 0) (by rw [ci, sq_n0]) ⟨sq_30, nm_e ?_⟩⟩
  have hs3 : i % 3 < 3 := by omega
  generalize i % 3 = s at *
  generalize upd dn i 0 = dm at *
  have c0 : (nI s).toNatClampNeg = s := sq_c (by omega)
  have i0 : vp_in (nI s) 6 := pk_in s 6 (by omega)
  rw [c0, sq_n0]
  have q : sq_opY dm st s → ∀ sv : Nat → Int32, (∀ j, j < 6 → sv j = if (j = s ∨ j = s + 3) ∧ dm j = 0 then 0 else st j) → post z (kf, ey, cm, sh, sd, dm, sv, hi, so) := by
    intro o sv h
    refine k sv ⟨fun _ j hj => ?_, fun z => absurd o z⟩
    rw [h j hj]
    by_cases z : (j = s ∨ j = s + 3) ∧ dm j = 0
    · rw [if_pos z]; exact ⟨fun y => Or.inr z, fun y => rfl⟩
    · rw [if_neg z]; exact ⟨fun y => Or.inl y, fun y => y.resolve_right z⟩
  refine sq_oY hs3 (fun o => br_f sq_10 ⟨i0, br_c (fun a => ⟨i0, nm_e ?_⟩) (fun a => ?_)⟩) (fun o => br_t rfl ?_)
  · have o' : sq_opY dm (upd st s 0) s := Or.inl ⟨a, pk_us⟩
    refine sq_re62 hs3 (fun _ b => q o _ ?_) (fun _ b => q o _ ?_) (fun y => absurd o' y)
    all_goals
      intro j hj
      try unfold upd
      by_cases e : j = s
      · subst e; simp [a]
      · by_cases f : j = s + 3
        · subst f; simp [b]
        · simp [e, f]
  · refine sq_re62 hs3 (fun _ b => q o _ ?_) (fun _ b => q o _ ?_) (fun y => absurd o y)
    all_goals
      intro j hj
      try unfold upd
      by_cases e : j = s
      · subst e; simp [a]
      · by_cases f : j = s + 3
        · subst f; simp [b]
        · simp [e, f]
  · exact sq_re62 hs3 (fun y _ => absurd y o) (fun y _ => absurd y o) (fun _ => k _ ⟨fun y => absurd y o, fun _ j _ => rfl⟩)
theorem sq_NRre {up cu dn st cv sv : Nat → Int32} {s : Nat} (hs3 : s < 3) (N : sq_N1 up cu dn st)
    (V : ∀ j, j < 6 → ¬ j % 3 = s → sq_opX up cu (j % 3) → ¬ up j = 0 → ¬ cu j = 0)
    (A : sq_BX up cu cv s) (B : sq_BY dn st sv s) : sq_NR up cv dn sv := by
  by_cases o : sq_opX up cu s
  · have A := A.1 o
    have B := B.1 ((sq_op N hs3).mpr o)
    refine ⟨fun j hj => ⟨(N j hj).1, ?_⟩, fun j hj w hu => ?_⟩
    · rw [A j hj, B j hj, (N j hj).1, (N j hj).2]
      by_cases a : st j = 0 <;> by_cases b : dn j = 0 <;> by_cases e : (j = s ∨ j = s + 3) <;> simp [a, b, e]
    · by_cases m : j % 3 = s
      · intro z
        exact ((A j hj).mp z).2 ⟨by omega, hu⟩
      · intro z
        refine V j hj m ?_ hu ((A j hj).mp z).1
        have g : ∀ i, i < 6 → i % 3 = j % 3 → ¬ cv i = 0 → ¬ cu i = 0 := fun i hi q r t => r ((A i hi).mpr ⟨t, fun y => by omega⟩)
        rcases w with w | w
        · exact Or.inl ⟨w.1, g _ (by omega) (by omega) w.2⟩
        · exact Or.inr ⟨w.1, g _ (by omega) (by omega) w.2⟩
  · have A := A.2 o
    have B := B.2 (fun z => o ((sq_op N hs3).mp z))
    refine ⟨fun j hj => ⟨(N j hj).1, ?_⟩, fun j hj w hu => ?_⟩
    · rw [A j hj, B j hj]; exact (N j hj).2
    · rw [A j hj]
      have w' : sq_opX up cu (j % 3) := by
        unfold sq_opX at w ⊢
        rw [A (j % 3) (by omega), A (j % 3 + 3) (by omega)] at w
        exact w
      refine V j hj (fun m => o (m ▸ w')) w' hu
theorem i_vc_restart {k : Nat} {u : SX} {v : SY} (I : i_Rel k u v) (hk : k + 4 ≤ 2048) (v1 : Int32) : wpX_restart (fun r u' => wpY_restart (fun r' v' => r' = r ∧ i_Rel (k + 4) u' v') v v1) u v1 := by
  obtain ⟨ke, up, cu, ex, cn, se, sc, hd, hs⟩ := u
  obtain ⟨kf, ey, cm, sh, sd, dn, st, hi, so⟩ := v
  obtain ⟨N, D, S, K⟩ := I
  unfold wpX_restart wpY_restart
  dsimp only
  rcases pk_ix v1 (n := 6) (by omega) with h | h | ⟨i, hi6, rfl⟩
  · exact sq_nX0 (Or.inl h) (br_t rfl (br_t h ⟨rfl, N, D, S, K⟩))
  · refine sq_nX0 (Or.inr h) (br_t rfl (br_c (fun _ => ⟨rfl, N, D, S, K⟩) (fun y => br_f ?_ ⟨rfl, N, D, S, K⟩)))
    obtain ⟨j, hj, rfl⟩ := nI_of y
    have := (nI_leI (by omega) hj).mp h
    exact nI_ge (b := j) (a := 5) (by omega) hj
  · have ci : (nI i).toNatClampNeg = i := sq_c (by omega)
    have ii : vp_in (nI i) 6 := pk_in i 6 hi6
    have l5 : nI i ≤ 5 := nI_le (b := 5) (by omega) (by omega)
    have p0 : ¬ nI i < 0 := nI_pos (by omega)
    rw [ci, sq_n1, sq_r3 (by omega)]
    have n := N.1 i hi6
    have hs3 : i % 3 < 3 := by omega
    refine sq_nX1 hi6 (br_f sq_10 ⟨ii, br_c (fun a => ⟨ii, nm_e ⟨sq_30, ?_⟩⟩) (fun a => ?_)⟩)
    · refine sq_bring hs3 (fun cv A => br_f p0 (br_t l5 ⟨ii, br_f (n.1.mp a) ?_⟩))
      refine sq_re26 hi6 (fun sv B => ⟨rfl, sq_NRre (up := upd up i 1) (cu := cu) (dn := upd dn i 0) (st := st) hs3 ?_ ?_ A B, D, S, K⟩)
      · intro j hj
        by_cases e : j = i
        · subst e; rw [pk_us, pk_us]; exact ⟨⟨fun z => absurd z sq_10, fun z => absurd rfl z⟩, (N.1 j hj).2⟩
        · rw [pk_un e, pk_un e]; exact N.1 j hj
      · intro j hj m
        unfold sq_opX
        have e1 : upd up i 1 (j % 3) = up (j % 3) := pk_un (by omega)
        have e2 : upd up i 1 (j % 3 + 3) = up (j % 3 + 3) := pk_un (by omega)
        have e3 : upd up i 1 j = up j := pk_un (by omega)
        rw [e1, e2, e3]
        exact N.2 j hj
    · have a' : dn i = 0 := Decidable.not_not.mp (fun z => a (n.1.mpr z))
      refine br_f p0 (br_t l5 ⟨ii, br_t a' ?_⟩)
      have N1 : sq_N1 up cu (upd dn i 0) st := by
        intro j hj
        by_cases e : j = i
        · subst e; rw [pk_us]; exact ⟨⟨fun z => absurd z a, fun z => absurd rfl z⟩, (N.1 j hj).2⟩
        · rw [pk_un e]; exact N.1 j hj
      refine sq_re26 hi6 (fun sv B => ⟨rfl, sq_NRre hs3 N1 (fun j hj _ => N.2 j hj) ⟨fun o j hj => ⟨fun z => ⟨z, fun y => ?_⟩, fun z => z.1⟩, fun _ j _ => rfl⟩ B, D, S, K⟩)
      have e : j % 3 = i % 3 := by omega
      exact N.2 j hj (e ▸ o) y.2 z
theorem sq_cr26 {post : Int32 → SY → Prop} {kf : Int32} {ey cm sh sd dn st hi so : Nat → Int32} {i : Nat} {z : Int32} (hi6 : i < 6) (k : post z (kf, ey, cm, sh, sd, upd dn i 1, st, hi, so)) : wY_crash_26 post (nI i) z kf ey cm sh sd dn st hi so := by
  have ci : (nI i).toNatClampNeg = i := sq_c (by omega)
  exact ⟨pk_in i 6 hi6, nm_r (e' := upd dn i 1) (by rw [ci, sq_n1]) k⟩
theorem i_vc_crash {k : Nat} {u : SX} {v : SY} (I : i_Rel k u v) (hk : k + 4 ≤ 2048) (v1 : Int32) : wpX_crash (fun r u' => wpY_crash (fun r' v' => r' = r ∧ i_Rel (k + 4) u' v') v v1) u v1 := by
  obtain ⟨ke, up, cu, ex, cn, se, sc, hd, hs⟩ := u
  obtain ⟨kf, ey, cm, sh, sd, dn, st, hi, so⟩ := v
  obtain ⟨N, D, S, K⟩ := I
  unfold wpX_crash wpY_crash
  dsimp only
  rcases pk_ix v1 (n := 6) (by omega) with h | h | ⟨i, hi6, rfl⟩
  · exact sq_nX0 (Or.inl h) (br_t rfl (br_t h ⟨rfl, N, D, S, K⟩))
  · refine sq_nX0 (Or.inr h) (br_t rfl (br_c (fun _ => ⟨rfl, N, D, S, K⟩) (fun y => br_f ?_ ⟨rfl, N, D, S, K⟩)))
    obtain ⟨j, hj, rfl⟩ := nI_of y
    have := (nI_leI (by omega) hj).mp h
    exact nI_ge (b := j) (a := 5) (by omega) hj
  · have ci : (nI i).toNatClampNeg = i := sq_c (by omega)
    have ii : vp_in (nI i) 6 := pk_in i 6 hi6
    have l5 : nI i ≤ 5 := nI_le (b := 5) (by omega) (by omega)
    have p0 : ¬ nI i < 0 := nI_pos (by omega)
    rw [ci, sq_n0]
    have n := N.1 i hi6
    refine sq_nX1 hi6 (br_f sq_10 ⟨ii, br_c (fun a => ?_) (fun a => ⟨ii, nm_e ?_⟩)⟩)
    · refine br_f p0 (br_t l5 ⟨ii, br_f (n.1.mp a) (sq_cr26 hi6 ⟨rfl, ⟨fun j hj => ?_, N.2⟩, D, S, K⟩)⟩)
      by_cases e : j = i
      · subst e; rw [pk_us]; exact ⟨⟨fun _ => sq_10, fun _ => a⟩, (N.1 j hj).2⟩
      · rw [pk_un e]; exact N.1 j hj
    · have a' : dn i = 0 := Decidable.not_not.mp (fun z => a (n.1.mpr z))
      refine br_f p0 (br_t l5 ⟨ii, br_t a' (sq_cr26 hi6 ⟨rfl, ⟨fun j hj => ?_, fun j hj o w => ?_⟩, D, S, K⟩)⟩)
      · by_cases e : j = i
        · subst e; rw [pk_us, pk_us]; exact ⟨⟨fun _ => sq_10, fun _ => rfl⟩, (N.1 j hj).2⟩
        · rw [pk_un e, pk_un e]; exact N.1 j hj
      · have g : ∀ x, ¬ upd up i 0 x = 0 → ¬ up x = 0 := by
          intro x z
          by_cases e : x = i
          · subst e; exact a
          · rw [pk_un e] at z; exact z
        refine N.2 j hj ?_ (g _ w)
        rcases o with o | o
        · exact Or.inl ⟨g _ o.1, o.2⟩
        · exact Or.inr ⟨g _ o.1, o.2⟩
theorem i_vc_open {k : Nat} {u : SX} {v : SY} (I : i_Rel k u v) (hk : k + 4 ≤ 2048) (v1 : Int32) : wpX_open (fun r => wpY_open (fun r' => r' = r ∧ i_Rel (k + 4) u v) v v1) u v1 := by
  obtain ⟨ke, up, cu, ex, cn, se, sc, hd, hs⟩ := u
  obtain ⟨kf, ey, cm, sh, sd, dn, st, hi, so⟩ := v
  obtain ⟨N, D, S, K⟩ := I
  have R : i_Rel (k + 4) (ke, up, cu, ex, cn, se, sc, hd, hs) (kf, ey, cm, sh, sd, dn, st, hi, so) := ⟨N, D, S, K⟩
  generalize i_Rel (k + 4) (ke, up, cu, ex, cn, se, sc, hd, hs) (kf, ey, cm, sh, sd, dn, st, hi, so) = Q at *
  rcases pk_ix v1 (n := 3) (by omega) with h | h | ⟨s, hs3, rfl⟩
  · unfold wpX_open wpY_open
    exact br_t h (br_t h ⟨rfl, R⟩)
  · unfold wpX_open wpY_open
    by_cases y : v1 < 0
    · exact br_t y (br_t y ⟨rfl, R⟩)
    · refine br_f y (br_t h (br_f y (br_f ?_ ⟨rfl, R⟩)))
      obtain ⟨j, hj, rfl⟩ := nI_of y
      have := (nI_leI (by omega) hj).mp h
      exact nI_ge (b := j) (a := 2) (by omega) hj
  · unfold wpX_open
    dsimp only
    refine br_f (nI_pos (by omega)) (br_f (nI_ge (b := 3) hs3 (by omega)) (sq_oX hs3 (fun o => br_f sq_10 ?_) (fun o => br_t rfl ?_)))
    · exact sq_oY1 hs3 ((sq_op N.1 hs3).mpr o) ⟨rfl, R⟩
    · exact sq_oY0 hs3 (fun z => o ((sq_op N.1 hs3).mp z)) ⟨rfl, R⟩
end
section
/-! put, delete, count -/
theorem sq_zX {post : Int32 → SX → Prop} {ke : Int32} {up cu ex cn se sc hd hs : Nat → Int32} {d : Nat} (hd16 : d < 16) (k : ∀ cv : Nat → Int32, (∀ i, cv i = if d * 6 ≤ i ∧ i < d * 6 + 6 then 0 else cn i) → post 0 (ke, up, cu, ex, cv, se, sc, hd, hs)) :
    ∀ m t (cv : Nat → Int32), t + m = 6 → (∀ i, cv i = if d * 6 ≤ i ∧ i < d * 6 + t then 0 else cn i) → wX_delete_50 post (nI d) ke (m + 1) (nI t) up cu ex cv se sc hd hs := by
  intro m
  induction m with
  | zero =>
    intro t cv ht h
    obtain rfl : t = 6 := by omega
    exact pk_le 6 6 (fun _ => k cv h) (fun z => absurd z (by omega))
  | succ m ih =>
    intro t cv ht h
    have c : (nI (d * 6 + t)).toNatClampNeg = d * 6 + t := sq_c (by omega)
    refine pk_le 6 t (fun z => absurd z (by omega)) (fun _ => ⟨pk_in (d * 6 + t) 96 (by omega) (sq_ix d t), nm_r (e' := upd cv (d * 6 + t) 0) (by rw [sq_ix, c]) (nm_r (nI_1 t) (ih (t + 1) _ (by omega) (fun i => ?_)))⟩)
    unfold upd
    rw [h i]
    by_cases e : i = d * 6 + t
    · rw [if_pos e, if_pos (by omega)]
    · rw [if_neg e]
      by_cases f : d * 6 ≤ i ∧ i < d * 6 + t
      · rw [if_pos f, if_pos (by omega)]
      · rw [if_neg f, if_neg (by omega)]
theorem sq_zY {post : Int32 → SY → Prop} {kf : Int32} {ey cm sh sd dn st hi so : Nat → Int32} {d : Nat} {x2 x3 : Int32} (hd16 : d < 16) (k : ∀ cv : Nat → Int32, (∀ i, cv i = if d * 6 ≤ i ∧ i < d * 6 + 6 then 0 else cm i) → wY_put_89 post (nI d) x2 x3 kf ey cv sh sd dn st hi so) :
    ∀ m t (cv : Nat → Int32), t + m = 6 → (∀ i, cv i = if d * 6 ≤ i ∧ i < d * 6 + t then 0 else cm i) → wY_put_63 post (nI d) x2 x3 kf (m + 1) (nI t) ey cv sh sd dn st hi so := by
  intro m
  induction m with
  | zero =>
    intro t cv ht h
    obtain rfl : t = 6 := by omega
    exact pk_le 6 6 (fun _ => k cv h) (fun z => absurd z (by omega))
  | succ m ih =>
    intro t cv ht h
    have c : (nI (d * 6 + t)).toNatClampNeg = d * 6 + t := sq_c (by omega)
    refine pk_le 6 t (fun z => absurd z (by omega)) (fun _ => ⟨pk_in (d * 6 + t) 96 (by omega) (sq_ix d t), nm_r (e' := upd cv (d * 6 + t) 0) (by rw [sq_ix, c]) (nm_r (nI_1 t) (ih (t + 1) _ (by omega) (fun i => ?_)))⟩)
    unfold upd
    rw [h i]
    by_cases e : i = d * 6 + t
    · rw [if_pos e, if_pos (by omega)]
    · rw [if_neg e]
      by_cases f : d * 6 ≤ i ∧ i < d * 6 + t
      · rw [if_pos f, if_pos (by omega)]
      · rw [if_neg f, if_neg (by omega)]
theorem sq_put89 {post : Int32 → SY → Prop} {kf : Int32} {ey cm sh sd dn st hi so : Nat → Int32} {d t : Nat} {x3 : Int32} (hd16 : d < 16) (ht : t < 6) (k : ∀ sv, sq_LY dn st sv (d % 3) → post (cm (d * 6 + t)) (kf, ey, upd cm (d * 6 + t) x3, sh, sd, dn, sv, hi, so)) : wY_put_89 post (nI d) (nI t) x3 kf ey cm sh sd dn st hi so := by
  have c : (nI (d * 6 + t)).toNatClampNeg = d * 6 + t := sq_c (by omega)
  have v : vp_in (nI (d * 6 + t)) 96 := pk_in (d * 6 + t) 96 (by omega)
  unfold wY_put_89
  rw [sq_ix, c]
  exact ⟨v, nm_e ⟨v, nm_e (sq_changed hd16 k)⟩⟩
theorem i_vc_put {k : Nat} {u : SX} {v : SY} (I : i_Rel k u v) (hk : k + 4 ≤ 2048) (v1 : Int32) (v2 : Int32) (v3 : Int32) : wpX_put (fun r u' => wpY_put (fun r' v' => r' = r ∧ i_Rel (k + 4) u' v') v v1 v2 v3) u v1 v2 v3 := by
  obtain ⟨ke, up, cu, ex, cn, se, sc, hd, hs⟩ := u
  obtain ⟨kf, ey, cm, sh, sd, dn, st, hi, so⟩ := v
  obtain ⟨N, D, S, K⟩ := I
  unfold wpX_put wpY_put
  dsimp only
  by_cases h1 : v1 < 0 ∨ nI 16 ≤ v1
  · exact sq_dX0 h1 (br_t rfl (sq_dY0 h1 (br_t rfl ⟨rfl, N, D, S, K⟩)))
  by_cases h2 : v2 < 0 ∨ nI 6 ≤ v2
  · obtain ⟨d, hd16, rfl⟩ : ∃ d, d < 16 ∧ v1 = nI d := by
      rcases pk_ix v1 (n := 16) (by omega) with h | h | h
      · exact absurd (Or.inl h) h1
      · exact absurd (Or.inr h) h1
      · exact h
    exact sq_dX1 hd16 (br_f sq_10 (sq_tX0 h2 (br_t rfl (sq_dY1 hd16 (br_f sq_10 (sq_tY0 h2 (br_t rfl ⟨rfl, N, D, S, K⟩)))))))
  obtain ⟨d, hd16, rfl⟩ : ∃ d, d < 16 ∧ v1 = nI d := by
    rcases pk_ix v1 (n := 16) (by omega) with h | h | h
    · exact absurd (Or.inl h) h1
    · exact absurd (Or.inr h) h1
    · exact h
  obtain ⟨t, ht, rfl⟩ : ∃ t, t < 6 ∧ v2 = nI t := by
    rcases pk_ix v2 (n := 6) (by omega) with h | h | h
    · exact absurd (Or.inl h) h2
    · exact absurd (Or.inr h) h2
    · exact h
  refine sq_dX1 hd16 (br_f sq_10 (sq_tX1 ht (br_f sq_10 (br_c (fun h3 => ?_) (fun h3 => br_c (fun h4 => ⟨sq_30, ?_⟩) (fun h4 => ?_))))))
  · exact sq_dY1 hd16 (br_f sq_10 (sq_tY1 ht (br_f sq_10 (br_t h3 ⟨rfl, N, D, S, K⟩))))
  · obtain ⟨c, hc, rfl⟩ : ∃ c, c ≤ 9 ∧ v3 = nI c := nI_of2 (M := 9) (by decide) h3 h4
    have cd : (nI d).toNatClampNeg = d := sq_c (by omega)
    have vd : vp_in (nI d) 16 := pk_in d 16 hd16
    have ci : (nI (d * 6 + t)).toNatClampNeg = d * 6 + t := sq_c (by omega)
    have vi : vp_in (nI (d * 6 + t)) 96 := pk_in (d * 6 + t) 96 (by omega)
    have hs3 : d % 3 < 3 := by omega
    rw [sq_r3 (by omega), sq_ix, cd, sq_n1]
    have tail : ∀ (cv ew cw sv : Nat → Int32), sq_LX up cu cv (d % 3) → sq_LY dn st sv (d % 3) → (∀ j, j < 16 → ew j = upd ex d 1 j) → (∀ e, e < 16 → ∀ t, t < 6 → ¬ upd ex d 1 e = 0 → cw (e * 6 + t) = cn (e * 6 + t)) →
        cw (d * 6 + t) = cn (d * 6 + t) ∧ i_Rel (k + 4) (ke, up, cv, upd ex d 1, upd cn (d * 6 + t) (nI c), se, sc, hd, hs) (kf, ew, upd cw (d * 6 + t) (nI c), sh, sd, dn, sv, hi, so) := by
      intro cv ew cw sv A B he hc'
      refine ⟨hc' d hd16 t ht (by rw [pk_us]; exact sq_10), sq_NRch N A B, ⟨fun j hj => ⟨he j hj, ?_⟩, fun e he' t' ht' => ?_⟩, S, K⟩
      · by_cases e : j = d
        · subst e; rw [pk_us]; exact Or.inr rfl
        · rw [pk_un e]; exact (D.1 j hj).2
      · have q := D.2 e he' t' ht'
        by_cases z : e * 6 + t' = d * 6 + t
        · have ed : e = d := by omega
          rw [z, pk_us, pk_us, ed, pk_us]
          exact ⟨⟨c, hc, rfl⟩, fun y => absurd y sq_10, fun _ => rfl⟩
        · rw [pk_un z, pk_un z]
          refine ⟨q.1, fun y => q.2.1 ?_, fun y => hc' e he' t' ht' y⟩
          by_cases ed : e = d
          · subst ed; rw [pk_us] at y; exact absurd y sq_10
          · rw [pk_un ed] at y; exact y
    refine nm_e (sq_oX hs3 (fun o => br_f sq_10 ?_) (fun o => br_t rfl ?_))
    · refine sq_leave hs3 (fun cv A => nm_e ⟨vi, nm_e ⟨vd, nm_e ⟨vi, nm_e ?_⟩⟩⟩)
      rw [ci]
      refine sq_dY1 hd16 (br_f sq_10 (sq_tY1 ht (br_f sq_10 (br_f h3 (br_t h4 ⟨sq_30, sq_oY1 hs3 ((sq_op N.1 hs3).mpr o) (br_f sq_10 ⟨vd, br_c (fun a => ⟨vd, nm_e ⟨7, ?_⟩⟩) (fun a => ?_)⟩)⟩)))))
      · refine sq_zY hd16 (fun cw hw => ?_) 6 0 cm rfl (fun i => by rw [if_neg (by omega)])
        refine sq_put89 hd16 ht (fun sv B => tail cv _ cw sv A B (fun j hj => ?_) (fun e he t' ht' q => ?_))
        · unfold upd
          rw [(D.1 j hj).1]
        · rw [hw]
          have a' : ex d = 0 := by rw [← (D.1 d hd16).1]; exact a
          by_cases ed : e = d
          · subst ed
            rw [if_pos (by omega), (D.2 e he t' ht').2.1 a']
          · rw [if_neg (by omega)]
            rw [pk_un ed] at q
            exact (D.2 e he t' ht').2.2 q
      · have a' : ¬ ex d = 0 := by rw [← (D.1 d hd16).1]; exact a
        refine sq_put89 hd16 ht (fun sv B => tail cv _ cm sv A B (fun j hj => ?_) (fun e he t' ht' q => ?_))
        · rw [(D.1 j hj).1]
          by_cases e : j = d
          · subst e; rw [pk_us]; exact (D.1 j hj).2.resolve_left a'
          · rw [pk_un e]
        · refine (D.2 e he t' ht').2.2 ?_
          by_cases ed : e = d
          · subst ed; exact a'
          · rw [pk_un ed] at q; exact q
    · exact sq_dY1 hd16 (br_f sq_10 (sq_tY1 ht (br_f sq_10 (br_f h3 (br_t h4 ⟨sq_30, sq_oY0 hs3 (fun z => o ((sq_op N.1 hs3).mp z)) (br_t rfl ⟨rfl, N, D, S, K⟩)⟩)))))
  · exact sq_dY1 hd16 (br_f sq_10 (sq_tY1 ht (br_f sq_10 (br_f h3 (br_f h4 ⟨rfl, N, D, S, K⟩)))))
theorem i_vc_delete {k : Nat} {u : SX} {v : SY} (I : i_Rel k u v) (hk : k + 4 ≤ 2048) (v1 : Int32) : wpX_delete (fun r u' => wpY_delete (fun r' v' => r' = r ∧ i_Rel (k + 4) u' v') v v1) u v1 := by
  obtain ⟨ke, up, cu, ex, cn, se, sc, hd, hs⟩ := u
  obtain ⟨kf, ey, cm, sh, sd, dn, st, hi, so⟩ := v
  obtain ⟨N, D, S, K⟩ := I
  unfold wpX_delete wpY_delete
  dsimp only
  by_cases h1 : v1 < 0 ∨ nI 16 ≤ v1
  · exact sq_dX0 h1 (br_t rfl (sq_dY0 h1 (br_t rfl ⟨rfl, N, D, S, K⟩)))
  obtain ⟨d, hd16, rfl⟩ : ∃ d, d < 16 ∧ v1 = nI d := by
    rcases pk_ix v1 (n := 16) (by omega) with h | h | h
    · exact absurd (Or.inl h) h1
    · exact absurd (Or.inr h) h1
    · exact h
  have cd : (nI d).toNatClampNeg = d := sq_c (by omega)
  have vd : vp_in (nI d) 16 := pk_in d 16 hd16
  have hs3 : d % 3 < 3 := by omega
  have eD := (D.1 d hd16).1
  rw [sq_r3 (by omega), cd, sq_n0]
  refine sq_dX1 hd16 (br_f sq_10 ⟨sq_30, nm_e (sq_oX hs3 (fun o => br_f sq_10 ⟨vd, br_c (fun a => ?_) (fun a => ?_)⟩) (fun o => br_t rfl ?_))⟩)
  · exact sq_dY1 hd16 (br_f sq_10 ⟨sq_30, sq_oY1 hs3 ((sq_op N.1 hs3).mpr o) (br_f sq_10 ⟨vd, br_t (by rw [eD]; exact a) ⟨rfl, N, D, S, K⟩⟩)⟩)
  · refine sq_leave hs3 (fun cv A => ⟨vd, nm_e ⟨7, ?_⟩⟩)
    refine sq_zX hd16 (fun cw hw => ?_) 6 0 cn rfl (fun i => by rw [if_neg (by omega)])
    refine sq_dY1 hd16 (br_f sq_10 ⟨sq_30, sq_oY1 hs3 ((sq_op N.1 hs3).mpr o) (br_f sq_10 ⟨vd, br_f (by rw [eD]; exact a) ⟨vd, nm_e (sq_changed hd16 (fun sv B => ⟨rfl, sq_NRch N A B, ⟨fun j hj => ?_, fun e he t ht => ?_⟩, S, K⟩))⟩⟩)⟩)
    · unfold upd
      dsimp only
      by_cases e : j = d
      · rw [if_pos e, if_pos e]; exact ⟨rfl, Or.inl rfl⟩
      · rw [if_neg e, if_neg e]; exact D.1 j hj
    · rw [hw]
      by_cases ed : e = d
      · subst ed
        rw [if_pos (by omega), pk_us]
        exact ⟨⟨0, by omega, nI_0.symm⟩, fun _ => rfl, fun z => absurd rfl z⟩
      · rw [if_neg (by omega), pk_un ed]
        exact D.2 e he t ht
  · exact sq_dY1 hd16 (br_f sq_10 ⟨sq_30, sq_oY0 hs3 (fun z => o ((sq_op N.1 hs3).mp z)) (br_t rfl ⟨rfl, N, D, S, K⟩)⟩)
theorem i_vc_count {k : Nat} {u : SX} {v : SY} (I : i_Rel k u v) (hk : k + 4 ≤ 2048) (v1 : Int32) (v2 : Int32) : wpX_count (fun r => wpY_count (fun r' => r' = r ∧ i_Rel (k + 4) u v) v v1 v2) u v1 v2 := by
  obtain ⟨ke, up, cu, ex, cn, se, sc, hd, hs⟩ := u
  obtain ⟨kf, ey, cm, sh, sd, dn, st, hi, so⟩ := v
  obtain ⟨N, D, S, K⟩ := I
  have R : i_Rel (k + 4) (ke, up, cu, ex, cn, se, sc, hd, hs) (kf, ey, cm, sh, sd, dn, st, hi, so) := ⟨N, D, S, K⟩
  generalize i_Rel (k + 4) (ke, up, cu, ex, cn, se, sc, hd, hs) (kf, ey, cm, sh, sd, dn, st, hi, so) = Q at *
  unfold wpX_count wpY_count
  dsimp only
  by_cases h1 : v1 < 0 ∨ nI 16 ≤ v1
  · exact sq_dX0 h1 (br_t rfl (sq_dY0 h1 (br_t rfl ⟨rfl, R⟩)))
  obtain ⟨d, hd16, rfl⟩ : ∃ d, d < 16 ∧ v1 = nI d := by
    rcases pk_ix v1 (n := 16) (by omega) with h | h | h
    · exact absurd (Or.inl h) h1
    · exact absurd (Or.inr h) h1
    · exact h
  by_cases h2 : v2 < 0 ∨ nI 6 ≤ v2
  · exact sq_dX1 hd16 (br_f sq_10 (sq_tX0 h2 (br_t rfl (sq_dY1 hd16 (br_f sq_10 (sq_tY0 h2 (br_t rfl ⟨rfl, R⟩)))))))
  obtain ⟨t, ht, rfl⟩ : ∃ t, t < 6 ∧ v2 = nI t := by
    rcases pk_ix v2 (n := 6) (by omega) with h | h | h
    · exact absurd (Or.inl h) h2
    · exact absurd (Or.inr h) h2
    · exact h
  have cd : (nI d).toNatClampNeg = d := sq_c (by omega)
  have vd : vp_in (nI d) 16 := pk_in d 16 hd16
  have ci : (nI (d * 6 + t)).toNatClampNeg = d * 6 + t := sq_c (by omega)
  have vi : vp_in (nI (d * 6 + t)) 96 := pk_in (d * 6 + t) 96 (by omega)
  have hs3 : d % 3 < 3 := by omega
  have eD := (D.1 d hd16).1
  rw [sq_r3 (by omega), sq_ix, cd, ci]
  refine sq_dX1 hd16 (br_f sq_10 (sq_tX1 ht (br_f sq_10 ⟨sq_30, sq_oX hs3 (fun o => br_f sq_10 ⟨vd, br_c (fun a => ?_) (fun a => ⟨vi, ?_⟩)⟩) (fun o => br_t rfl ?_)⟩)))
  · exact sq_dY1 hd16 (br_f sq_10 (sq_tY1 ht (br_f sq_10 ⟨sq_30, sq_oY1 hs3 ((sq_op N.1 hs3).mpr o) (br_f sq_10 ⟨vd, br_t (by rw [eD]; exact a) ⟨rfl, R⟩⟩)⟩)))
  · exact sq_dY1 hd16 (br_f sq_10 (sq_tY1 ht (br_f sq_10 ⟨sq_30, sq_oY1 hs3 ((sq_op N.1 hs3).mpr o) (br_f sq_10 ⟨vd, br_f (by rw [eD]; exact a) ⟨vi, (D.2 d hd16 t ht).2.2 a, R⟩⟩)⟩)))
  · exact sq_dY1 hd16 (br_f sq_10 (sq_tY1 ht (br_f sq_10 ⟨sq_30, sq_oY0 hs3 (fun z => o ((sq_op N.1 hs3).mp z)) (br_t rfl ⟨rfl, R⟩)⟩)))
end
section
/-! refresh -/
def sq_nP (P : Nat → Bool) : Nat → Nat
  | 0 => 0
  | n + 1 => sq_nP P n + (if P n = true then 1 else 0)
theorem sq_nP1 {P : Nat → Bool} {n : Nat} (h : P n = true) : sq_nP P (n + 1) = sq_nP P n + 1 := by
  show sq_nP P n + _ = _
  rw [if_pos h]
theorem sq_nP0 {P : Nat → Bool} {n : Nat} (h : ¬ P n = true) : sq_nP P (n + 1) = sq_nP P n := by
  show sq_nP P n + _ = _
  rw [if_neg h]; rfl
theorem sq_nPle (P : Nat → Bool) : ∀ n, sq_nP P n ≤ n := by
  intro n
  induction n with
  | zero => exact Nat.le_refl 0
  | succ n ih =>
    by_cases h : P n = true
    · rw [sq_nP1 h]; omega
    · rw [sq_nP0 h]; omega
noncomputable def sq_O (up cu : Nat → Int32) (s : Nat) : Bool := @decide (sq_opX up cu s) (Classical.propDecidable _)
theorem sq_Oi {up cu : Nat → Int32} {s : Nat} : sq_O up cu s = true ↔ sq_opX up cu s := by
  unfold sq_O
  exact @decide_eq_true_iff _ (Classical.propDecidable _)
theorem sq_ms22 {post : SX → Prop} {J : Int32 → (Nat → Int32) → (Nat → Int32) → (Nat → Int32) → (Nat → Int32) → (Nat → Int32) → (Nat → Int32) → (Nat → Int32) → (Nat → Int32) → Prop} {ke : Int32} {up cu ex cn se sc hd hs : Nat → Int32} {d : Nat} (hd16 : d < 16)
    (k : ∀ cv : Nat → Int32, (∀ i, cv i = if d * 6 ≤ i ∧ i < d * 6 + 6 then cn i else sc i) → J (nI (d + 3)) up cu ex cn se cv hd hs) :
    ∀ m t (cv : Nat → Int32), t + m = 6 → (∀ i, cv i = if d * 6 ≤ i ∧ i < d * 6 + t then cn i else sc i) → wX_makeSearchable_22 post J (nI d) ke (m + 1) (nI t) up cu ex cn se cv hd hs := by
  intro m
  induction m with
  | zero =>
    intro t cv ht h
    obtain rfl : t = 6 := by omega
    exact pk_le 6 6 (fun _ => nm_r (sq_3 d) (k cv h)) (fun z => absurd z (by omega))
  | succ m ih =>
    intro t cv ht h
    have c : (nI (d * 6 + t)).toNatClampNeg = d * 6 + t := sq_c (by omega)
    have v : vp_in (nI (d * 6 + t)) 96 := pk_in (d * 6 + t) 96 (by omega)
    refine pk_le 6 t (fun z => absurd z (by omega)) (fun _ => nm_r (sq_ix d t) ⟨v, v, nm_r (e' := upd cv (d * 6 + t) (cn (d * 6 + t))) (by rw [c]) (nm_r (nI_1 t) (ih (t + 1) _ (by omega) (fun i => ?_)))⟩)
    unfold upd
    rw [h i]
    by_cases e : i = d * 6 + t
    · rw [if_pos e, if_pos (by omega), e]
    · rw [if_neg e]
      by_cases f : d * 6 ≤ i ∧ i < d * 6 + t
      · rw [if_pos f, if_pos (by omega)]
      · rw [if_neg f, if_neg (by omega)]
theorem sq_ms2 {post : SX → Prop} {ke : Int32} {up cu ex cn se sc hd hs : Nat → Int32} {s : Nat} (hs3 : s < 3) (hE : ∀ d, d < 16 → ex d = 0 ∨ ex d = 1)
    (k : ∀ ev cv : Nat → Int32, (∀ e, e < 16 → ev e = if e % 3 = s then ex e else se e) → (∀ i, i < 96 → cv i = if i / 6 % 3 = s then cn i else sc i) → post (ke, up, cu, ex, cn, ev, cv, hd, hs)) :
    ∀ m d (ev cv : Nat → Int32), 16 ≤ d + 3 * m → d < 19 → d % 3 = s → (∀ e, e < 16 → ev e = if e % 3 = s ∧ e < d then ex e else se e) → (∀ i, i < 96 → cv i = if i / 6 % 3 = s ∧ i / 6 < d then cn i else sc i) → wX_makeSearchable_2 post ke (m + 1) (nI d) up cu ex cn ev cv hd hs := by
  have fin : ∀ d (ev cv : Nat → Int32), 16 ≤ d → (∀ e, e < 16 → ev e = if e % 3 = s ∧ e < d then ex e else se e) → (∀ i, i < 96 → cv i = if i / 6 % 3 = s ∧ i / 6 < d then cn i else sc i) → post (ke, up, cu, ex, cn, ev, cv, hd, hs) := by
    intro d ev cv hd he hc
    refine k ev cv (fun e h => ?_) (fun i h => ?_)
    · rw [he e h]
      by_cases f : e % 3 = s
      · rw [if_pos f, if_pos ⟨f, by omega⟩]
      · rw [if_neg f, if_neg (fun z => f z.1)]
    · rw [hc i h]
      by_cases f : i / 6 % 3 = s
      · rw [if_pos f, if_pos ⟨f, by omega⟩]
      · rw [if_neg f, if_neg (fun z => f z.1)]
  intro m
  induction m with
  | zero =>
    intro d ev cv hm hd hd3 he hc
    exact pk_le 16 d (fun _ => fin d ev cv (by omega) he hc) (fun z => absurd z (by omega))
  | succ m ih =>
    intro d ev cv hm hd hd3 he hc
    have c : (nI d).toNatClampNeg = d := sq_c (by omega)
    refine pk_le 16 d (fun _ => fin d ev cv (by omega) he hc) (fun h16 => ?_)
    have v : vp_in (nI d) 16 := pk_in d 16 h16
    refine ⟨v, v, nm_r (e' := upd ev d (ex d)) (by rw [c, sq_nb (hE d h16)]) ⟨7, sq_ms22 h16 (fun cw hw => ?_) 6 0 cv rfl (fun i => by rw [if_neg (by omega)])⟩⟩
    refine ih (d + 3) _ _ (by omega) (by omega) (by omega) (fun e h => ?_) (fun i h => ?_)
    · unfold upd
      by_cases f : e = d
      · rw [if_pos f, if_pos (by omega), f]
      · rw [if_neg f, he e h]
        by_cases g : e % 3 = s ∧ e < d
        · rw [if_pos g, if_pos (by omega)]
        · rw [if_neg g, if_neg (by omega)]
    · rw [hw i]
      by_cases f : d * 6 ≤ i ∧ i < d * 6 + 6
      · rw [if_pos f, if_pos (by omega)]
      · rw [if_neg f, hc i h]
        by_cases g : i / 6 % 3 = s ∧ i / 6 < d
        · rw [if_pos g, if_pos (by omega)]
        · rw [if_neg g, if_neg (by omega)]
theorem sq_ms {post : SX → Prop} {ke : Int32} {up cu ex cn se sc hd hs : Nat → Int32} {s : Nat} (hs3 : s < 3) (hE : ∀ d, d < 16 → ex d = 0 ∨ ex d = 1)
    (k : ∀ ev cv : Nat → Int32, (∀ e, e < 16 → ev e = if e % 3 = s then ex e else se e) → (∀ i, i < 96 → cv i = if i / 6 % 3 = s then cn i else sc i) → post (ke, up, cu, ex, cn, ev, cv, hd, hs)) : wpX_makeSearchable post (ke, up, cu, ex, cn, se, sc, hd, hs) (nI s) :=
  ⟨7, sq_ms2 hs3 hE k 6 s se sc (by omega) (by omega) (by omega) (fun e _ => by rw [if_neg (by omega)]) (fun i _ => by rw [if_neg (by omega)])⟩
theorem sq_rfX {post : Int32 → SX → Prop} {ke : Int32} {up cu ex cn se sc hd hs : Nat → Int32} (hE : ∀ d, d < 16 → ex d = 0 ∨ ex d = 1)
    (k : ∀ ev cv : Nat → Int32, (∀ e, e < 16 → ev e = if sq_O up cu (e % 3) = true then ex e else se e) → (∀ i, i < 96 → cv i = if sq_O up cu (i / 6 % 3) = true then cn i else sc i) → post (nI (sq_nP (sq_O up cu) 3)) (ke, up, cu, ex, cn, ev, cv, hd, hs)) :
    ∀ m s (ev cv : Nat → Int32), s + m = 3 → (∀ e, e < 16 → ev e = if sq_O up cu (e % 3) = true ∧ e % 3 < s then ex e else se e) → (∀ i, i < 96 → cv i = if sq_O up cu (i / 6 % 3) = true ∧ i / 6 % 3 < s then cn i else sc i) → wX_refresh_4 post (m + 1) (nI (sq_nP (sq_O up cu) s)) (nI s) ke up cu ex cn ev cv hd hs := by
  intro m
  induction m with
  | zero =>
    intro s ev cv hm he hc
    obtain rfl : s = 3 := by omega
    refine pk_le 3 3 (fun _ => k ev cv (fun e h => ?_) (fun i h => ?_)) (fun z => absurd z (by omega))
    · rw [he e h]
      by_cases f : sq_O up cu (e % 3) = true
      · rw [if_pos f, if_pos ⟨f, by omega⟩]
      · rw [if_neg f, if_neg (fun z => f z.1)]
    · rw [hc i h]
      by_cases f : sq_O up cu (i / 6 % 3) = true
      · rw [if_pos f, if_pos ⟨f, by omega⟩]
      · rw [if_neg f, if_neg (fun z => f z.1)]
  | succ m ih =>
    intro s ev cv hm he hc
    refine pk_le 3 s (fun z => absurd z (by omega)) (fun _ => sq_oX (by omega) (fun o => br_f sq_10 ?_) (fun o => br_t rfl (nm_r (nI_1 s) ?_)))
    · have o' := sq_Oi.mpr o
      refine sq_ms (by omega) hE (fun ew cw h1 h2 => nm_r (by rw [sq_nP1 o', ← nI_1]) (nm_r (nI_1 s) (ih (s + 1) _ _ (by omega) (fun e h => ?_) (fun i h => ?_))))
      · rw [h1 e h]
        by_cases f : e % 3 = s
        · rw [if_pos f, if_pos ⟨by rw [f]; exact o', by omega⟩]
        · rw [if_neg f, he e h]
          by_cases g : sq_O up cu (e % 3) = true ∧ e % 3 < s
          · rw [if_pos g, if_pos ⟨g.1, by omega⟩]
          · rw [if_neg g, if_neg (fun z => g ⟨z.1, by omega⟩)]
      · rw [h2 i h]
        by_cases f : i / 6 % 3 = s
        · rw [if_pos f, if_pos ⟨by rw [f]; exact o', by omega⟩]
        · rw [if_neg f, hc i h]
          by_cases g : sq_O up cu (i / 6 % 3) = true ∧ i / 6 % 3 < s
          · rw [if_pos g, if_pos ⟨g.1, by omega⟩]
          · rw [if_neg g, if_neg (fun z => g ⟨z.1, by omega⟩)]
    · have o' : ¬ sq_O up cu s = true := fun z => o (sq_Oi.mp z)
      rw [← sq_nP0 o']
      refine ih (s + 1) _ _ (by omega) (fun e h => ?_) (fun i h => ?_)
      · rw [he e h]
        by_cases g : sq_O up cu (e % 3) = true ∧ e % 3 < s
        · rw [if_pos g, if_pos ⟨g.1, by omega⟩]
        · have : ¬ (sq_O up cu (e % 3) = true ∧ e % 3 < s + 1) := by
            intro z
            by_cases f : e % 3 = s
            · rw [f] at z; exact o' z.1
            · exact g ⟨z.1, by omega⟩
          rw [if_neg g, if_neg this]
      · rw [hc i h]
        by_cases g : sq_O up cu (i / 6 % 3) = true ∧ i / 6 % 3 < s
        · rw [if_pos g, if_pos ⟨g.1, by omega⟩]
        · have : ¬ (sq_O up cu (i / 6 % 3) = true ∧ i / 6 % 3 < s + 1) := by
            intro z
            by_cases f : i / 6 % 3 = s
            · rw [f] at z; exact o' z.1
            · exact g ⟨z.1, by omega⟩
          rw [if_neg g, if_neg this]
theorem sq_rfY {post : Int32 → SY → Prop} {kf : Int32} {ey cm sh sd dn st hi so : Nat → Int32} {O : Nat → Bool} {x1 : Int32} (hO : ∀ s, s < 3 → (O s = true ↔ sq_opY dn st s)) (hE : ∀ d, d < 16 → ey d = 0 ∨ ey d = 1)
    (k : ∀ ev cv : Nat → Int32, (∀ e, e < 16 → ev e = if O (e % 3) = true then ey e else sh e) → (∀ i, i < 96 → cv i = if O (i / 6 % 3) = true then cm i else sd i) → post x1 (kf, ey, cm, ev, cv, dn, st, hi, so)) :
    ∀ m i (ev cv : Nat → Int32), i + m = 96 → (∀ e, e < 16 → ev e = if O (e % 3) = true ∧ e * 6 < i then ey e else sh e) → (∀ j, j < 96 → cv j = if O (j / 6 % 3) = true ∧ j < i then cm j else sd j) → wY_refresh_28 post x1 kf (m + 1) (nI i) ey cm ev cv dn st hi so := by
  intro m
  induction m with
  | zero =>
    intro i ev cv hm he hc
    obtain rfl : i = 96 := by omega
    refine pk_le 96 96 (fun _ => k ev cv (fun e h => ?_) (fun j h => ?_)) (fun z => absurd z (by omega))
    · rw [he e h]
      by_cases f : O (e % 3) = true
      · rw [if_pos f, if_pos ⟨f, by omega⟩]
      · rw [if_neg f, if_neg (fun z => f z.1)]
    · rw [hc j h]
      by_cases f : O (j / 6 % 3) = true
      · rw [if_pos f, if_pos ⟨f, by omega⟩]
      · rw [if_neg f, if_neg (fun z => f z.1)]
  | succ m ih =>
    intro i ev cv hm he hc
    have hi : i < 96 := by omega
    have d16 : i / 6 < 16 := by omega
    have s3 : i / 6 % 3 < 3 := by omega
    refine pk_le 96 i (fun z => absurd z (by omega)) (fun _ => ⟨sq_60, nm_r (sq_d6 (by omega)) ⟨sq_30, ?_⟩⟩)
    rw [sq_r3 (by omega)]
    have c : (nI (i / 6)).toNatClampNeg = i / 6 := sq_c (by omega)
    have ci : (nI i).toNatClampNeg = i := sq_c (by omega)
    have v : vp_in (nI (i / 6)) 16 := pk_in (i / 6) 16 d16
    have vi : vp_in (nI i) 96 := pk_in i 96 hi
    refine sq_oY s3 (fun o => br_f sq_10 ?_) (fun o => br_t rfl (nm_r (nI_1 i) ?_))
    · have o' := (hO _ s3).mpr o
      refine ⟨v, v, nm_r (e' := upd ev (i / 6) (ey (i / 6))) (by rw [c, sq_nb (hE _ d16)]) ⟨vi, vi, nm_r (e' := upd cv i (cm i)) (by rw [ci]) (nm_r (nI_1 i) (ih (i + 1) _ _ (by omega) (fun e h => ?_) (fun j h => ?_)))⟩⟩
      · unfold upd
        by_cases f : e = i / 6
        · rw [if_pos f, if_pos ⟨by rw [f]; exact o', by omega⟩, f]
        · rw [if_neg f, he e h]
          by_cases g : O (e % 3) = true ∧ e * 6 < i
          · rw [if_pos g, if_pos ⟨g.1, by omega⟩]
          · rw [if_neg g, if_neg (fun z => g ⟨z.1, by omega⟩)]
      · unfold upd
        by_cases f : j = i
        · rw [if_pos f, if_pos ⟨by rw [f]; exact o', by omega⟩, f]
        · rw [if_neg f, hc j h]
          by_cases g : O (j / 6 % 3) = true ∧ j < i
          · rw [if_pos g, if_pos ⟨g.1, by omega⟩]
          · rw [if_neg g, if_neg (fun z => g ⟨z.1, by omega⟩)]
    · have o' : ¬ O (i / 6 % 3) = true := fun z => o ((hO _ s3).mp z)
      refine ih (i + 1) _ _ (by omega) (fun e h => ?_) (fun j h => ?_)
      · rw [he e h]
        by_cases g : O (e % 3) = true ∧ e * 6 < i
        · rw [if_pos g, if_pos ⟨g.1, by omega⟩]
        · have : ¬ (O (e % 3) = true ∧ e * 6 < i + 1) := by
            intro z
            by_cases f : e = i / 6
            · rw [f] at z; exact o' z.1
            · exact g ⟨z.1, by omega⟩
          rw [if_neg g, if_neg this]
      · rw [hc j h]
        by_cases g : O (j / 6 % 3) = true ∧ j < i
        · rw [if_pos g, if_pos ⟨g.1, by omega⟩]
        · have : ¬ (O (j / 6 % 3) = true ∧ j < i + 1) := by
            intro z
            by_cases f : j = i
            · rw [f] at z; exact o' z.1
            · exact g ⟨z.1, by omega⟩
          rw [if_neg g, if_neg this]
theorem sq_rfY4 {post : Int32 → SY → Prop} {kf : Int32} {ey cm sh sd dn st hi so : Nat → Int32} {O : Nat → Bool} (hO : ∀ s, s < 3 → (O s = true ↔ sq_opY dn st s))
    (k : ∃ n, wY_refresh_28 post (nI (sq_nP O 3)) kf n 0 ey cm sh sd dn st hi so) : ∀ m s, s + m = 3 → wY_refresh_4 post kf ey cm sh sd dn st hi so (m + 1) (nI (sq_nP O s)) (nI s) := by
  intro m
  induction m with
  | zero =>
    intro s hm
    obtain rfl : s = 3 := by omega
    exact pk_le 3 3 (fun _ => k) (fun z => absurd z (by omega))
  | succ m ih =>
    intro s hm
    refine pk_le 3 s (fun z => absurd z (by omega)) (fun _ => sq_oY (by omega) (fun o => br_f sq_10 ?_) (fun o => br_t rfl (nm_r (nI_1 s) ?_)))
    · have o' := (hO s (by omega)).mpr o
      exact nm_r (by rw [sq_nP1 o', ← nI_1]) (nm_r (nI_1 s) (ih (s + 1) (by omega)))
    · have o' : ¬ O s = true := fun z => o ((hO s (by omega)).mp z)
      rw [← sq_nP0 o']
      exact ih (s + 1) (by omega)
theorem i_vc_refresh {k : Nat} {u : SX} {v : SY} (I : i_Rel k u v) (hk : k + 4 ≤ 2048) : wpX_refresh (fun r u' => wpY_refresh (fun r' v' => r' = r ∧ i_Rel (k + 4) u' v') v) u := by
  obtain ⟨ke, up, cu, ex, cn, se, sc, hd, hs⟩ := u
  obtain ⟨kf, ey, cm, sh, sd, dn, st, hi, so⟩ := v
  obtain ⟨N, D, S, K⟩ := I
  have hO : ∀ s, s < 3 → (sq_O up cu s = true ↔ sq_opY dn st s) := fun s h => sq_Oi.trans (sq_op N.1 h).symm
  refine ⟨4, sq_rfX (fun d h => (D.1 d h).2) (fun ev cv h1 h2 => ?_) 3 0 se sc rfl (fun e _ => by rw [if_neg (by omega)]) (fun i _ => by rw [if_neg (by omega)])⟩
  refine ⟨4, sq_rfY4 hO ⟨97, ?_⟩ 3 0 rfl⟩
  refine sq_rfY hO (fun d h => by rw [(D.1 d h).1]; exact (D.1 d h).2) (fun ew cw h3 h4 => ?_) 96 0 sh sd rfl (fun e _ => by rw [if_neg (by omega)]) (fun i _ => by rw [if_neg (by omega)])
  refine ⟨rfl, N, D, ⟨fun d h => ?_, fun d h t ht => ?_⟩, K⟩
  · show ew d = ev d
    rw [h1 d h, h3 d h, (D.1 d h).1, S.1 d h]
  · have a := h2 (d * 6 + t) (by omega)
    have b := h4 (d * 6 + t) (by omega)
    have e : (d * 6 + t) / 6 = d := by omega
    rw [e] at a b
    have c := h1 d h
    show (∃ c, c ≤ 9 ∧ cv (d * 6 + t) = nI c) ∧ (¬ ev d = 0 → cw (d * 6 + t) = cv (d * 6 + t))
    rw [a, b, c]
    by_cases o : sq_O up cu (d % 3) = true
    · rw [if_pos o, if_pos o, if_pos o]
      exact ⟨(D.2 d h t ht).1, (D.2 d h t ht).2.2⟩
    · rw [if_neg o, if_neg o, if_neg o]
      exact S.2 d h t ht
end
section
/-! in play, weight, score of a document: each side against the same pure values -/
def sq_nH (P : Nat → Bool) (c : Nat → Nat) (t : Nat) : Nat → Nat
  | 0 => 0
  | n + 1 => sq_nH P c t n + (if P n = true ∧ 0 < c (n * 6 + t) then 1 else 0)
theorem sq_nH1 {P : Nat → Bool} {c : Nat → Nat} {t n : Nat} (h : P n = true) (g : 0 < c (n * 6 + t)) : sq_nH P c t (n + 1) = sq_nH P c t n + 1 := by
  show sq_nH P c t n + _ = _
  rw [if_pos ⟨h, g⟩]
theorem sq_nH0 {P : Nat → Bool} {c : Nat → Nat} {t n : Nat} (h : ¬ (P n = true ∧ 0 < c (n * 6 + t))) : sq_nH P c t (n + 1) = sq_nH P c t n := by
  show sq_nH P c t n + _ = _
  rw [if_neg h]; rfl
theorem sq_nHle (P : Nat → Bool) (c : Nat → Nat) (t : Nat) : ∀ n, sq_nH P c t n ≤ n := by
  intro n
  induction n with
  | zero => exact Nat.le_refl 0
  | succ n ih =>
    by_cases h : P n = true ∧ 0 < c (n * 6 + t)
    · rw [sq_nH1 h.1 h.2]; omega
    · rw [sq_nH0 h]; omega
def sq_wt (P : Nat → Bool) (c : Nat → Nat) (t : Nat) : Nat := if sq_nH P c t 16 = 0 then 0 else 16 * sq_nP P 16 / sq_nH P c t 16
theorem sq_wtle (P : Nat → Bool) (c : Nat → Nat) (t : Nat) : sq_wt P c t ≤ 256 := by
  unfold sq_wt
  have a := sq_nPle P 16
  by_cases h : sq_nH P c t 16 = 0
  · rw [if_pos h]; omega
  · rw [if_neg h]
    exact Nat.le_trans (Nat.div_le_self _ _) (by omega)
def sq_bit (T : Int32) (t : Nat) : Bool := decide (((T >>> (nI t &&& 31)) &&& 1) = 1)
theorem sq_b01 (x : Int32) : x &&& 1 = 0 ∨ x &&& 1 = 1 := by
  obtain ⟨j, hj, e⟩ := pk_andE x (m := 1) 1 (by decide)
  have : j = 0 ∨ j = 1 := by omega
  rcases this with rfl | rfl
  · exact Or.inl e
  · exact Or.inr e
theorem sq_bit0 {T : Int32} {t : Nat} (h : ((T >>> (nI t &&& 31)) &&& 1) = 0) : ¬ sq_bit T t = true := by
  unfold sq_bit
  rw [h]; decide
theorem sq_bit1 {T : Int32} {t : Nat} (h : ¬ ((T >>> (nI t &&& 31)) &&& 1) = 0) : sq_bit T t = true := by
  unfold sq_bit
  rw [(sq_b01 _).resolve_left h]; decide
def sq_sm (P : Nat → Bool) (c : Nat → Nat) (T : Int32) (d : Nat) : Nat → Nat
  | 0 => 0
  | t + 1 => sq_sm P c T d t + (if sq_bit T t = true then c (d * 6 + t) * sq_wt P c t else 0)
theorem sq_sm1 {P : Nat → Bool} {c : Nat → Nat} {T : Int32} {d t : Nat} (h : sq_bit T t = true) : sq_sm P c T d (t + 1) = sq_sm P c T d t + c (d * 6 + t) * sq_wt P c t := by
  show sq_sm P c T d t + _ = _
  rw [if_pos h]
theorem sq_sm0 {P : Nat → Bool} {c : Nat → Nat} {T : Int32} {d t : Nat} (h : ¬ sq_bit T t = true) : sq_sm P c T d (t + 1) = sq_sm P c T d t := by
  show sq_sm P c T d t + _ = _
  rw [if_neg h]; rfl
def sq_B (c : Nat → Nat) : Prop := ∀ d, d < 16 → ∀ t, t < 6 → c (d * 6 + t) ≤ 9
theorem sq_smle {P : Nat → Bool} {c : Nat → Nat} {T : Int32} {d : Nat} (B : sq_B c) (hd16 : d < 16) : ∀ t, t ≤ 6 → sq_sm P c T d t ≤ t * 2304 := by
  intro t
  induction t with
  | zero => intro _; exact Nat.le_refl 0
  | succ t ih =>
    intro h
    have := ih (by omega)
    by_cases g : sq_bit T t = true
    · rw [sq_sm1 g]
      have : c (d * 6 + t) * sq_wt P c t ≤ 9 * 256 := Nat.mul_le_mul (B d hd16 t (by omega)) (sq_wtle P c t)
      omega
    · rw [sq_sm0 g]; omega
def sq_sv (P : Nat → Bool) (c : Nat → Nat) (T : Int32) (d : Nat) : Nat := if P d = true then sq_sm P c T d 6 else 0
theorem sq_svle {P : Nat → Bool} {c : Nat → Nat} {T : Int32} {d : Nat} (B : sq_B c) (hd16 : d < 16) : sq_sv P c T d < 20000 := by
  unfold sq_sv
  by_cases h : P d = true
  · rw [if_pos h]
    have := sq_smle (P := P) (T := T) B hd16 6 (by omega)
    omega
  · rw [if_neg h]; omega
def sq_CX (P : Nat → Bool) (c : Nat → Nat) (up cu se sc : Nat → Int32) : Prop := (∀ d, d < 16 → (P d = true ↔ ¬ se d = 0 ∧ sq_opX up cu (d % 3))) ∧ ∀ d, d < 16 → P d = true → ∀ t, t < 6 → sc (d * 6 + t) = nI (c (d * 6 + t))
def sq_CY (P : Nat → Bool) (c : Nat → Nat) (sh sd dn st : Nat → Int32) : Prop := (∀ d, d < 16 → (P d = true ↔ ¬ sh d = 0 ∧ sq_opY dn st (d % 3))) ∧ ∀ d, d < 16 → P d = true → ∀ t, t < 6 → sd (d * 6 + t) = nI (c (d * 6 + t))
theorem sq_ctx {up cu se sc sh sd dn st : Nat → Int32} (N : sq_NR up cu dn st) (S : sq_SR se sc sh sd) : ∃ P c, sq_CX P c up cu se sc ∧ sq_CY P c sh sd dn st ∧ sq_B c := by
  have E : ∀ d, d < 16 → ∀ t, t < 6 → sc (d * 6 + t) = nI (sc (d * 6 + t)).toNatClampNeg ∧ (sc (d * 6 + t)).toNatClampNeg ≤ 9 := by
    intro d h t ht
    obtain ⟨c, hc, e⟩ := (S.2 d h t ht).1
    rw [e, nI_clamp (by omega)]
    exact ⟨rfl, hc⟩
  have P : ∀ d, (decide (¬ se d = 0) && sq_O up cu (d % 3)) = true ↔ ¬ se d = 0 ∧ sq_opX up cu (d % 3) := by
    intro d
    rw [Bool.and_eq_true, decide_eq_true_iff, sq_Oi]
  refine ⟨fun d => decide (¬ se d = 0) && sq_O up cu (d % 3), fun i => (sc i).toNatClampNeg, ⟨fun d _ => P d, fun d h _ t ht => (E d h t ht).1⟩, ⟨fun d h => ?_, fun d h p t ht => ?_⟩, fun d h t ht => (E d h t ht).2⟩
  · rw [P d, S.1 d h, sq_op N.1 (by omega)]
  · rw [(S.2 d h t ht).2 ((P d).mp p).1]
    exact (E d h t ht).1
theorem sq_pX {post : Int32 → Prop} {ke : Int32} {up cu ex cn se sc hd hs : Nat → Int32} {P : Nat → Bool} {c : Nat → Nat} (C : sq_CX P c up cu se sc) {d : Nat} (h16 : d < 16) (k1 : P d = true → post 1) (k0 : ¬ P d = true → post 0) : wpX_isInPlay post (ke, up, cu, ex, cn, se, sc, hd, hs) (nI d) := by
  have cd : (nI d).toNatClampNeg = d := sq_c (by omega)
  have vd : vp_in (nI d) 16 := pk_in d 16 h16
  unfold wpX_isInPlay
  dsimp only
  rw [cd, sq_r3 (by omega)]
  exact ⟨vd, br_c (fun a => k0 (fun z => ((C.1 d h16).mp z).1 a)) (fun a => ⟨sq_30, sq_oX (by omega) (fun o => br_f sq_10 (k1 ((C.1 d h16).mpr ⟨a, o⟩))) (fun o => br_t rfl (k0 (fun z => o ((C.1 d h16).mp z).2)))⟩)⟩
theorem sq_pY {post : Int32 → Prop} {kf : Int32} {ey cm sh sd dn st hi so : Nat → Int32} {P : Nat → Bool} {c : Nat → Nat} (C : sq_CY P c sh sd dn st) {d : Nat} (h16 : d < 16) (k1 : P d = true → post 1) (k0 : ¬ P d = true → post 0) : wpY_plays post (kf, ey, cm, sh, sd, dn, st, hi, so) (nI d) := by
  have cd : (nI d).toNatClampNeg = d := sq_c (by omega)
  have vd : vp_in (nI d) 16 := pk_in d 16 h16
  unfold wpY_plays
  dsimp only
  rw [cd, sq_r3 (by omega)]
  exact ⟨vd, br_c (fun a => k0 (fun z => ((C.1 d h16).mp z).1 a)) (fun a => ⟨sq_30, sq_oY (by omega) (fun o => br_f sq_10 (k1 ((C.1 d h16).mpr ⟨a, o⟩))) (fun o => br_t rfl (k0 (fun z => o ((C.1 d h16).mp z).2)))⟩)⟩
theorem sq_ipX {post : Int32 → Prop} {ke : Int32} {up cu ex cn se sc hd hs : Nat → Int32} {P : Nat → Bool} {c : Nat → Nat} (C : sq_CX P c up cu se sc) (k : post (nI (sq_nP P 16))) : wpX_inPlay post (ke, up, cu, ex, cn, se, sc, hd, hs) := by
  have key : ∀ m j, j + m = 16 → wX_inPlay_4 post ke up cu ex cn se sc hd hs (m + 1) (nI (sq_nP P j)) (nI j) := by
    intro m
    induction m with
    | zero =>
      intro j hj
      obtain rfl : j = 16 := by omega
      exact pk_le 16 16 (fun _ => k) (fun z => absurd z (by omega))
    | succ m ih =>
      intro j hj
      refine pk_le 16 j (fun z => absurd z (by omega)) (fun _ => sq_pX C (by omega) (fun p => br_f sq_10 ?_) (fun p => br_t rfl (nm_r (nI_1 j) ?_)))
      · exact nm_r (by rw [sq_nP1 p, ← nI_1]) (nm_r (nI_1 j) (ih (j + 1) (by omega)))
      · rw [← sq_nP0 p]; exact ih (j + 1) (by omega)
  exact ⟨17, key 16 0 rfl⟩
theorem sq_ipY {post : Int32 → Prop} {kf : Int32} {ey cm sh sd dn st hi so : Nat → Int32} {P : Nat → Bool} {c : Nat → Nat} (C : sq_CY P c sh sd dn st) (k : post (nI (sq_nP P 16))) : wpY_inPlay post (kf, ey, cm, sh, sd, dn, st, hi, so) := by
  have key : ∀ m j, j + m = 16 → wY_inPlay_4 post kf ey cm sh sd dn st hi so (m + 1) (nI (sq_nP P j)) (nI j) := by
    intro m
    induction m with
    | zero =>
      intro j hj
      obtain rfl : j = 16 := by omega
      exact pk_le 16 16 (fun _ => k) (fun z => absurd z (by omega))
    | succ m ih =>
      intro j hj
      refine pk_le 16 j (fun z => absurd z (by omega)) (fun _ => sq_pY C (by omega) (fun p => br_f sq_10 ?_) (fun p => br_t rfl (nm_r (nI_1 j) ?_)))
      · exact nm_r (by rw [sq_nP1 p, ← nI_1]) (nm_r (nI_1 j) (ih (j + 1) (by omega)))
      · rw [← sq_nP0 p]; exact ih (j + 1) (by omega)
  exact ⟨17, key 16 0 rfl⟩
theorem sq_dv {p h : Nat} (hp : p ≤ 16) (h0 : ¬ h = 0) (hh : h ≤ 16) : 16 * nI p / nI h = nI (16 * p / h) := by
  rw [show (16 : Int32) = nI 16 from rfl, pk_mul, pk_div (by omega) (by omega) (by omega)]
theorem sq_wX {post : Int32 → Prop} {ke : Int32} {up cu ex cn se sc hd hs : Nat → Int32} {P : Nat → Bool} {c : Nat → Nat} (C : sq_CX P c up cu se sc) (B : sq_B c) {t : Nat} (ht : t < 6) (k : post (nI (sq_wt P c t))) : wpX_weightOf post (ke, up, cu, ex, cn, se, sc, hd, hs) (nI t) := by
  have key : ∀ m j, j + m = 16 → wX_weightOf_7 post (nI t) ke up cu ex cn se sc hd hs (m + 1) (nI (sq_nP P j)) (nI (sq_nH P c t j)) (nI j) := by
    intro m
    induction m with
    | zero =>
      intro j hj
      obtain rfl : j = 16 := by omega
      have a := sq_nPle P 16
      have b := sq_nHle P c t 16
      unfold sq_wt at k
      refine pk_le 16 16 (fun _ => pk_eq (sq_nH P c t 16) 0 (fun e => ?_) (fun e => ?_)) (fun z => absurd z (by omega))
      · rw [if_pos e] at k; exact k
      · rw [if_neg e] at k
        rw [sq_dv a e b]
        exact ⟨nI_ne0 (by omega) (by omega), k⟩
    | succ m ih =>
      intro j hj
      have ci : (nI (j * 6 + t)).toNatClampNeg = j * 6 + t := sq_c (by omega)
      have bj := B j (by omega) t ht
      have bh := sq_nHle P c t j
      refine pk_le 16 j (fun z => absurd z (by omega)) (fun _ => sq_pX C (by omega) (fun p => br_f sq_10 (nm_r (e' := nI (sq_nP P (j + 1))) (by rw [sq_nP1 p, ← nI_1]) ?_)) (fun p => br_t rfl (nm_r (nI_1 j) ?_)))
      · rw [sq_ix, ci]
        refine ⟨pk_in (j * 6 + t) 96 (by omega), pk_le (c (j * 6 + t)) 0 (fun e => nm_r (nI_1 j) ?_) (fun e => nm_r (by rw [sq_nH1 p e, ← nI_1]) (nm_r (nI_1 j) (ih (j + 1) (by omega)))) (C.2 j (by omega) p t ht)⟩
        rw [← sq_nH0 (P := P) (c := c) (t := t) (n := j) (fun z => by omega)]
        exact ih (j + 1) (by omega)
      · rw [← sq_nP0 p, ← sq_nH0 (P := P) (c := c) (t := t) (n := j) (fun z => p z.1)]
        exact ih (j + 1) (by omega)
  exact ⟨17, key 16 0 rfl⟩
theorem sq_wY {post : Int32 → Prop} {kf : Int32} {ey cm sh sd dn st hi so : Nat → Int32} {P : Nat → Bool} {c : Nat → Nat} (C : sq_CY P c sh sd dn st) (B : sq_B c) {t : Nat} (ht : t < 6) (k : post (nI (sq_wt P c t))) : wpY_weight post (kf, ey, cm, sh, sd, dn, st, hi, so) (nI t) := by
  have key : ∀ m j, j + m = 16 → wY_weight_15 post (nI t) kf ey cm sh sd dn st hi so (m + 1) (nI (sq_nH P c t j)) (nI j) := by
    intro m
    induction m with
    | zero =>
      intro j hj
      obtain rfl : j = 16 := by omega
      have a := sq_nPle P 16
      have b := sq_nHle P c t 16
      unfold sq_wt at k
      refine pk_le 16 16 (fun _ => pk_eq (sq_nH P c t 16) 0 (fun e => ?_) (fun e => sq_ipY C ?_)) (fun z => absurd z (by omega))
      · rw [if_pos e] at k; exact k
      · rw [if_neg e] at k
        rw [sq_dv a e b]
        exact ⟨nI_ne0 (by omega) (by omega), k⟩
    | succ m ih =>
      intro j hj
      have ci : (nI (j * 6 + t)).toNatClampNeg = j * 6 + t := sq_c (by omega)
      have bj := B j (by omega) t ht
      have bh := sq_nHle P c t j
      refine pk_le 16 j (fun z => absurd z (by omega)) (fun _ => sq_pY C (by omega) (fun p => br_f sq_10 ?_) (fun p => br_t rfl (nm_r (nI_1 j) ?_)))
      · rw [sq_ix, ci]
        refine ⟨pk_in (j * 6 + t) 96 (by omega), pk_le (c (j * 6 + t)) 0 (fun e => nm_r (nI_1 j) ?_) (fun e => nm_r (by rw [sq_nH1 p e, ← nI_1]) (nm_r (nI_1 j) (ih (j + 1) (by omega)))) (C.2 j (by omega) p t ht)⟩
        rw [← sq_nH0 (P := P) (c := c) (t := t) (n := j) (fun z => by omega)]
        exact ih (j + 1) (by omega)
      · rw [← sq_nH0 (P := P) (c := c) (t := t) (n := j) (fun z => p z.1)]
        exact ih (j + 1) (by omega)
  unfold wpY_weight
  exact sq_tY1 ht (br_f sq_10 ⟨17, key 16 0 rfl⟩)
theorem sq_sX {post : Int32 → Prop} {ke : Int32} {up cu ex cn se sc hd hs : Nat → Int32} {P : Nat → Bool} {c : Nat → Nat} (C : sq_CX P c up cu se sc) (B : sq_B c) {d : Nat} {T : Int32} (h16 : d < 16) (p : P d = true) (k : post (nI (sq_sm P c T d 6))) : wpX_scoreOf post (ke, up, cu, ex, cn, se, sc, hd, hs) (nI d) T := by
  have key : ∀ m t, t + m = 6 → wX_scoreOf_5 post (nI d) T ke up cu ex cn se sc hd hs (m + 1) (nI (sq_sm P c T d t)) (nI t) := by
    intro m
    induction m with
    | zero =>
      intro t ht
      obtain rfl : t = 6 := by omega
      exact pk_le 6 6 (fun _ => k) (fun z => absurd z (by omega))
    | succ m ih =>
      intro t ht
      have ci : (nI (d * 6 + t)).toNatClampNeg = d * 6 + t := sq_c (by omega)
      refine pk_le 6 t (fun z => absurd z (by omega)) (fun _ => br_c (fun b => ⟨pk_in (d * 6 + t) 96 (by omega) (sq_ix d t), sq_wX C B (by omega) ?_⟩) (fun b => nm_r (nI_1 t) ?_))
      · have b' : sq_bit T t = true := decide_eq_true b
        refine nm_r ?_ (nm_r (nI_1 t) (ih (t + 1) (by omega)))
        rw [sq_ix, ci, C.2 d h16 p t (by omega), sq_sm1 b', pk_mul, nI_add]
      · have b' : ¬ sq_bit T t = true := fun z => b (of_decide_eq_true z)
        rw [← sq_sm0 (P := P) (c := c) (d := d) b']
        exact ih (t + 1) (by omega)
  exact ⟨7, key 6 0 rfl⟩
theorem sq_sY {post : Int32 → Prop} {kf : Int32} {ey cm sh sd dn st hi so : Nat → Int32} {P : Nat → Bool} {c : Nat → Nat} (C : sq_CY P c sh sd dn st) (B : sq_B c) {d : Nat} {T : Int32} (h16 : d < 16) (p : P d = true) (k : post (nI (sq_sm P c T d 6))) : wpY_scoreOf post (kf, ey, cm, sh, sd, dn, st, hi, so) (nI d) T := by
  have key : ∀ m t, t + m = 6 → wY_scoreOf_5 post (nI d) T kf ey cm sh sd dn st hi so (m + 1) (nI (sq_sm P c T d t)) (nI t) := by
    intro m
    induction m with
    | zero =>
      intro t ht
      obtain rfl : t = 6 := by omega
      exact pk_le 6 6 (fun _ => k) (fun z => absurd z (by omega))
    | succ m ih =>
      intro t ht
      have ci : (nI (d * 6 + t)).toNatClampNeg = d * 6 + t := sq_c (by omega)
      refine pk_le 6 t (fun z => absurd z (by omega)) (fun _ => br_c (fun b => nm_r (nI_1 t) ?_) (fun b => ⟨pk_in (d * 6 + t) 96 (by omega) (sq_ix d t), sq_wY C B (by omega) ?_⟩))
      · rw [← sq_sm0 (P := P) (c := c) (d := d) (sq_bit0 b)]
        exact ih (t + 1) (by omega)
      · refine nm_r ?_ (nm_r (nI_1 t) (ih (t + 1) (by omega)))
        rw [sq_ix, ci, C.2 d h16 p t (by omega), sq_sm1 (sq_bit1 b), pk_mul, nI_add]
  exact ⟨7, key 6 0 rfl⟩
theorem i_vc_inPlay {k : Nat} {u : SX} {v : SY} (I : i_Rel k u v) (hk : k + 4 ≤ 2048) : wpX_inPlay (fun r => wpY_inPlay (fun r' => r' = r ∧ i_Rel (k + 4) u v) v) u := by
  obtain ⟨ke, up, cu, ex, cn, se, sc, hd, hs⟩ := u
  obtain ⟨kf, ey, cm, sh, sd, dn, st, hi, so⟩ := v
  obtain ⟨N, D, S, K⟩ := I
  obtain ⟨P, c, CX, CY, B⟩ := sq_ctx N S
  exact sq_ipX CX (sq_ipY CY ⟨rfl, N, D, S, K⟩)
theorem i_vc_weight {k : Nat} {u : SX} {v : SY} (I : i_Rel k u v) (hk : k + 4 ≤ 2048) (v1 : Int32) : wpX_weight (fun r => wpY_weight (fun r' => r' = r ∧ i_Rel (k + 4) u v) v v1) u v1 := by
  obtain ⟨ke, up, cu, ex, cn, se, sc, hd, hs⟩ := u
  obtain ⟨kf, ey, cm, sh, sd, dn, st, hi, so⟩ := v
  obtain ⟨N, D, S, K⟩ := I
  obtain ⟨P, c, CX, CY, B⟩ := sq_ctx N S
  have R : i_Rel (k + 4) (ke, up, cu, ex, cn, se, sc, hd, hs) (kf, ey, cm, sh, sd, dn, st, hi, so) := ⟨N, D, S, K⟩
  generalize i_Rel (k + 4) (ke, up, cu, ex, cn, se, sc, hd, hs) (kf, ey, cm, sh, sd, dn, st, hi, so) = Q at *
  unfold wpX_weight
  dsimp only
  by_cases h2 : v1 < 0 ∨ nI 6 ≤ v1
  · unfold wpY_weight
    exact sq_tX0 h2 (br_t rfl (sq_tY0 h2 (br_t rfl ⟨rfl, R⟩)))
  obtain ⟨t, ht, rfl⟩ : ∃ t, t < 6 ∧ v1 = nI t := by
    rcases pk_ix v1 (n := 6) (by omega) with h | h | h
    · exact absurd (Or.inl h) h2
    · exact absurd (Or.inr h) h2
    · exact h
  exact sq_tX1 ht (br_f sq_10 (sq_wX CX B ht (sq_wY CY B ht ⟨rfl, R⟩)))
end
section
/-! the component's search: an insertion into a sorted row -/
def sq_SO (S : Nat → Nat) (m N : Nat) (h : Nat → Nat) : Prop := N ≤ m ∧ (∀ i, i < N → h i < m ∧ 0 < S (h i)) ∧
  (∀ i j, i < j → j < N → S (h j) < S (h i) ∨ (S (h j) = S (h i) ∧ h i < h j)) ∧ (∀ d, d < m → 0 < S d → ∃ i, i < N ∧ h i = d)
def sq_AR (S : Nat → Nat) (N : Nat) (h : Nat → Nat) (hd hs : Nat → Int32) : Prop := ∀ i, i < N → hd i = nI (h i) ∧ hs i = nI (S (h i))
def sq_ins (h : Nat → Nat) (q d : Nat) : Nat → Nat := fun i => if i < q then h i else if i = q then d else h (i - 1)
theorem sq_in1 {h : Nat → Nat} {q d i : Nat} (z : i < q) : sq_ins h q d i = h i := if_pos z
theorem sq_in2 {h : Nat → Nat} {q d : Nat} : sq_ins h q d q = d := by
  unfold sq_ins
  rw [if_neg (by omega), if_pos rfl]
theorem sq_in3 {h : Nat → Nat} {q d i : Nat} (z : q < i) : sq_ins h q d i = h (i - 1) := by
  unfold sq_ins
  rw [if_neg (by omega), if_neg (by omega)]
theorem sq_SO0 (S : Nat → Nat) (h : Nat → Nat) : sq_SO S 0 0 h :=
  ⟨Nat.le_refl 0, fun i z => absurd z (by omega), fun i j _ z => absurd z (by omega), fun d z => absurd z (by omega)⟩
theorem sq_SOs {S h : Nat → Nat} {m N : Nat} (H : sq_SO S m N h) (z : S m = 0) : sq_SO S (m + 1) N h := by
  refine ⟨by have := H.1; omega, fun i hi => ⟨by have := (H.2.1 i hi).1; omega, (H.2.1 i hi).2⟩, H.2.2.1, fun d hd p => ?_⟩
  by_cases e : d = m
  · subst e; omega
  · exact H.2.2.2 d (by omega) p
theorem sq_SOi {S h : Nat → Nat} {m N q : Nat} (H : sq_SO S m N h) (p : 0 < S m) (hq : q ≤ N) (h1 : 0 < q → S m ≤ S (h (q - 1))) (h2 : ∀ i, q ≤ i → i < N → S (h i) < S m) : sq_SO S (m + 1) (N + 1) (sq_ins h q m) := by
  obtain ⟨a1, a2, a3, a4⟩ := H
  refine ⟨by omega, fun i hi => ?_, fun i j hij hj => ?_, fun d hd pd => ?_⟩
  · rcases Nat.lt_trichotomy i q with z | z | z
    · rw [sq_in1 z]; have := a2 i (by omega); exact ⟨by omega, this.2⟩
    · subst z; rw [sq_in2]; exact ⟨by omega, p⟩
    · rw [sq_in3 z]; have := a2 (i - 1) (by omega); exact ⟨by omega, this.2⟩
  · rcases Nat.lt_trichotomy j q with z | z | z
    · rw [sq_in1 z, sq_in1 (show i < q by omega)]; exact a3 i j hij (by omega)
    · subst z
      rw [sq_in2, sq_in1 hij]
      have g := h1 (by omega)
      have b := (a2 i (by omega)).1
      by_cases e : i = j - 1
      · subst e; omega
      · have := a3 i (j - 1) (by omega) (by omega); omega
    · rw [sq_in3 z]
      rcases Nat.lt_trichotomy i q with y | y | y
      · rw [sq_in1 y]; exact a3 i (j - 1) (by omega) (by omega)
      · subst y; rw [sq_in2]; exact Or.inl (h2 (j - 1) (by omega) (by omega))
      · rw [sq_in3 y]; exact a3 (i - 1) (j - 1) (by omega) (by omega)
  · by_cases e : d = m
    · exact ⟨q, by omega, by rw [sq_in2, e]⟩
    · obtain ⟨i, hi, e'⟩ := a4 d (by omega) pd
      by_cases z : i < q
      · exact ⟨i, by omega, by rw [sq_in1 z, e']⟩
      · refine ⟨i + 1, by omega, ?_⟩
        rw [sq_in3 (by omega), Nat.add_sub_cancel, e']
theorem sq_h55 {post : SX → Prop} {up cu ex cn se sc : Nat → Int32} {S h : Nat → Nat} {N q d : Nat} (gd gs : Nat → Int32) (hq : q ≤ N) (hN : N ≤ d) (h16 : d < 16)
    (A1 : ∀ i, i < q → gd i = nI (h i) ∧ gs i = nI (S (h i))) (A2 : ∀ i, q < i → i ≤ N → gd i = nI (h (i - 1)) ∧ gs i = nI (S (h (i - 1))))
    (k : ∀ fd fs, sq_AR S (N + 1) (sq_ins h q d) fd fs → post (nI (N + 1), up, cu, ex, cn, se, sc, fd, fs)) : wX_insertHit_55 post (nI d) (nI (S d)) (nI q) (nI N) up cu ex cn se sc gd gs := by
  have c : (nI q).toNatClampNeg = q := sq_c (by omega)
  have v : vp_in (nI q) 16 := pk_in q 16 (by omega)
  refine ⟨v, nm_r (e' := upd gd q (nI d)) (by rw [c]) ⟨v, nm_r (e' := upd gs q (nI (S d))) (by rw [c]) (nm_r (nI_1 N) (k _ _ (fun i hi => ?_)))⟩⟩
  rcases Nat.lt_trichotomy i q with z | z | z
  · rw [sq_in1 z, pk_un (by omega), pk_un (by omega)]; exact A1 i z
  · subst z; rw [sq_in2, pk_us, pk_us]; exact ⟨rfl, rfl⟩
  · rw [sq_in3 z, pk_un (by omega), pk_un (by omega)]; exact A2 i z (by omega)
theorem sq_h5 {post : SX → Prop} {up cu ex cn se sc : Nat → Int32} {S h : Nat → Nat} {N d : Nat} (hN : N ≤ d) (h16 : d < 16) (hb : S d < 20000) (hB : ∀ i, i < N → S (h i) < 20000)
    (k : ∀ q fd fs, q ≤ N → (0 < q → S d ≤ S (h (q - 1))) → (∀ i, q ≤ i → i < N → S (h i) < S d) → sq_AR S (N + 1) (sq_ins h q d) fd fs → post (nI (N + 1), up, cu, ex, cn, se, sc, fd, fs)) :
    ∀ q (gd gs : Nat → Int32), q ≤ N → (∀ i, i < q → gd i = nI (h i) ∧ gs i = nI (S (h i))) → (∀ i, q < i → i ≤ N → gd i = nI (h (i - 1)) ∧ gs i = nI (S (h (i - 1)))) → (∀ i, q ≤ i → i < N → S (h i) < S d) →
      wX_insertHit_5 post (nI d) (nI (S d)) (nI N) (q + 1) (nI q) up cu ex cn se sc gd gs := by
  intro q
  induction q with
  | zero =>
    intro gd gs hq A1 A2 A3
    exact pk_le 0 0 (fun _ => sq_h55 gd gs hq hN h16 A1 A2 (fun fd fs F => k 0 fd fs hq (fun z => absurd z (by omega)) A3 F)) (fun z => absurd z (by omega))
  | succ q ih =>
    intro gd gs hq A1 A2 A3
    have c : (nI q).toNatClampNeg = q := sq_c (by omega)
    have c1 : (nI (q + 1)).toNatClampNeg = q + 1 := sq_c (by omega)
    have v : vp_in (nI (q + 1) - 1) 16 := pk_in q 16 (by omega) (nI_pred q)
    have v1 : vp_in (nI (q + 1)) 16 := pk_in (q + 1) 16 (by omega)
    have hb' := hB q (by omega)
    refine pk_le (q + 1) 0 (fun z => absurd z (by omega)) (fun _ => ⟨v, pk_le (S d) (S (h q)) (fun z => ?_) (fun z => ?_) rfl (by rw [nI_pred, c]; exact (A1 q (by omega)).2)⟩)
    · exact sq_h55 gd gs hq hN h16 A1 A2 (fun fd fs F => k (q + 1) fd fs hq (fun _ => z) A3 F)
    · refine ⟨v, v1, nm_r (e' := upd gd (q + 1) (gd q)) (by rw [c1, nI_pred, c]) ⟨v, v1, nm_r (e' := upd gs (q + 1) (gs q)) (by rw [c1, nI_pred, c]) (nm_r (pk_m1 q) (ih _ _ (by omega) (fun i hi => ?_) (fun i hi hi' => ?_) (fun i hi hi' => ?_)))⟩⟩
      · rw [pk_un (by omega), pk_un (by omega)]; exact A1 i (by omega)
      · by_cases e : i = q + 1
        · subst e; rw [pk_us, pk_us]; exact A1 q (by omega)
        · rw [pk_un e, pk_un e]; exact A2 i (by omega) hi'
      · by_cases e : i = q
        · subst e; exact z
        · exact A3 i (by omega) hi'
theorem sq_hI {post : SX → Prop} {up cu ex cn se sc hd hs : Nat → Int32} {S h : Nat → Nat} {N d : Nat} (h16 : d < 16) (p : 0 < S d) (hB : ∀ e, e < 16 → S e < 20000) (H : sq_SO S d N h) (A : sq_AR S N h hd hs)
    (k : ∀ h' fd fs, sq_SO S (d + 1) (N + 1) h' → sq_AR S (N + 1) h' fd fs → post (nI (N + 1), up, cu, ex, cn, se, sc, fd, fs)) : wpX_insertHit post (nI N, up, cu, ex, cn, se, sc, hd, hs) (nI d) (nI (S d)) := by
  refine ⟨N + 1, ?_⟩
  have hN := H.1
  refine sq_h5 hN h16 (hB d h16) (fun i hi => hB _ (by have := (H.2.1 i hi).1; omega)) (fun q fd fs hq h1 h2 F => k _ fd fs (sq_SOi H p hq h1 h2) F) N hd hs (Nat.le_refl N) A (fun i z y => absurd z (by omega)) (fun i z y => absurd z (by omega))
theorem sq_seX {post : Int32 → SX → Prop} {up cu ex cn se sc : Nat → Int32} {P : Nat → Bool} {c : Nat → Nat} (C : sq_CX P c up cu se sc) (B : sq_B c) {T k : Int32}
    (fin : ∀ N h gd gs, sq_SO (sq_sv P c T) 16 N h → sq_AR (sq_sv P c T) N h gd gs → (0 ≤ k → wX_search_56 post k (nI N) up cu ex cn se sc gd gs) ∧ (¬ 0 ≤ k → wX_search_56 post 0 (nI N) up cu ex cn se sc gd gs)) :
    ∀ m j N h gd gs, j + m = 16 → sq_SO (sq_sv P c T) j N h → sq_AR (sq_sv P c T) N h gd gs → wX_search_7 post T k (m + 1) (nI j) (nI N) up cu ex cn se sc gd gs := by
  intro m
  induction m with
  | zero =>
    intro j N h gd gs hj H A
    obtain rfl : j = 16 := by omega
    exact pk_le 16 16 (fun _ => fin N h gd gs H A) (fun z => absurd z (by omega))
  | succ m ih =>
    intro j N h gd gs hj H A
    have b := sq_svle (P := P) (T := T) B (d := j) (by omega)
    refine pk_le 16 j (fun z => absurd z (by omega)) (fun h16 => sq_pX C h16 (fun p => br_f sq_10 (sq_sX C B h16 p ?_)) (fun p => br_t rfl (nm_r (nI_1 j) (ih (j + 1) N h gd gs (by omega) (sq_SOs H (if_neg p)) A))))
    have e : sq_sm P c T j 6 = sq_sv P c T j := (if_pos p).symm
    rw [e]
    refine pk_le (sq_sv P c T j) 0 (fun z => nm_r (nI_1 j) (ih (j + 1) N h gd gs (by omega) (sq_SOs H (by omega)) A)) (fun z => ?_)
    exact sq_hI h16 z (fun e he => sq_svle B he) H A (fun h' fd fs H' A' => nm_r (nI_1 j) (ih (j + 1) (N + 1) h' fd fs (by omega) H' A'))
theorem sq_56 {post : Int32 → SX → Prop} {up cu ex cn se sc hd hs : Nat → Int32} {N z : Nat} (hN : N ≤ 16) (hz : z < 2 ^ 31) (k : post (nI (min N z)) (nI (min N z), up, cu, ex, cn, se, sc, hd, hs)) : wX_search_56 post (nI z) (nI N) up cu ex cn se sc hd hs := by
  refine pk_le N z (fun y => ?_) (fun y => ?_)
  · rw [Nat.min_eq_left y] at k; exact k
  · rw [Nat.min_eq_right (by omega)] at k; exact k
end
section
/-! the reference's search: the best one after the last one, again and again -/
theorem sq_af36 {post : Int32 → Prop} {J : Int32 → Int32 → Int32 → Prop} {x1 x2 x3 x4 x5 x6 z : Int32} {kf : Int32} {ey cm sh sd dn st hi so : Nat → Int32}
    (k1 : (z < x2 ∨ (z = x2 ∧ ¬ x6 ≤ x3)) → ¬ z ≤ x5 → J x6 z (x6 + 1)) (k0 : (¬ (z < x2 ∨ (z = x2 ∧ ¬ x6 ≤ x3)) ∨ z ≤ x5) → J x4 x5 (x6 + 1)) : wY_after_36 post J x1 x2 x3 x4 x5 x6 z kf ey cm sh sd dn st hi so := by
  unfold wY_after_36 wY_after_56 wY_after_60 wY_after_61
  refine br_c (fun a => br_c (fun b => nm_e (k0 (Or.inr b))) (fun b => br_f sq_10 (nm_e (k1 (Or.inl a) b)))) (fun a => br_c (fun b => br_c (fun c => br_c (fun e => nm_e (k0 (Or.inr e))) (fun e => br_t rfl (nm_e (k0 (Or.inl (fun w => w.elim a (fun y => y.2 c))))))) (fun c => br_c (fun e => nm_e (k0 (Or.inr e))) (fun e => br_f sq_10 (nm_e (k1 (Or.inr ⟨b, c⟩) e))))) (fun b => br_c (fun e => nm_e (k0 (Or.inr e))) (fun e => br_t rfl (nm_e (k0 (Or.inl (fun w => w.elim a (fun y => b y.1))))))))
def sq_Lt (S : Nat → Nat) (x2 x3 : Int32) (d : Nat) : Prop := nI (S d) < x2 ∨ (nI (S d) = x2 ∧ ¬ nI d ≤ x3)
def sq_Bst (S : Nat → Nat) (x2 x3 : Int32) (j : Nat) (x4 x5 : Int32) : Prop := (x4 = -1 ∧ x5 = 0 ∧ ∀ e, e < j → 0 < S e → ¬ sq_Lt S x2 x3 e) ∨
  ∃ b, b < j ∧ x4 = nI b ∧ x5 = nI (S b) ∧ 0 < S b ∧ sq_Lt S x2 x3 b ∧ ∀ e, e < j → 0 < S e → sq_Lt S x2 x3 e → S e < S b ∨ (S e = S b ∧ b ≤ e)
theorem sq_Bs1 {S : Nat → Nat} {x2 x3 x4 x5 : Int32} {j : Nat} (h16 : j < 16) (hB : ∀ e, e < 16 → S e < 20000) (H : sq_Bst S x2 x3 j x4 x5) (l : sq_Lt S x2 x3 j) (g : ¬ nI (S j) ≤ x5) : sq_Bst S x2 x3 (j + 1) (nI j) (nI (S j)) := by
  have b0 := hB j h16
  rcases H with ⟨_, rfl, h⟩ | ⟨b, hb, _, rfl, p, _, h⟩
  · have g' : ¬ S j ≤ 0 := fun z => g (nI_le (b := 0) z (by omega))
    refine Or.inr ⟨j, by omega, rfl, rfl, by omega, l, fun e he pe le => ?_⟩
    by_cases z : e = j
    · subst z; exact Or.inr ⟨rfl, Nat.le_refl e⟩
    · exact absurd le (h e (by omega) pe)
  · have b1 := hB b (by omega)
    have g' : ¬ S j ≤ S b := fun z => g (nI_le z (by omega))
    refine Or.inr ⟨j, by omega, rfl, rfl, by omega, l, fun e he pe le => ?_⟩
    by_cases z : e = j
    · subst z; exact Or.inr ⟨rfl, Nat.le_refl e⟩
    · have := h e (by omega) pe le; omega
theorem sq_Bs0 {S : Nat → Nat} {x2 x3 x4 x5 : Int32} {j : Nat} (h16 : j < 16) (hB : ∀ e, e < 16 → S e < 20000) (H : sq_Bst S x2 x3 j x4 x5) (g : ¬ sq_Lt S x2 x3 j ∨ nI (S j) ≤ x5) : sq_Bst S x2 x3 (j + 1) x4 x5 := by
  have b0 := hB j h16
  rcases H with ⟨e4, rfl, h⟩ | ⟨b, hb, e4, rfl, p, l, h⟩
  · refine Or.inl ⟨e4, rfl, fun e he pe le => ?_⟩
    by_cases z : e = j
    · subst z
      rcases g with g | g
      · exact g le
      · exact nI_nle pe (by omega) g
    · exact h e (by omega) pe le
  · have b1 := hB b (by omega)
    refine Or.inr ⟨b, by omega, e4, rfl, p, l, fun e he pe le => ?_⟩
    by_cases z : e = j
    · subst z
      rcases g with g | g
      · exact absurd le g
      · have := (nI_leI (by omega) (by omega)).mp g; omega
    · exact h e (by omega) pe le
theorem sq_af {post : Int32 → Prop} {kf : Int32} {ey cm sh sd dn st hi so : Nat → Int32} {P : Nat → Bool} {c : Nat → Nat} (C : sq_CY P c sh sd dn st) (B : sq_B c) {T x2 x3 : Int32} (k : ∀ x4 x5, sq_Bst (sq_sv P c T) x2 x3 16 x4 x5 → post x4) : wpY_after post (kf, ey, cm, sh, sd, dn, st, hi, so) T x2 x3 := by
  have hB : ∀ e, e < 16 → sq_sv P c T e < 20000 := fun e he => sq_svle B he
  have key : ∀ m j x4 x5, j + m = 16 → sq_Bst (sq_sv P c T) x2 x3 j x4 x5 → wY_after_9 post T x2 x3 kf ey cm sh sd dn st hi so (m + 1) x4 x5 (nI j) := by
    intro m
    induction m with
    | zero =>
      intro j x4 x5 hj H
      obtain rfl : j = 16 := by omega
      exact pk_le 16 16 (fun _ => k x4 x5 H) (fun z => absurd z (by omega))
    | succ m ih =>
      intro j x4 x5 hj H
      have q : wY_after_36 post (wY_after_9 post T x2 x3 kf ey cm sh sd dn st hi so (m + 1)) T x2 x3 x4 x5 (nI j) (nI (sq_sv P c T j)) kf ey cm sh sd dn st hi so := by
        refine sq_af36 (fun l g => ?_) (fun g => ?_)
        · rw [nI_1]; exact ih (j + 1) _ _ (by omega) (sq_Bs1 (by omega) hB H l g)
        · rw [nI_1]; exact ih (j + 1) _ _ (by omega) (sq_Bs0 (by omega) hB H g)
      refine pk_le 16 j (fun z => absurd z (by omega)) (fun h16 => sq_pY C h16 (fun p => br_f sq_10 (sq_sY C B h16 p ?_)) (fun p => br_t rfl ?_))
      · have e : sq_sm P c T j 6 = sq_sv P c T j := (if_pos p).symm
        rw [e]; exact q
      · have e : sq_sv P c T j = 0 := if_neg p
        rw [e, nI_0] at q; exact q
  exact ⟨17, key 16 0 (-1) 0 rfl (Or.inl ⟨rfl, rfl, fun e z => absurd z (by omega)⟩)⟩
theorem sq_m1 : (-1 : Int32) < 0 := by decide
theorem sq_seY {post : Int32 → SY → Prop} {ey cm sh sd dn st : Nat → Int32} {P : Nat → Bool} {c : Nat → Nat} (C : sq_CY P c sh sd dn st) (B : sq_B c) {T k : Int32} {N K : Nat} {h : Nat → Nat} (H : sq_SO (sq_sv P c T) 16 N h) (hK : K ≤ 16)
    (k1 : ∀ i, i < K → ¬ k ≤ nI i) (k2 : k ≤ nI K ∨ K = 16) (fin : ∀ fi fo, sq_AR (sq_sv P c T) (min K N) h fi fo → post (nI (min K N)) (nI (min K N), ey, cm, sh, sd, dn, st, fi, fo)) :
    ∀ m i x3 x4 gi go, i + m = K → (∀ j, j < N → (sq_Lt (sq_sv P c T) x3 x4 (h j) ↔ min i N ≤ j)) → sq_AR (sq_sv P c T) (min i N) h gi go → wY_search_14 post T k (m + 1) x3 x4 (nI i) (nI (min i N)) ey cm sh sd dn st gi go := by
  have hB : ∀ e, e < 16 → sq_sv P c T e < 20000 := fun e he => sq_svle B he
  obtain ⟨a1, a2, a3, a4⟩ := H
  intro m
  induction m with
  | zero =>
    intro i x3 x4 gi go hi L A
    obtain rfl : i = K := by omega
    exact br_c (fun _ => fin gi go A) (fun z => pk_le 16 i (fun _ => fin gi go A) (fun y => absurd y (by have := k2.resolve_left z; omega)))
  | succ m ih =>
    intro i x3 x4 gi go hi L A
    refine br_f (k1 i (by omega)) (pk_le 16 i (fun z => absurd z (by omega)) (fun _ => sq_af C B (fun y4 y5 hb => ?_)))
    rcases hb with ⟨rfl, _, hn⟩ | ⟨b, hb, rfl, _, p, l, best⟩
    · refine br_t sq_m1 (nm_r (nI_1 i) ?_)
      have hN : N ≤ i := by
        refine Decidable.byContradiction (fun z => ?_)
        have e : min i N = i := Nat.min_eq_left (by omega)
        exact hn (h i) (a2 i (by omega)).1 (a2 i (by omega)).2 ((L i (by omega)).mpr (by omega))
      have e1 : min i N = N := Nat.min_eq_right hN
      have e2 : min (i + 1) N = N := Nat.min_eq_right (by omega)
      have := ih (i + 1) 0 x4 gi go (by omega) (fun j hj => ?_) (by rw [e2]; rw [e1] at A; exact A)
      · rw [e2] at this; rw [e1]; exact this
      · rw [e2]
        have q := a2 j hj
        refine ⟨fun z => ?_, fun z => absurd z (by omega)⟩
        rcases z with z | z
        · exact absurd z (nI_pos (by have := hB _ q.1; omega))
        · exact absurd z.1 (nI_ne0 q.2 (by have := hB _ q.1; omega))
    · obtain ⟨j, hj, rfl⟩ := a4 b hb p
      have cj := (L j hj).mp l
      have hiN : i < N := by
        refine Decidable.byContradiction (fun z => ?_)
        have e : min i N = N := Nat.min_eq_right (by omega)
        omega
      have e1 : min i N = i := Nat.min_eq_left (by omega)
      have e2 : min (i + 1) N = i + 1 := Nat.min_eq_left (by omega)
      have q := a2 i hiN
      have w := best (h i) q.1 q.2 ((L i hiN).mpr (by omega))
      have ej : j = i := by
        refine Decidable.byContradiction (fun z => ?_)
        have := a3 i j (by omega) hj
        omega
      subst ej
      have pb : P (h j) = true := by
        refine Decidable.byContradiction (fun z => ?_)
        have e : sq_sv P c T (h j) = 0 := if_neg z
        omega
      have cj : (nI j).toNatClampNeg = j := sq_c (by omega)
      have vj : vp_in (nI j) 16 := pk_in j 16 (by omega)
      rw [e1]
      refine br_f (nI_pos (by omega)) (sq_sY C B hb pb ?_)
      have es : sq_sm P c T (h j) 6 = sq_sv P c T (h j) := (if_pos pb).symm
      rw [es]
      refine ⟨vj, nm_r (e' := upd gi j (nI (h j))) (by rw [cj]) ⟨vj, nm_r (e' := upd go j (nI (sq_sv P c T (h j)))) (by rw [cj]) (nm_r (nI_1 j) (nm_r (nI_1 j) ?_))⟩⟩
      have := ih (j + 1) (nI (sq_sv P c T (h j))) (nI (h j)) (upd gi j (nI (h j))) (upd go j (nI (sq_sv P c T (h j)))) (by omega) (fun i hi' => ?_) (fun i hi' => ?_)
      · rw [e2] at this; exact this
      · rw [e2]
        have r := a2 i hi'
        have b1 := hB _ r.1
        have b2 := hB _ q.1
        unfold sq_Lt
        rw [nI_ltI (by omega) (by omega), nI_eq (by omega) (by omega), nI_leI (by omega) (by omega)]
        rcases Nat.lt_trichotomy i j with z | z | z
        · have := a3 i j z hj; omega
        · subst z; omega
        · have := a3 j i z hi'; omega
      · by_cases z : i = j
        · subst z; rw [pk_us, pk_us]; exact ⟨rfl, rfl⟩
        · rw [pk_un z, pk_un z]; exact A i (by omega)
end
section
/-! hit, score, search -/
theorem i_vc_hit {k : Nat} {u : SX} {v : SY} (I : i_Rel k u v) (hk : k + 4 ≤ 2048) (v1 : Int32) : wpX_hit (fun r => wpY_hit (fun r' => r' = r ∧ i_Rel (k + 4) u v) v v1) u v1 := by
  obtain ⟨ke, up, cu, ex, cn, se, sc, hd, hs⟩ := u
  obtain ⟨kf, ey, cm, sh, sd, dn, st, hi, so⟩ := v
  obtain ⟨N, D, S, K⟩ := I
  have R : i_Rel (k + 4) (ke, up, cu, ex, cn, se, sc, hd, hs) (kf, ey, cm, sh, sd, dn, st, hi, so) := ⟨N, D, S, K⟩
  generalize i_Rel (k + 4) (ke, up, cu, ex, cn, se, sc, hd, hs) (kf, ey, cm, sh, sd, dn, st, hi, so) = Q at *
  obtain ⟨n, hn, rfl, rfl, A⟩ := K
  unfold wpX_hit wpX_isKept wpY_hit
  dsimp only
  by_cases h0 : v1 < 0
  · exact br_t h0 (br_t rfl (br_t h0 ⟨rfl, R⟩))
  obtain ⟨i, hi31, rfl⟩ := nI_of h0
  refine br_f h0 (pk_le n i (fun z => br_t rfl (br_f h0 (br_t (nI_le z hi31) ⟨rfl, R⟩))) (fun z => ?_))
  have ci : (nI i).toNatClampNeg = i := nI_clamp hi31
  have vi : vp_in (nI i) 16 := pk_in i 16 (by omega)
  exact br_f sq_10 ⟨vi, br_f h0 (br_f (nI_ge z (by omega)) ⟨vi, by rw [ci]; exact (A i z).1, R⟩)⟩
theorem i_vc_score {k : Nat} {u : SX} {v : SY} (I : i_Rel k u v) (hk : k + 4 ≤ 2048) (v1 : Int32) : wpX_score (fun r => wpY_score (fun r' => r' = r ∧ i_Rel (k + 4) u v) v v1) u v1 := by
  obtain ⟨ke, up, cu, ex, cn, se, sc, hd, hs⟩ := u
  obtain ⟨kf, ey, cm, sh, sd, dn, st, hi, so⟩ := v
  obtain ⟨N, D, S, K⟩ := I
  have R : i_Rel (k + 4) (ke, up, cu, ex, cn, se, sc, hd, hs) (kf, ey, cm, sh, sd, dn, st, hi, so) := ⟨N, D, S, K⟩
  generalize i_Rel (k + 4) (ke, up, cu, ex, cn, se, sc, hd, hs) (kf, ey, cm, sh, sd, dn, st, hi, so) = Q at *
  obtain ⟨n, hn, rfl, rfl, A⟩ := K
  unfold wpX_score wpX_isKept wpY_score
  dsimp only
  by_cases h0 : v1 < 0
  · exact br_t h0 (br_t rfl (br_t h0 ⟨rfl, R⟩))
  obtain ⟨i, hi31, rfl⟩ := nI_of h0
  refine br_f h0 (pk_le n i (fun z => br_t rfl (br_f h0 (br_t (nI_le z hi31) ⟨rfl, R⟩))) (fun z => ?_))
  have ci : (nI i).toNatClampNeg = i := nI_clamp hi31
  have vi : vp_in (nI i) 16 := pk_in i 16 (by omega)
  exact br_f sq_10 ⟨vi, br_f h0 (br_f (nI_ge z (by omega)) ⟨vi, by rw [ci]; exact (A i z).2, R⟩)⟩
theorem sq_seK {k : Nat} {v1 v2 : Int32} {up cu ex cn se sc : Nat → Int32} {kf : Int32} {ey cm sh sd dn st hi so : Nat → Int32} {P : Nat → Bool} {c : Nat → Nat} (CY : sq_CY P c sh sd dn st) (B : sq_B c) (N : sq_NR up cu dn st) (D : sq_DR ex cn ey cm) (Z : sq_SR se sc sh sd)
    {n K z : Nat} {h : Nat → Nat} {gd gs : Nat → Int32} (H : sq_SO (sq_sv P c v1) 16 n h) (A : sq_AR (sq_sv P c v1) n h gd gs) (hK : K ≤ 16)
    (k1 : ∀ i, i < K → ¬ v2 ≤ nI i) (k2 : v2 ≤ nI K ∨ K = 16) (ez : min n z = min K n) :
    wpY_search (fun r' v' => r' = nI (min n z) ∧ i_Rel (k + 4) (nI (min n z), up, cu, ex, cn, se, sc, gd, gs) v') (kf, ey, cm, sh, sd, dn, st, hi, so) v1 v2 := by
  rw [ez]
  have hB : ∀ e, e < 16 → sq_sv P c v1 e < 20000 := fun e he => sq_svle B he
  have e0 : min 0 n = 0 := Nat.min_eq_left (Nat.zero_le n)
  refine ⟨K + 1, ?_⟩
  have := sq_seY (post := fun r' v' => r' = nI (min K n) ∧ i_Rel (k + 4) (nI (min K n), up, cu, ex, cn, se, sc, gd, gs) v') CY B H hK k1 k2 (fun fi fo F => ⟨rfl, N, D, Z, ⟨min K n, by omega, rfl, rfl, fun i hi => ?_⟩⟩) K 0 1000000 (-1) hi so (by omega) (fun j hj => ⟨fun _ => by omega, fun _ => Or.inl (nI_lt (b := 1000000) (by have := hB _ (H.2.1 j hj).1; omega) (by omega))⟩) (fun i hi => absurd hi (by omega))
  · rw [e0] at this; exact this
  · have a := A i (by omega)
    have b := F i hi
    exact ⟨b.1.trans a.1.symm, b.2.trans a.2.symm⟩
theorem i_vc_search {k : Nat} {u : SX} {v : SY} (I : i_Rel k u v) (hk : k + 4 ≤ 2048) (v1 : Int32) (v2 : Int32) : wpX_search (fun r u' => wpY_search (fun r' v' => r' = r ∧ i_Rel (k + 4) u' v') v v1 v2) u v1 v2 := by
  obtain ⟨ke, up, cu, ex, cn, se, sc, hd, hs⟩ := u
  obtain ⟨kf, ey, cm, sh, sd, dn, st, hi, so⟩ := v
  obtain ⟨N, D, Z, K⟩ := I
  obtain ⟨P, c, CX, CY, B⟩ := sq_ctx N Z
  refine ⟨17, sq_seX CX B (fun n h gd gs H A => ?_) 16 0 0 (fun _ => 0) hd hs rfl (sq_SO0 _ _) (fun i z => absurd z (by omega))⟩
  have hn := H.1
  by_cases h0 : v2 < 0
  · refine br_f (fun y => absurd h0 (Int32.not_lt.mpr y)) (sq_56 (z := 0) hn (by omega) ?_)
    exact sq_seK (K := 0) CY B N D Z H A (by omega) (fun i y => absurd y (by omega)) (Or.inl (Int32.le_of_lt h0)) (by omega)
  · obtain ⟨z, hz, rfl⟩ := nI_of h0
    refine br_t (nI_pos' hz) (sq_56 (z := z) hn hz ?_)
    refine sq_seK (K := min z 16) CY B N D Z H A (by omega) (fun i y => nI_ge (by omega) hz) ?_ (by omega)
    by_cases y : z ≤ 16
    · rw [Nat.min_eq_left y]; exact Or.inl (nI_le (Nat.le_refl z) hz)
    · exact Or.inr (Nat.min_eq_right (by omega))
end
