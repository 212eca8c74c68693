/-! pasted rows (kit/rows) -/
theorem pk_us {f : Nat → Int32} {k : Nat} {x : Int32} : upd f k x k = x := if_pos rfl
theorem pk_un {f : Nat → Int32} {k j : Nat} {x : Int32} (h : j ≠ k) : upd f k x j = f j := if_neg h
theorem pk_sub {a b : Nat} (h : b ≤ a) : nI a - nI b = nI (a - b) := by
  obtain ⟨c, rfl⟩ : ∃ c, a = c + b := ⟨a - b, by omega⟩
  rw [← nI_add, Int32.add_sub_cancel, Nat.add_sub_cancel]
theorem pk_m1 (n : Nat) : nI (n + 1) + (-1) = nI n := by
  rw [← nI_1, Int32.add_assoc, show (1 : Int32) + (-1) = 0 from rfl, Int32.add_zero]
theorem pk_mul (a b : Nat) : nI a * nI b = nI (a * b) := (Int32.ofNat_mul a b).symm
theorem pk_div {a d : Nat} (ha : a < 2 ^ 31) (h0 : 0 < d) (hd : d < 2 ^ 31) : nI a / nI d = nI (a / d) := by
  apply Int32.toInt_inj.mp
  rw [lg_idiv_nonneg (by rw [nI_toInt ha]; omega) (by rw [nI_toInt hd]; omega), nI_toInt ha, nI_toInt hd, nI_toInt (Nat.lt_of_le_of_lt (Nat.div_le_self a d) ha)]
  first | rfl | exact (Int.natCast_ediv _ _).symm
theorem pk_rem {a d : Nat} (ha : a < 2 ^ 31) (h0 : 0 < d) (hd : d < 2 ^ 31) : nI a - nI a / nI d * nI d = nI (a % d) := by
  rw [pk_div ha h0 hd, pk_mul, pk_sub (Nat.div_mul_le_self a d)]
  exact congrArg nI (by have := Nat.div_add_mod' a d; omega)
theorem pk_ix (x : Int32) {n : Nat} (hn : n < 2 ^ 31) : x < 0 ∨ nI n ≤ x ∨ ∃ j : Nat, j < n ∧ x = nI j := by
  by_cases h : x < 0
  · exact Or.inl h
  · obtain ⟨j, hj, rfl⟩ := nI_of h
    by_cases h2 : j < n
    · exact Or.inr (Or.inr ⟨j, h2, rfl⟩)
    · exact Or.inr (Or.inl (nI_le (by omega) hj))
theorem pk_le {x y : Int32} {A B : Prop} (a b : Nat) (f : a ≤ b → A) (g : b < a → B) (hx : x = nI a := by rfl) (hy : y = nI b := by rfl) (ha : a < 2 ^ 31 := by omega) (hb : b < 2 ^ 31 := by omega) : (x ≤ y → A) ∧ (¬ x ≤ y → B) := by
  subst hx hy
  rw [nI_leI ha hb]
  exact ⟨f, fun z => g (by omega)⟩
theorem pk_lt {x y : Int32} {A B : Prop} (a b : Nat) (f : a < b → A) (g : b ≤ a → B) (hx : x = nI a := by rfl) (hy : y = nI b := by rfl) (ha : a < 2 ^ 31 := by omega) (hb : b < 2 ^ 31 := by omega) : (x < y → A) ∧ (¬ x < y → B) := by
  subst hx hy
  rw [nI_ltI ha hb]
  exact ⟨f, fun z => g (by omega)⟩
theorem pk_eq {x y : Int32} {A B : Prop} (a b : Nat) (f : a = b → A) (g : a ≠ b → B) (hx : x = nI a := by rfl) (hy : y = nI b := by rfl) (ha : a < 2 ^ 31 := by omega) (hb : b < 2 ^ 31 := by omega) : (x = y → A) ∧ (¬ x = y → B) := by
  subst hx hy
  rw [nI_eq ha hb]
  exact ⟨f, g⟩
theorem pk_in {x : Int32} (n N : Nat) (h : n < N) (hx : x = nI n := by rfl) (hN : N < 2 ^ 31 := by omega) : vp_in x N := by
  subst hx
  exact vp_in_nI h hN
theorem pk_cl {x : Int32} (n : Nat) (hx : x = nI n := by rfl) (h : n < 2 ^ 31 := by omega) : x.toNatClampNeg = n := by
  subst hx
  exact nI_clamp h
theorem pk_tn {n : Nat} (h : n < 2 ^ 32) : (nI n).toBitVec.toNat = n := Nat.mod_eq_of_lt h
theorem pk_and (x : Int32) {m : Int32} (k : Nat) (hm : m.toBitVec.toNat = 2 ^ k - 1) : x &&& m = nI (x.toBitVec.toNat % 2 ^ k) := by
  apply Int32.toBitVec_inj.mp
  apply BitVec.eq_of_toNat_eq
  rw [Int32.toBitVec_and, BitVec.toNat_and, hm, Nat.and_two_pow_sub_one_eq_mod]
  show _ = (BitVec.ofNat 32 _).toNat
  rw [BitVec.toNat_ofNat]
  exact (Nat.mod_eq_of_lt (Nat.lt_of_le_of_lt (Nat.mod_le _ _) x.toBitVec.isLt)).symm
theorem pk_andN {n : Nat} (h : n < 2 ^ 32) {m : Int32} (k : Nat) (hm : m.toBitVec.toNat = 2 ^ k - 1) : nI n &&& m = nI (n % 2 ^ k) := by
  rw [pk_and _ k hm, pk_tn h]
theorem pk_andE (x : Int32) {m : Int32} (k : Nat) (hm : m.toBitVec.toNat = 2 ^ k - 1) : ∃ j : Nat, j < 2 ^ k ∧ x &&& m = nI j := ⟨_, Nat.mod_lt _ (Nat.two_pow_pos k), pk_and x k hm⟩
/-! own rows: the relation -/
theorem sq_n0 : vp_nar .boolean 0 = 0 := by show (0 : Int32) &&& 1 = 0; decide
theorem sq_n1 : vp_nar .boolean 1 = 1 := by show (1 : Int32) &&& 1 = 1; decide
theorem sq_nb {x : Int32} (h : x = 0 ∨ x = 1) : vp_nar .boolean x = x := by
  rcases h with rfl | rfl
  · exact sq_n0
  · exact sq_n1
theorem sq_10 : ¬ (1 : Int32) = 0 := by decide
theorem sq_30 : ¬ (3 : Int32) = 0 := by decide
theorem sq_60 : ¬ (6 : Int32) = 0 := by decide
theorem sq_c {n : Nat} (h : n < 1000) : (nI n).toNatClampNeg = n := nI_clamp (by omega)
theorem sq_3 (s : Nat) : nI s + 3 = nI (s + 3) := nI_add s 3
theorem sq_ix (d t : Nat) : nI d * 6 + nI t = nI (d * 6 + t) := by
  rw [show (6 : Int32) = nI 6 from rfl, pk_mul, nI_add]
theorem sq_r3 {d : Nat} (h : d < 1000) : nI d - nI d / 3 * 3 = nI (d % 3) :=
  pk_rem (a := d) (d := 3) (by omega) (by omega) (by omega)
theorem sq_d6 {d : Nat} (h : d < 1000) : nI d / 6 = nI (d / 6) :=
  pk_div (a := d) (d := 6) (by omega) (by omega) (by omega)
def sq_opX (up cu : Nat → Int32) (s : Nat) : Prop := (¬ up s = 0 ∧ ¬ cu s = 0) ∨ (¬ up (s + 3) = 0 ∧ ¬ cu (s + 3) = 0)
def sq_opY (dn st : Nat → Int32) (s : Nat) : Prop := (dn s = 0 ∧ st s = 0) ∨ (dn (s + 3) = 0 ∧ st (s + 3) = 0)
def sq_N1 (up cu dn st : Nat → Int32) : Prop := ∀ j, j < 6 → (up j = 0 ↔ ¬ dn j = 0) ∧ (cu j = 0 ↔ ¬ st j = 0)
def sq_NR (up cu dn st : Nat → Int32) : Prop := sq_N1 up cu dn st ∧ ∀ j, j < 6 → sq_opX up cu (j % 3) → ¬ up j = 0 → ¬ cu j = 0
def sq_DR (ex cn ey cm : Nat → Int32) : Prop := (∀ d, d < 16 → ey d = ex d ∧ (ex d = 0 ∨ ex d = 1)) ∧
  ∀ d, d < 16 → ∀ t, t < 6 → (∃ c, c ≤ 9 ∧ cn (d * 6 + t) = nI c) ∧ (ex d = 0 → cn (d * 6 + t) = 0) ∧ (¬ ex d = 0 → cm (d * 6 + t) = cn (d * 6 + t))
def sq_SR (se sc sh sd : Nat → Int32) : Prop := (∀ d, d < 16 → sh d = se d) ∧
  ∀ d, d < 16 → ∀ t, t < 6 → (∃ c, c ≤ 9 ∧ sc (d * 6 + t) = nI c) ∧ (¬ se d = 0 → sd (d * 6 + t) = sc (d * 6 + t))
def sq_KR (ke : Int32) (hd hs : Nat → Int32) (kf : Int32) (hi so : Nat → Int32) : Prop :=
  ∃ n, n ≤ 16 ∧ ke = nI n ∧ kf = nI n ∧ ∀ i, i < n → hi i = hd i ∧ so i = hs i
def sq_R (u : SX) (v : SY) : Prop := match u, v with
  | (ke, up, cu, ex, cn, se, sc, hd, hs), (kf, ey, cm, sh, sd, dn, st, hi, so) => sq_NR up cu dn st ∧ sq_DR ex cn ey cm ∧ sq_SR se sc sh sd ∧ sq_KR ke hd hs kf hi so
def i_Rel (_ : Nat) (u : SX) (v : SY) : Prop := sq_R u v
theorem i_up {k : Nat} {u : SX} {v : SY} (h : i_Rel k u v) : i_Rel (k + 4) u v := h
theorem sq_init {post : SX → Prop} (h : ∀ up cu : Nat → Int32, (∀ j, j < 6 → up j = 1 ∧ cu j = 1) → post (0, up, cu, (fun _ => 0), (fun _ => 0), (fun _ => 0), (fun _ => 0), (fun _ => 0), (fun _ => 0))) : wpX_init post := by
  have key : ∀ m j (up cu : Nat → Int32), j + m = 6 → (∀ i, i < j → up i = 1 ∧ cu i = 1) → wX_init_75 post 0 (m + 1) (nI j) up cu (fun _ => 0) (fun _ => 0) (fun _ => 0) (fun _ => 0) (fun _ => 0) (fun _ => 0) := by
    intro m
    induction m with
    | zero =>
      intro j up cu hj hi
      exact pk_le 6 j (fun _ => h up cu (fun i hi' => hi i (by omega))) (fun z => absurd z (by omega))
    | succ m ih =>
      intro j up cu hj hi
      have c : (nI j).toNatClampNeg = j := sq_c (by omega)
      have v : vp_in (nI j) 6 := pk_in j 6 (by omega)
      refine pk_le 6 j (fun z => absurd z (by omega)) (fun _ => ⟨v, nm_r (e' := upd up j 1) (by rw [c, sq_n1]) ⟨v, nm_r (e' := upd cu j 1) (by rw [c, sq_n1]) (nm_r (nI_1 j) (ih (j + 1) _ _ (by omega) ?_))⟩⟩)
      intro i hi'
      by_cases e : i = j
      · subst e; exact ⟨pk_us, pk_us⟩
      · rw [pk_un e, pk_un e]; exact hi i (by omega)
  exact ⟨7, key 6 0 _ _ rfl (fun i hi => absurd hi (by omega))⟩
theorem i_vc0 : wpX_init (fun u => wpY_init (fun v => i_Rel 0 u v)) := by
  refine sq_init (fun up cu h => ?_)
  unfold wpY_init i_Rel
  refine ⟨⟨fun j hj => ?_, fun j hj _ _ => ?_⟩, ⟨fun d _ => ⟨rfl, Or.inl rfl⟩, fun d _ t _ => ⟨⟨0, by omega, nI_0.symm⟩, fun _ => rfl, fun _ => rfl⟩⟩, ⟨fun d _ => rfl, fun d _ t _ => ⟨⟨0, by omega, nI_0.symm⟩, fun _ => rfl⟩⟩, ⟨0, by omega, nI_0.symm, nI_0.symm, fun i hi => absurd hi (by omega)⟩⟩
  · rw [(h j hj).1, (h j hj).2]
    exact ⟨⟨fun z => absurd z sq_10, fun z => absurd rfl z⟩, ⟨fun z => absurd z sq_10, fun z => absurd rfl z⟩⟩
  · rw [(h j hj).2]; exact sq_10
