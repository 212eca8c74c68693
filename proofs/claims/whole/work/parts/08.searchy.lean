/-! the reference's search: the best one after the last one, again and again -/
theorem sq_af36 {post : Int32 → Prop} {J : Int32 → Int32 → Int32 → Prop} {x1 x2 x3 x4 x5 x6 z : Int32} {kf : Int32} {ey cm sh sd dn st hi so : Nat → Int32}
    (k1 : (z < x2 ∨ (z = x2 ∧ ¬ x6 ≤ x3)) → ¬ z ≤ x5 → J x6 z (x6 + 1)) (k0 : (¬ (z < x2 ∨ (z = x2 ∧ ¬ x6 ≤ x3)) ∨ z ≤ x5) → J x4 x5 (x6 + 1)) : wY_after_36 post J x1 x2 x3 x4 x5 x6 z kf ey cm sh sd dn st hi so := by
  unfold wY_after_36 wY_after_56 wY_after_60 wY_after_61
  refine br_c (fun a => br_c (fun b => nm_e (k0 (Or.inr b))) (fun b => br_f sq_10 (nm_e (k1 (Or.inl a) b)))) (fun a => br_c (fun b => br_c (fun c => br_c (fun e => nm_e (k0 (Or.inr e))) (fun e => br_t rfl (nm_e (k0 (Or.inl (fun w => w.elim a (fun y => y.2 c))))))) (fun c => br_c (fun e => nm_e (k0 (Or.inr e))) (fun e => br_f sq_10 (nm_e (k1 (Or.inr ⟨b, c⟩) e))))) (fun b => br_c (fun e => nm_e (k0 (Or.inr e))) (fun e => br_t rfl (nm_e (k0 (Or.inl (fun w => w.elim a (fun y => b y.1))))))))
def sq_Lt (S : Nat → Nat) (x2 x3 : Int32) (d : Nat) : Prop := nI (S d) < x2 ∨ (nI (S d) = x2 ∧ ¬ nI d ≤ x3)
def sq_Bst (S : Nat → Nat) (x2 x3 : Int32) (j : Nat) (x4 x5 : Int32) : Prop := (x4 = -1 ∧ x5 = 0 ∧ ∀ e, e < j → 0 < S e → ¬ sq_Lt S x2 x3 e) ∨
  ∃ b, b < j ∧ x4 = nI b ∧ x5 = nI (S b) ∧ 0 < S b ∧ sq_Lt S x2 x3 b ∧ ∀ e, e < j → 0 < S e → sq_Lt S x2 x3 e → S e < S b ∨ (S e = S b ∧ b ≤ e)
theorem sq_Bs1 {S : Nat → Nat} {x2 x3 x4 x5 : Int32} {j : Nat} (h16 : j < 16) (hB : ∀ e, e < 16 → S e < 20000) (H : sq_Bst S x2 x3 j x4 x5) (l : sq_Lt S x2 x3 j) (g : ¬ nI (S j) ≤ x5) : sq_Bst S x2 x3 (j + 1) (nI j) (nI (S j)) := by
  have b0 := hB j h16
  rcases H with ⟨_, rfl, h⟩ | ⟨b, hb, _, rfl, p, _, h⟩
  · have g' : ¬ S j ≤ 0 := fun z => g (nI_le (b := 0) z (by omega))
    refine Or.inr ⟨j, by omega, rfl, rfl, by omega, l, fun e he pe le => ?_⟩
    by_cases z : e = j
    · subst z; exact Or.inr ⟨rfl, Nat.le_refl e⟩
    · exact absurd le (h e (by omega) pe)
  · have b1 := hB b (by omega)
    have g' : ¬ S j ≤ S b := fun z => g (nI_le z (by omega))
    refine Or.inr ⟨j, by omega, rfl, rfl, by omega, l, fun e he pe le => ?_⟩
    by_cases z : e = j
    · subst z; exact Or.inr ⟨rfl, Nat.le_refl e⟩
    · have := h e (by omega) pe le; omega
theorem sq_Bs0 {S : Nat → Nat} {x2 x3 x4 x5 : Int32} {j : Nat} (h16 : j < 16) (hB : ∀ e, e < 16 → S e < 20000) (H : sq_Bst S x2 x3 j x4 x5) (g : ¬ sq_Lt S x2 x3 j ∨ nI (S j) ≤ x5) : sq_Bst S x2 x3 (j + 1) x4 x5 := by
  have b0 := hB j h16
  rcases H with ⟨e4, rfl, h⟩ | ⟨b, hb, e4, rfl, p, l, h⟩
  · refine Or.inl ⟨e4, rfl, fun e he pe le => ?_⟩
    by_cases z : e = j
    · subst z
      rcases g with g | g
      · exact g le
      · exact nI_nle pe (by omega) g
    · exact h e (by omega) pe le
  · have b1 := hB b (by omega)
    refine Or.inr ⟨b, by omega, e4, rfl, p, l, fun e he pe le => ?_⟩
    by_cases z : e = j
    · subst z
      rcases g with g | g
      · exact absurd le g
      · have := (nI_leI (by omega) (by omega)).mp g; omega
    · exact h e (by omega) pe le
theorem sq_af {post : Int32 → Prop} {kf : Int32} {ey cm sh sd dn st hi so : Nat → Int32} {P : Nat → Bool} {c : Nat → Nat} (C : sq_CY P c sh sd dn st) (B : sq_B c) {T x2 x3 : Int32} (k : ∀ x4 x5, sq_Bst (sq_sv P c T) x2 x3 16 x4 x5 → post x4) : wpY_after post (kf, ey, cm, sh, sd, dn, st, hi, so) T x2 x3 := by
  have hB : ∀ e, e < 16 → sq_sv P c T e < 20000 := fun e he => sq_svle B he
  have key : ∀ m j x4 x5, j + m = 16 → sq_Bst (sq_sv P c T) x2 x3 j x4 x5 → wY_after_9 post T x2 x3 kf ey cm sh sd dn st hi so (m + 1) x4 x5 (nI j) := by
    intro m
    induction m with
    | zero =>
      intro j x4 x5 hj H
      obtain rfl : j = 16 := by omega
      exact pk_le 16 16 (fun _ => k x4 x5 H) (fun z => absurd z (by omega))
    | succ m ih =>
      intro j x4 x5 hj H
      have q : wY_after_36 post (wY_after_9 post T x2 x3 kf ey cm sh sd dn st hi so (m + 1)) T x2 x3 x4 x5 (nI j) (nI (sq_sv P c T j)) kf ey cm sh sd dn st hi so := by
        refine sq_af36 (fun l g => ?_) (fun g => ?_)
        · rw [nI_1]; exact ih (j + 1) _ _ (by omega) (sq_Bs1 (by omega) hB H l g)
        · rw [nI_1]; exact ih (j + 1) _ _ (by omega) (sq_Bs0 (by omega) hB H g)
      refine pk_le 16 j (fun z => absurd z (by omega)) (fun h16 => sq_pY C h16 (fun p => br_f sq_10 (sq_sY C B h16 p ?_)) (fun p => br_t rfl ?_))
      · have e : sq_sm P c T j 6 = sq_sv P c T j := (if_pos p).symm
        rw [e]; exact q
      · have e : sq_sv P c T j = 0 := if_neg p
        rw [e, nI_0] at q; exact q
  exact ⟨17, key 16 0 (-1) 0 rfl (Or.inl ⟨rfl, rfl, fun e z => absurd z (by omega)⟩)⟩
theorem sq_m1 : (-1 : Int32) < 0 := by decide
theorem sq_seY {post : Int32 → SY → Prop} {ey cm sh sd dn st : Nat → Int32} {P : Nat → Bool} {c : Nat → Nat} (C : sq_CY P c sh sd dn st) (B : sq_B c) {T k : Int32} {N K : Nat} {h : Nat → Nat} (H : sq_SO (sq_sv P c T) 16 N h) (hK : K ≤ 16)
    (k1 : ∀ i, i < K → ¬ k ≤ nI i) (k2 : k ≤ nI K ∨ K = 16) (fin : ∀ fi fo, sq_AR (sq_sv P c T) (min K N) h fi fo → post (nI (min K N)) (nI (min K N), ey, cm, sh, sd, dn, st, fi, fo)) :
    ∀ m i x3 x4 gi go, i + m = K → (∀ j, j < N → (sq_Lt (sq_sv P c T) x3 x4 (h j) ↔ min i N ≤ j)) → sq_AR (sq_sv P c T) (min i N) h gi go → wY_search_14 post T k (m + 1) x3 x4 (nI i) (nI (min i N)) ey cm sh sd dn st gi go := by
  have hB : ∀ e, e < 16 → sq_sv P c T e < 20000 := fun e he => sq_svle B he
  obtain ⟨a1, a2, a3, a4⟩ := H
  intro m
  induction m with
  | zero =>
    intro i x3 x4 gi go hi L A
    obtain rfl : i = K := by omega
    exact br_c (fun _ => fin gi go A) (fun z => pk_le 16 i (fun _ => fin gi go A) (fun y => absurd y (by have := k2.resolve_left z; omega)))
  | succ m ih =>
    intro i x3 x4 gi go hi L A
    refine br_f (k1 i (by omega)) (pk_le 16 i (fun z => absurd z (by omega)) (fun _ => sq_af C B (fun y4 y5 hb => ?_)))
    rcases hb with ⟨rfl, _, hn⟩ | ⟨b, hb, rfl, _, p, l, best⟩
    · refine br_t sq_m1 (nm_r (nI_1 i) ?_)
      have hN : N ≤ i := by
        refine Decidable.byContradiction (fun z => ?_)
        have e : min i N = i := Nat.min_eq_left (by omega)
        exact hn (h i) (a2 i (by omega)).1 (a2 i (by omega)).2 ((L i (by omega)).mpr (by omega))
      have e1 : min i N = N := Nat.min_eq_right hN
      have e2 : min (i + 1) N = N := Nat.min_eq_right (by omega)
      have := ih (i + 1) 0 x4 gi go (by omega) (fun j hj => ?_) (by rw [e2]; rw [e1] at A; exact A)
      · rw [e2] at this; rw [e1]; exact this
      · rw [e2]
        have q := a2 j hj
        refine ⟨fun z => ?_, fun z => absurd z (by omega)⟩
        rcases z with z | z
        · exact absurd z (nI_pos (by have := hB _ q.1; omega))
        · exact absurd z.1 (nI_ne0 q.2 (by have := hB _ q.1; omega))
    · obtain ⟨j, hj, rfl⟩ := a4 b hb p
      have cj := (L j hj).mp l
      have hiN : i < N := by
        refine Decidable.byContradiction (fun z => ?_)
        have e : min i N = N := Nat.min_eq_right (by omega)
        omega
      have e1 : min i N = i := Nat.min_eq_left (by omega)
      have e2 : min (i + 1) N = i + 1 := Nat.min_eq_left (by omega)
      have q := a2 i hiN
      have w := best (h i) q.1 q.2 ((L i hiN).mpr (by omega))
      have ej : j = i := by
        refine Decidable.byContradiction (fun z => ?_)
        have := a3 i j (by omega) hj
        omega
      subst ej
      have pb : P (h j) = true := by
        refine Decidable.byContradiction (fun z => ?_)
        have e : sq_sv P c T (h j) = 0 := if_neg z
        omega
      have cj : (nI j).toNatClampNeg = j := sq_c (by omega)
      have vj : vp_in (nI j) 16 := pk_in j 16 (by omega)
      rw [e1]
      refine br_f (nI_pos (by omega)) (sq_sY C B hb pb ?_)
      have es : sq_sm P c T (h j) 6 = sq_sv P c T (h j) := (if_pos pb).symm
      rw [es]
      refine ⟨vj, nm_r (e' := upd gi j (nI (h j))) (by rw [cj]) ⟨vj, nm_r (e' := upd go j (nI (sq_sv P c T (h j)))) (by rw [cj]) (nm_r (nI_1 j) (nm_r (nI_1 j) ?_))⟩⟩
      have := ih (j + 1) (nI (sq_sv P c T (h j))) (nI (h j)) (upd gi j (nI (h j))) (upd go j (nI (sq_sv P c T (h j)))) (by omega) (fun i hi' => ?_) (fun i hi' => ?_)
      · rw [e2] at this; exact this
      · rw [e2]
        have r := a2 i hi'
        have b1 := hB _ r.1
        have b2 := hB _ q.1
        unfold sq_Lt
        rw [nI_ltI (by omega) (by omega), nI_eq (by omega) (by omega), nI_leI (by omega) (by omega)]
        rcases Nat.lt_trichotomy i j with z | z | z
        · have := a3 i j z hj; omega
        · subst z; omega
        · have := a3 j i z hi'; omega
      · by_cases z : i = j
        · subst z; rw [pk_us, pk_us]; exact ⟨rfl, rfl⟩
        · rw [pk_un z, pk_un z]; exact A i (by omega)
