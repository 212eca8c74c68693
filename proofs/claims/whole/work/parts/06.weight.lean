/-! in play, weight, score of a document: each side against the same pure values -/
def sq_nH (P : Nat → Bool) (c : Nat → Nat) (t : Nat) : Nat → Nat
  | 0 => 0
  | n + 1 => sq_nH P c t n + (if P n = true ∧ 0 < c (n * 6 + t) then 1 else 0)
theorem sq_nH1 {P : Nat → Bool} {c : Nat → Nat} {t n : Nat} (h : P n = true) (g : 0 < c (n * 6 + t)) : sq_nH P c t (n + 1) = sq_nH P c t n + 1 := by
  show sq_nH P c t n + _ = _
  rw [if_pos ⟨h, g⟩]
theorem sq_nH0 {P : Nat → Bool} {c : Nat → Nat} {t n : Nat} (h : ¬ (P n = true ∧ 0 < c (n * 6 + t))) : sq_nH P c t (n + 1) = sq_nH P c t n := by
  show sq_nH P c t n + _ = _
  rw [if_neg h]; rfl
theorem sq_nHle (P : Nat → Bool) (c : Nat → Nat) (t : Nat) : ∀ n, sq_nH P c t n ≤ n := by
  intro n
  induction n with
  | zero => exact Nat.le_refl 0
  | succ n ih =>
    by_cases h : P n = true ∧ 0 < c (n * 6 + t)
    · rw [sq_nH1 h.1 h.2]; omega
    · rw [sq_nH0 h]; omega
def sq_wt (P : Nat → Bool) (c : Nat → Nat) (t : Nat) : Nat := if sq_nH P c t 16 = 0 then 0 else 16 * sq_nP P 16 / sq_nH P c t 16
theorem sq_wtle (P : Nat → Bool) (c : Nat → Nat) (t : Nat) : sq_wt P c t ≤ 256 := by
  unfold sq_wt
  have a := sq_nPle P 16
  by_cases h : sq_nH P c t 16 = 0
  · rw [if_pos h]; omega
  · rw [if_neg h]
    exact Nat.le_trans (Nat.div_le_self _ _) (by omega)
def sq_bit (T : Int32) (t : Nat) : Bool := decide (((T >>> (nI t &&& 31)) &&& 1) = 1)
theorem sq_b01 (x : Int32) : x &&& 1 = 0 ∨ x &&& 1 = 1 := by
  obtain ⟨j, hj, e⟩ := pk_andE x (m := 1) 1 (by decide)
  have : j = 0 ∨ j = 1 := by omega
  rcases this with rfl | rfl
  · exact Or.inl e
  · exact Or.inr e
theorem sq_bit0 {T : Int32} {t : Nat} (h : ((T >>> (nI t &&& 31)) &&& 1) = 0) : ¬ sq_bit T t = true := by
  unfold sq_bit
  rw [h]; decide
theorem sq_bit1 {T : Int32} {t : Nat} (h : ¬ ((T >>> (nI t &&& 31)) &&& 1) = 0) : sq_bit T t = true := by
  unfold sq_bit
  rw [(sq_b01 _).resolve_left h]; decide
def sq_sm (P : Nat → Bool) (c : Nat → Nat) (T : Int32) (d : Nat) : Nat → Nat
  | 0 => 0
  | t + 1 => sq_sm P c T d t + (if sq_bit T t = true then c (d * 6 + t) * sq_wt P c t else 0)
theorem sq_sm1 {P : Nat → Bool} {c : Nat → Nat} {T : Int32} {d t : Nat} (h : sq_bit T t = true) : sq_sm P c T d (t + 1) = sq_sm P c T d t + c (d * 6 + t) * sq_wt P c t := by
  show sq_sm P c T d t + _ = _
  rw [if_pos h]
theorem sq_sm0 {P : Nat → Bool} {c : Nat → Nat} {T : Int32} {d t : Nat} (h : ¬ sq_bit T t = true) : sq_sm P c T d (t + 1) = sq_sm P c T d t := by
  show sq_sm P c T d t + _ = _
  rw [if_neg h]; rfl
def sq_B (c : Nat → Nat) : Prop := ∀ d, d < 16 → ∀ t, t < 6 → c (d * 6 + t) ≤ 9
theorem sq_smle {P : Nat → Bool} {c : Nat → Nat} {T : Int32} {d : Nat} (B : sq_B c) (hd16 : d < 16) : ∀ t, t ≤ 6 → sq_sm P c T d t ≤ t * 2304 := by
  intro t
  induction t with
  | zero => intro _; exact Nat.le_refl 0
  | succ t ih =>
    intro h
    have := ih (by omega)
    by_cases g : sq_bit T t = true
    · rw [sq_sm1 g]
      have : c (d * 6 + t) * sq_wt P c t ≤ 9 * 256 := Nat.mul_le_mul (B d hd16 t (by omega)) (sq_wtle P c t)
      omega
    · rw [sq_sm0 g]; omega
def sq_sv (P : Nat → Bool) (c : Nat → Nat) (T : Int32) (d : Nat) : Nat := if P d = true then sq_sm P c T d 6 else 0
theorem sq_svle {P : Nat → Bool} {c : Nat → Nat} {T : Int32} {d : Nat} (B : sq_B c) (hd16 : d < 16) : sq_sv P c T d < 20000 := by
  unfold sq_sv
  by_cases h : P d = true
  · rw [if_pos h]
    have := sq_smle (P := P) (T := T) B hd16 6 (by omega)
    omega
  · rw [if_neg h]; omega
def sq_CX (P : Nat → Bool) (c : Nat → Nat) (up cu se sc : Nat → Int32) : Prop := (∀ d, d < 16 → (P d = true ↔ ¬ se d = 0 ∧ sq_opX up cu (d % 3))) ∧ ∀ d, d < 16 → P d = true → ∀ t, t < 6 → sc (d * 6 + t) = nI (c (d * 6 + t))
def sq_CY (P : Nat → Bool) (c : Nat → Nat) (sh sd dn st : Nat → Int32) : Prop := (∀ d, d < 16 → (P d = true ↔ ¬ sh d = 0 ∧ sq_opY dn st (d % 3))) ∧ ∀ d, d < 16 → P d = true → ∀ t, t < 6 → sd (d * 6 + t) = nI (c (d * 6 + t))
theorem sq_ctx {up cu se sc sh sd dn st : Nat → Int32} (N : sq_NR up cu dn st) (S : sq_SR se sc sh sd) : ∃ P c, sq_CX P c up cu se sc ∧ sq_CY P c sh sd dn st ∧ sq_B c := by
  have E : ∀ d, d < 16 → ∀ t, t < 6 → sc (d * 6 + t) = nI (sc (d * 6 + t)).toNatClampNeg ∧ (sc (d * 6 + t)).toNatClampNeg ≤ 9 := by
    intro d h t ht
    obtain ⟨c, hc, e⟩ := (S.2 d h t ht).1
    rw [e, nI_clamp (by omega)]
    exact ⟨rfl, hc⟩
  have P : ∀ d, (decide (¬ se d = 0) && sq_O up cu (d % 3)) = true ↔ ¬ se d = 0 ∧ sq_opX up cu (d % 3) := by
    intro d
    rw [Bool.and_eq_true, decide_eq_true_iff, sq_Oi]
  refine ⟨fun d => decide (¬ se d = 0) && sq_O up cu (d % 3), fun i => (sc i).toNatClampNeg, ⟨fun d _ => P d, fun d h _ t ht => (E d h t ht).1⟩, ⟨fun d h => ?_, fun d h p t ht => ?_⟩, fun d h t ht => (E d h t ht).2⟩
  · rw [P d, S.1 d h, sq_op N.1 (by omega)]
  · rw [(S.2 d h t ht).2 ((P d).mp p).1]
    exact (E d h t ht).1
theorem sq_pX {post : Int32 → Prop} {ke : Int32} {up cu ex cn se sc hd hs : Nat → Int32} {P : Nat → Bool} {c : Nat → Nat} (C : sq_CX P c up cu se sc) {d : Nat} (h16 : d < 16) (k1 : P d = true → post 1) (k0 : ¬ P d = true → post 0) : wpX_isInPlay post (ke, up, cu, ex, cn, se, sc, hd, hs) (nI d) := by
  have cd : (nI d).toNatClampNeg = d := sq_c (by omega)
  have vd : vp_in (nI d) 16 := pk_in d 16 h16
  unfold wpX_isInPlay
  dsimp only
  rw [cd, sq_r3 (by omega)]
  exact ⟨vd, br_c (fun a => k0 (fun z => ((C.1 d h16).mp z).1 a)) (fun a => ⟨sq_30, sq_oX (by omega) (fun o => br_f sq_10 (k1 ((C.1 d h16).mpr ⟨a, o⟩))) (fun o => br_t rfl (k0 (fun z => o ((C.1 d h16).mp z).2)))⟩)⟩
theorem sq_pY {post : Int32 → Prop} {kf : Int32} {ey cm sh sd dn st hi so : Nat → Int32} {P : Nat → Bool} {c : Nat → Nat} (C : sq_CY P c sh sd dn st) {d : Nat} (h16 : d < 16) (k1 : P d = true → post 1) (k0 : ¬ P d = true → post 0) : wpY_plays post (kf, ey, cm, sh, sd, dn, st, hi, so) (nI d) := by
  have cd : (nI d).toNatClampNeg = d := sq_c (by omega)
  have vd : vp_in (nI d) 16 := pk_in d 16 h16
  unfold wpY_plays
  dsimp only
  rw [cd, sq_r3 (by omega)]
  exact ⟨vd, br_c (fun a => k0 (fun z => ((C.1 d h16).mp z).1 a)) (fun a => ⟨sq_30, sq_oY (by omega) (fun o => br_f sq_10 (k1 ((C.1 d h16).mpr ⟨a, o⟩))) (fun o => br_t rfl (k0 (fun z => o ((C.1 d h16).mp z).2)))⟩)⟩
theorem sq_ipX {post : Int32 → Prop} {ke : Int32} {up cu ex cn se sc hd hs : Nat → Int32} {P : Nat → Bool} {c : Nat → Nat} (C : sq_CX P c up cu se sc) (k : post (nI (sq_nP P 16))) : wpX_inPlay post (ke, up, cu, ex, cn, se, sc, hd, hs) := by
  have key : ∀ m j, j + m = 16 → wX_inPlay_4 post ke up cu ex cn se sc hd hs (m + 1) (nI (sq_nP P j)) (nI j) := by
    intro m
    induction m with
    | zero =>
      intro j hj
      obtain rfl : j = 16 := by omega
      exact pk_le 16 16 (fun _ => k) (fun z => absurd z (by omega))
    | succ m ih =>
      intro j hj
      refine pk_le 16 j (fun z => absurd z (by omega)) (fun _ => sq_pX C (by omega) (fun p => br_f sq_10 ?_) (fun p => br_t rfl (nm_r (nI_1 j) ?_)))
      · exact nm_r (by rw [sq_nP1 p, ← nI_1]) (nm_r (nI_1 j) (ih (j + 1) (by omega)))
      · rw [← sq_nP0 p]; exact ih (j + 1) (by omega)
  exact ⟨17, key 16 0 rfl⟩
theorem sq_ipY {post : Int32 → Prop} {kf : Int32} {ey cm sh sd dn st hi so : Nat → Int32} {P : Nat → Bool} {c : Nat → Nat} (C : sq_CY P c sh sd dn st) (k : post (nI (sq_nP P 16))) : wpY_inPlay post (kf, ey, cm, sh, sd, dn, st, hi, so) := by
  have key : ∀ m j, j + m = 16 → wY_inPlay_4 post kf ey cm sh sd dn st hi so (m + 1) (nI (sq_nP P j)) (nI j) := by
    intro m
    induction m with
    | zero =>
      intro j hj
      obtain rfl : j = 16 := by omega
      exact pk_le 16 16 (fun _ => k) (fun z => absurd z (by omega))
    | succ m ih =>
      intro j hj
      refine pk_le 16 j (fun z => absurd z (by omega)) (fun _ => sq_pY C (by omega) (fun p => br_f sq_10 ?_) (fun p => br_t rfl (nm_r (nI_1 j) ?_)))
      · exact nm_r (by rw [sq_nP1 p, ← nI_1]) (nm_r (nI_1 j) (ih (j + 1) (by omega)))
      · rw [← sq_nP0 p]; exact ih (j + 1) (by omega)
  exact ⟨17, key 16 0 rfl⟩
theorem sq_dv {p h : Nat} (hp : p ≤ 16) (h0 : ¬ h = 0) (hh : h ≤ 16) : 16 * nI p / nI h = nI (16 * p / h) := by
  rw [show (16 : Int32) = nI 16 from rfl, pk_mul, pk_div (by omega) (by omega) (by omega)]
theorem sq_wX {post : Int32 → Prop} {ke : Int32} {up cu ex cn se sc hd hs : Nat → Int32} {P : Nat → Bool} {c : Nat → Nat} (C : sq_CX P c up cu se sc) (B : sq_B c) {t : Nat} (ht : t < 6) (k : post (nI (sq_wt P c t))) : wpX_weightOf post (ke, up, cu, ex, cn, se, sc, hd, hs) (nI t) := by
  have key : ∀ m j, j + m = 16 → wX_weightOf_7 post (nI t) ke up cu ex cn se sc hd hs (m + 1) (nI (sq_nP P j)) (nI (sq_nH P c t j)) (nI j) := by
    intro m
    induction m with
    | zero =>
      intro j hj
      obtain rfl : j = 16 := by omega
      have a := sq_nPle P 16
      have b := sq_nHle P c t 16
      unfold sq_wt at k
      refine pk_le 16 16 (fun _ => pk_eq (sq_nH P c t 16) 0 (fun e => ?_) (fun e => ?_)) (fun z => absurd z (by omega))
      · rw [if_pos e] at k; exact k
      · rw [if_neg e] at k
        rw [sq_dv a e b]
        exact ⟨nI_ne0 (by omega) (by omega), k⟩
    | succ m ih =>
      intro j hj
      have ci : (nI (j * 6 + t)).toNatClampNeg = j * 6 + t := sq_c (by omega)
      have bj := B j (by omega) t ht
      have bh := sq_nHle P c t j
      refine pk_le 16 j (fun z => absurd z (by omega)) (fun _ => sq_pX C (by omega) (fun p => br_f sq_10 (nm_r (e' := nI (sq_nP P (j + 1))) (by rw [sq_nP1 p, ← nI_1]) ?_)) (fun p => br_t rfl (nm_r (nI_1 j) ?_)))
      · rw [sq_ix, ci]
        refine ⟨pk_in (j * 6 + t) 96 (by omega), pk_le (c (j * 6 + t)) 0 (fun e => nm_r (nI_1 j) ?_) (fun e => nm_r (by rw [sq_nH1 p e, ← nI_1]) (nm_r (nI_1 j) (ih (j + 1) (by omega)))) (C.2 j (by omega) p t ht)⟩
        rw [← sq_nH0 (P := P) (c := c) (t := t) (n := j) (fun z => by omega)]
        exact ih (j + 1) (by omega)
      · rw [← sq_nP0 p, ← sq_nH0 (P := P) (c := c) (t := t) (n := j) (fun z => p z.1)]
        exact ih (j + 1) (by omega)
  exact ⟨17, key 16 0 rfl⟩
theorem sq_wY {post : Int32 → Prop} {kf : Int32} {ey cm sh sd dn st hi so : Nat → Int32} {P : Nat → Bool} {c : Nat → Nat} (C : sq_CY P c sh sd dn st) (B : sq_B c) {t : Nat} (ht : t < 6) (k : post (nI (sq_wt P c t))) : wpY_weight post (kf, ey, cm, sh, sd, dn, st, hi, so) (nI t) := by
  have key : ∀ m j, j + m = 16 → wY_weight_15 post (nI t) kf ey cm sh sd dn st hi so (m + 1) (nI (sq_nH P c t j)) (nI j) := by
    intro m
    induction m with
    | zero =>
      intro j hj
      obtain rfl : j = 16 := by omega
      have a := sq_nPle P 16
      have b := sq_nHle P c t 16
      unfold sq_wt at k
      refine pk_le 16 16 (fun _ => pk_eq (sq_nH P c t 16) 0 (fun e => ?_) (fun e => sq_ipY C ?_)) (fun z => absurd z (by omega))
      · rw [if_pos e] at k; exact k
      · rw [if_neg e] at k
        rw [sq_dv a e b]
        exact ⟨nI_ne0 (by omega) (by omega), k⟩
    | succ m ih =>
      intro j hj
      have ci : (nI (j * 6 + t)).toNatClampNeg = j * 6 + t := sq_c (by omega)
      have bj := B j (by omega) t ht
      have bh := sq_nHle P c t j
      refine pk_le 16 j (fun z => absurd z (by omega)) (fun _ => sq_pY C (by omega) (fun p => br_f sq_10 ?_) (fun p => br_t rfl (nm_r (nI_1 j) ?_)))
      · rw [sq_ix, ci]
        refine ⟨pk_in (j * 6 + t) 96 (by omega), pk_le (c (j * 6 + t)) 0 (fun e => nm_r (nI_1 j) ?_) (fun e => nm_r (by rw [sq_nH1 p e, ← nI_1]) (nm_r (nI_1 j) (ih (j + 1) (by omega)))) (C.2 j (by omega) p t ht)⟩
        rw [← sq_nH0 (P := P) (c := c) (t := t) (n := j) (fun z => by omega)]
        exact ih (j + 1) (by omega)
      · rw [← sq_nH0 (P := P) (c := c) (t := t) (n := j) (fun z => p z.1)]
        exact ih (j + 1) (by omega)
  unfold wpY_weight
  exact sq_tY1 ht (br_f sq_10 ⟨17, key 16 0 rfl⟩)
theorem sq_sX {post : Int32 → Prop} {ke : Int32} {up cu ex cn se sc hd hs : Nat → Int32} {P : Nat → Bool} {c : Nat → Nat} (C : sq_CX P c up cu se sc) (B : sq_B c) {d : Nat} {T : Int32} (h16 : d < 16) (p : P d = true) (k : post (nI (sq_sm P c T d 6))) : wpX_scoreOf post (ke, up, cu, ex, cn, se, sc, hd, hs) (nI d) T := by
  have key : ∀ m t, t + m = 6 → wX_scoreOf_5 post (nI d) T ke up cu ex cn se sc hd hs (m + 1) (nI (sq_sm P c T d t)) (nI t) := by
    intro m
    induction m with
    | zero =>
      intro t ht
      obtain rfl : t = 6 := by omega
      exact pk_le 6 6 (fun _ => k) (fun z => absurd z (by omega))
    | succ m ih =>
      intro t ht
      have ci : (nI (d * 6 + t)).toNatClampNeg = d * 6 + t := sq_c (by omega)
      refine pk_le 6 t (fun z => absurd z (by omega)) (fun _ => br_c (fun b => ⟨pk_in (d * 6 + t) 96 (by omega) (sq_ix d t), sq_wX C B (by omega) ?_⟩) (fun b => nm_r (nI_1 t) ?_))
      · have b' : sq_bit T t = true := decide_eq_true b
        refine nm_r ?_ (nm_r (nI_1 t) (ih (t + 1) (by omega)))
        rw [sq_ix, ci, C.2 d h16 p t (by omega), sq_sm1 b', pk_mul, nI_add]
      · have b' : ¬ sq_bit T t = true := fun z => b (of_decide_eq_true z)
        rw [← sq_sm0 (P := P) (c := c) (d := d) b']
        exact ih (t + 1) (by omega)
  exact ⟨7, key 6 0 rfl⟩
theorem sq_sY {post : Int32 → Prop} {kf : Int32} {ey cm sh sd dn st hi so : Nat → Int32} {P : Nat → Bool} {c : Nat → Nat} (C : sq_CY P c sh sd dn st) (B : sq_B c) {d : Nat} {T : Int32} (h16 : d < 16) (p : P d = true) (k : post (nI (sq_sm P c T d 6))) : wpY_scoreOf post (kf, ey, cm, sh, sd, dn, st, hi, so) (nI d) T := by
  have key : ∀ m t, t + m = 6 → wY_scoreOf_5 post (nI d) T kf ey cm sh sd dn st hi so (m + 1) (nI (sq_sm P c T d t)) (nI t) := by
    intro m
    induction m with
    | zero =>
      intro t ht
      obtain rfl : t = 6 := by omega
      exact pk_le 6 6 (fun _ => k) (fun z => absurd z (by omega))
    | succ m ih =>
      intro t ht
      have ci : (nI (d * 6 + t)).toNatClampNeg = d * 6 + t := sq_c (by omega)
      refine pk_le 6 t (fun z => absurd z (by omega)) (fun _ => br_c (fun b => nm_r (nI_1 t) ?_) (fun b => ⟨pk_in (d * 6 + t) 96 (by omega) (sq_ix d t), sq_wY C B (by omega) ?_⟩))
      · rw [← sq_sm0 (P := P) (c := c) (d := d) (sq_bit0 b)]
        exact ih (t + 1) (by omega)
      · refine nm_r ?_ (nm_r (nI_1 t) (ih (t + 1) (by omega)))
        rw [sq_ix, ci, C.2 d h16 p t (by omega), sq_sm1 (sq_bit1 b), pk_mul, nI_add]
  exact ⟨7, key 6 0 rfl⟩
theorem i_vc_inPlay {k : Nat} {u : SX} {v : SY} (I : i_Rel k u v) (hk : k + 4 ≤ 2048) : wpX_inPlay (fun r => wpY_inPlay (fun r' => r' = r ∧ i_Rel (k + 4) u v) v) u := by
  obtain ⟨ke, up, cu, ex, cn, se, sc, hd, hs⟩ := u
  obtain ⟨kf, ey, cm, sh, sd, dn, st, hi, so⟩ := v
  obtain ⟨N, D, S, K⟩ := I
  obtain ⟨P, c, CX, CY, B⟩ := sq_ctx N S
  exact sq_ipX CX (sq_ipY CY ⟨rfl, N, D, S, K⟩)
theorem i_vc_weight {k : Nat} {u : SX} {v : SY} (I : i_Rel k u v) (hk : k + 4 ≤ 2048) (v1 : Int32) : wpX_weight (fun r => wpY_weight (fun r' => r' = r ∧ i_Rel (k + 4) u v) v v1) u v1 := by
  obtain ⟨ke, up, cu, ex, cn, se, sc, hd, hs⟩ := u
  obtain ⟨kf, ey, cm, sh, sd, dn, st, hi, so⟩ := v
  obtain ⟨N, D, S, K⟩ := I
  obtain ⟨P, c, CX, CY, B⟩ := sq_ctx N S
  have R : i_Rel (k + 4) (ke, up, cu, ex, cn, se, sc, hd, hs) (kf, ey, cm, sh, sd, dn, st, hi, so) := ⟨N, D, S, K⟩
  generalize i_Rel (k + 4) (ke, up, cu, ex, cn, se, sc, hd, hs) (kf, ey, cm, sh, sd, dn, st, hi, so) = Q at *
  unfold wpX_weight
  dsimp only
  by_cases h2 : v1 < 0 ∨ nI 6 ≤ v1
  · unfold wpY_weight
    exact sq_tX0 h2 (br_t rfl (sq_tY0 h2 (br_t rfl ⟨rfl, R⟩)))
  obtain ⟨t, ht, rfl⟩ : ∃ t, t < 6 ∧ v1 = nI t := by
    rcases pk_ix v1 (n := 6) (by omega) with h | h | h
    · exact absurd (Or.inl h) h2
    · exact absurd (Or.inr h) h2
    · exact h
  exact sq_tX1 ht (br_f sq_10 (sq_wX CX B ht (sq_wY CY B ht ⟨rfl, R⟩)))
