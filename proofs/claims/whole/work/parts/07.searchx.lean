/-! the component's search: an insertion into a sorted row -/
def sq_SO (S : Nat → Nat) (m N : Nat) (h : Nat → Nat) : Prop := N ≤ m ∧ (∀ i, i < N → h i < m ∧ 0 < S (h i)) ∧
  (∀ i j, i < j → j < N → S (h j) < S (h i) ∨ (S (h j) = S (h i) ∧ h i < h j)) ∧ (∀ d, d < m → 0 < S d → ∃ i, i < N ∧ h i = d)
def sq_AR (S : Nat → Nat) (N : Nat) (h : Nat → Nat) (hd hs : Nat → Int32) : Prop := ∀ i, i < N → hd i = nI (h i) ∧ hs i = nI (S (h i))
def sq_ins (h : Nat → Nat) (q d : Nat) : Nat → Nat := fun i => if i < q then h i else if i = q then d else h (i - 1)
theorem sq_in1 {h : Nat → Nat} {q d i : Nat} (z : i < q) : sq_ins h q d i = h i := if_pos z
theorem sq_in2 {h : Nat → Nat} {q d : Nat} : sq_ins h q d q = d := by
  unfold sq_ins
  rw [if_neg (by omega), if_pos rfl]
theorem sq_in3 {h : Nat → Nat} {q d i : Nat} (z : q < i) : sq_ins h q d i = h (i - 1) := by
  unfold sq_ins
  rw [if_neg (by omega), if_neg (by omega)]
theorem sq_SO0 (S : Nat → Nat) (h : Nat → Nat) : sq_SO S 0 0 h :=
  ⟨Nat.le_refl 0, fun i z => absurd z (by omega), fun i j _ z => absurd z (by omega), fun d z => absurd z (by omega)⟩
theorem sq_SOs {S h : Nat → Nat} {m N : Nat} (H : sq_SO S m N h) (z : S m = 0) : sq_SO S (m + 1) N h := by
  refine ⟨by have := H.1; omega, fun i hi => ⟨by have := (H.2.1 i hi).1; omega, (H.2.1 i hi).2⟩, H.2.2.1, fun d hd p => ?_⟩
  by_cases e : d = m
  · subst e; omega
  · exact H.2.2.2 d (by omega) p
theorem sq_SOi {S h : Nat → Nat} {m N q : Nat} (H : sq_SO S m N h) (p : 0 < S m) (hq : q ≤ N) (h1 : 0 < q → S m ≤ S (h (q - 1))) (h2 : ∀ i, q ≤ i → i < N → S (h i) < S m) : sq_SO S (m + 1) (N + 1) (sq_ins h q m) := by
  obtain ⟨a1, a2, a3, a4⟩ := H
  refine ⟨by omega, fun i hi => ?_, fun i j hij hj => ?_, fun d hd pd => ?_⟩
  · rcases Nat.lt_trichotomy i q with z | z | z
    · rw [sq_in1 z]; have := a2 i (by omega); exact ⟨by omega, this.2⟩
    · subst z; rw [sq_in2]; exact ⟨by omega, p⟩
    · rw [sq_in3 z]; have := a2 (i - 1) (by omega); exact ⟨by omega, this.2⟩
  · rcases Nat.lt_trichotomy j q with z | z | z
    · rw [sq_in1 z, sq_in1 (show i < q by omega)]; exact a3 i j hij (by omega)
    · subst z
      rw [sq_in2, sq_in1 hij]
      have g := h1 (by omega)
      have b := (a2 i (by omega)).1
      by_cases e : i = j - 1
      · subst e; omega
      · have := a3 i (j - 1) (by omega) (by omega); omega
    · rw [sq_in3 z]
      rcases Nat.lt_trichotomy i q with y | y | y
      · rw [sq_in1 y]; exact a3 i (j - 1) (by omega) (by omega)
      · subst y; rw [sq_in2]; exact Or.inl (h2 (j - 1) (by omega) (by omega))
      · rw [sq_in3 y]; exact a3 (i - 1) (j - 1) (by omega) (by omega)
  · by_cases e : d = m
    · exact ⟨q, by omega, by rw [sq_in2, e]⟩
    · obtain ⟨i, hi, e'⟩ := a4 d (by omega) pd
      by_cases z : i < q
      · exact ⟨i, by omega, by rw [sq_in1 z, e']⟩
      · refine ⟨i + 1, by omega, ?_⟩
        rw [sq_in3 (by omega), Nat.add_sub_cancel, e']
theorem sq_h55 {post : SX → Prop} {up cu ex cn se sc : Nat → Int32} {S h : Nat → Nat} {N q d : Nat} (gd gs : Nat → Int32) (hq : q ≤ N) (hN : N ≤ d) (h16 : d < 16)
    (A1 : ∀ i, i < q → gd i = nI (h i) ∧ gs i = nI (S (h i))) (A2 : ∀ i, q < i → i ≤ N → gd i = nI (h (i - 1)) ∧ gs i = nI (S (h (i - 1))))
    (k : ∀ fd fs, sq_AR S (N + 1) (sq_ins h q d) fd fs → post (nI (N + 1), up, cu, ex, cn, se, sc, fd, fs)) : wX_insertHit_55 post (nI d) (nI (S d)) (nI q) (nI N) up cu ex cn se sc gd gs := by
  have c : (nI q).toNatClampNeg = q := sq_c (by omega)
  have v : vp_in (nI q) 16 := pk_in q 16 (by omega)
  refine ⟨v, nm_r (e' := upd gd q (nI d)) (by rw [c]) ⟨v, nm_r (e' := upd gs q (nI (S d))) (by rw [c]) (nm_r (nI_1 N) (k _ _ (fun i hi => ?_)))⟩⟩
  rcases Nat.lt_trichotomy i q with z | z | z
  · rw [sq_in1 z, pk_un (by omega), pk_un (by omega)]; exact A1 i z
  · subst z; rw [sq_in2, pk_us, pk_us]; exact ⟨rfl, rfl⟩
  · rw [sq_in3 z, pk_un (by omega), pk_un (by omega)]; exact A2 i z (by omega)
theorem sq_h5 {post : SX → Prop} {up cu ex cn se sc : Nat → Int32} {S h : Nat → Nat} {N d : Nat} (hN : N ≤ d) (h16 : d < 16) (hb : S d < 20000) (hB : ∀ i, i < N → S (h i) < 20000)
    (k : ∀ q fd fs, q ≤ N → (0 < q → S d ≤ S (h (q - 1))) → (∀ i, q ≤ i → i < N → S (h i) < S d) → sq_AR S (N + 1) (sq_ins h q d) fd fs → post (nI (N + 1), up, cu, ex, cn, se, sc, fd, fs)) :
    ∀ q (gd gs : Nat → Int32), q ≤ N → (∀ i, i < q → gd i = nI (h i) ∧ gs i = nI (S (h i))) → (∀ i, q < i → i ≤ N → gd i = nI (h (i - 1)) ∧ gs i = nI (S (h (i - 1)))) → (∀ i, q ≤ i → i < N → S (h i) < S d) →
      wX_insertHit_5 post (nI d) (nI (S d)) (nI N) (q + 1) (nI q) up cu ex cn se sc gd gs := by
  intro q
  induction q with
  | zero =>
    intro gd gs hq A1 A2 A3
    exact pk_le 0 0 (fun _ => sq_h55 gd gs hq hN h16 A1 A2 (fun fd fs F => k 0 fd fs hq (fun z => absurd z (by omega)) A3 F)) (fun z => absurd z (by omega))
  | succ q ih =>
    intro gd gs hq A1 A2 A3
    have c : (nI q).toNatClampNeg = q := sq_c (by omega)
    have c1 : (nI (q + 1)).toNatClampNeg = q + 1 := sq_c (by omega)
    have v : vp_in (nI (q + 1) - 1) 16 := pk_in q 16 (by omega) (nI_pred q)
    have v1 : vp_in (nI (q + 1)) 16 := pk_in (q + 1) 16 (by omega)
    have hb' := hB q (by omega)
    refine pk_le (q + 1) 0 (fun z => absurd z (by omega)) (fun _ => ⟨v, pk_le (S d) (S (h q)) (fun z => ?_) (fun z => ?_) rfl (by rw [nI_pred, c]; exact (A1 q (by omega)).2)⟩)
    · exact sq_h55 gd gs hq hN h16 A1 A2 (fun fd fs F => k (q + 1) fd fs hq (fun _ => z) A3 F)
    · refine ⟨v, v1, nm_r (e' := upd gd (q + 1) (gd q)) (by rw [c1, nI_pred, c]) ⟨v, v1, nm_r (e' := upd gs (q + 1) (gs q)) (by rw [c1, nI_pred, c]) (nm_r (pk_m1 q) (ih _ _ (by omega) (fun i hi => ?_) (fun i hi hi' => ?_) (fun i hi hi' => ?_)))⟩⟩
      · rw [pk_un (by omega), pk_un (by omega)]; exact A1 i (by omega)
      · by_cases e : i = q + 1
        · subst e; rw [pk_us, pk_us]; exact A1 q (by omega)
        · rw [pk_un e, pk_un e]; exact A2 i (by omega) hi'
      · by_cases e : i = q
        · subst e; exact z
        · exact A3 i (by omega) hi'
theorem sq_hI {post : SX → Prop} {up cu ex cn se sc hd hs : Nat → Int32} {S h : Nat → Nat} {N d : Nat} (h16 : d < 16) (p : 0 < S d) (hB : ∀ e, e < 16 → S e < 20000) (H : sq_SO S d N h) (A : sq_AR S N h hd hs)
    (k : ∀ h' fd fs, sq_SO S (d + 1) (N + 1) h' → sq_AR S (N + 1) h' fd fs → post (nI (N + 1), up, cu, ex, cn, se, sc, fd, fs)) : wpX_insertHit post (nI N, up, cu, ex, cn, se, sc, hd, hs) (nI d) (nI (S d)) := by
  refine ⟨N + 1, ?_⟩
  have hN := H.1
  refine sq_h5 hN h16 (hB d h16) (fun i hi => hB _ (by have := (H.2.1 i hi).1; omega)) (fun q fd fs hq h1 h2 F => k _ fd fs (sq_SOi H p hq h1 h2) F) N hd hs (Nat.le_refl N) A (fun i z y => absurd z (by omega)) (fun i z y => absurd z (by omega))
theorem sq_seX {post : Int32 → SX → Prop} {up cu ex cn se sc : Nat → Int32} {P : Nat → Bool} {c : Nat → Nat} (C : sq_CX P c up cu se sc) (B : sq_B c) {T k : Int32}
    (fin : ∀ N h gd gs, sq_SO (sq_sv P c T) 16 N h → sq_AR (sq_sv P c T) N h gd gs → (0 ≤ k → wX_search_56 post k (nI N) up cu ex cn se sc gd gs) ∧ (¬ 0 ≤ k → wX_search_56 post 0 (nI N) up cu ex cn se sc gd gs)) :
    ∀ m j N h gd gs, j + m = 16 → sq_SO (sq_sv P c T) j N h → sq_AR (sq_sv P c T) N h gd gs → wX_search_7 post T k (m + 1) (nI j) (nI N) up cu ex cn se sc gd gs := by
  intro m
  induction m with
  | zero =>
    intro j N h gd gs hj H A
    obtain rfl : j = 16 := by omega
    exact pk_le 16 16 (fun _ => fin N h gd gs H A) (fun z => absurd z (by omega))
  | succ m ih =>
    intro j N h gd gs hj H A
    have b := sq_svle (P := P) (T := T) B (d := j) (by omega)
    refine pk_le 16 j (fun z => absurd z (by omega)) (fun h16 => sq_pX C h16 (fun p => br_f sq_10 (sq_sX C B h16 p ?_)) (fun p => br_t rfl (nm_r (nI_1 j) (ih (j + 1) N h gd gs (by omega) (sq_SOs H (if_neg p)) A))))
    have e : sq_sm P c T j 6 = sq_sv P c T j := (if_pos p).symm
    rw [e]
    refine pk_le (sq_sv P c T j) 0 (fun z => nm_r (nI_1 j) (ih (j + 1) N h gd gs (by omega) (sq_SOs H (by omega)) A)) (fun z => ?_)
    exact sq_hI h16 z (fun e he => sq_svle B he) H A (fun h' fd fs H' A' => nm_r (nI_1 j) (ih (j + 1) (N + 1) h' fd fs (by omega) H' A'))
theorem sq_56 {post : Int32 → SX → Prop} {up cu ex cn se sc hd hs : Nat → Int32} {N z : Nat} (hN : N ≤ 16) (hz : z < 2 ^ 31) (k : post (nI (min N z)) (nI (min N z), up, cu, ex, cn, se, sc, hd, hs)) : wX_search_56 post (nI z) (nI N) up cu ex cn se sc hd hs := by
  refine pk_le N z (fun y => ?_) (fun y => ?_)
  · rw [Nat.min_eq_left y] at k; exact k
  · rw [Nat.min_eq_right (by omega)] at k; exact k
