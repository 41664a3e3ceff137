/-! the component's questions -/
theorem en_2pow (i : Nat) : 2 ^ (2 * i) = 4 ^ i := by rw [Nat.pow_mul]
theorem en_2I (i : Nat) : (2 : Int32) * nI i = nI (2 * i) := by rw [show (2 : Int32) = nI 2 from rfl, pk_mul]
theorem en_shr {q i : Nat} (hq : q < 2 ^ 31) (hi : i ≤ 6) : nI q >>> (((2 : Int32) * nI i) &&& 31) = nI (q / 4 ^ i) := by
  rw [en_2I, pk_shrN hq _ (2 * i) (s_l (2 * i) (by omega)), en_2pow]
theorem en_shr_no {p : Int32} (hn : ∀ q sz, sz ≤ 6 → p = nI q → q < 2 ^ 31 → q / 4 ^ sz ≠ 1) {i : Nat} (hi : i ≤ 6) : ¬ p >>> (((2 : Int32) * nI i) &&& 31) = 1 := by
  intro h
  by_cases hp : p < 0
  · have e := pk_shr p (((2 : Int32) * nI i) &&& 31) (2 * i) (by rw [en_2I]; exact s_l (2 * i) (by omega))
    rw [h, Int.shiftRight_eq_div_pow] at e
    rw [Int32.lt_iff_toInt_lt, show (0 : Int32).toInt = 0 from by decide] at hp
    rw [show (1 : Int32).toInt = 1 from by decide] at e
    have hpos : (0 : Int) < ((2 ^ (2 * i) : Nat) : Int) := by
      have := Nat.two_pow_pos (2 * i)
      omega
    have := Int.ediv_neg_of_neg_of_pos hp hpos
    omega
  · obtain ⟨q, hq, e⟩ := nI_of hp
    rw [e, en_shr hq hi] at h
    have h2 : q / 4 ^ i ≤ q := Nat.div_le_self _ _
    exact hn q i hi e hq ((nI_eq (b := 1) (by omega) (by decide)).mp h)
theorem en_V_lt {q sz : Nat} (h6 : sz ≤ 6) (hq : q / 4 ^ sz = 1) : q < 8192 := by
  have h1 := Nat.div_add_mod q (4 ^ sz)
  have h2 := Nat.mod_lt q (Nat.pow_pos (n := sz) (show 0 < 4 by decide))
  have h3 := en_p6 h6
  rw [hq] at h1
  omega
section
variable {fd fc : Int32} {t L : Nat → Nat} {dr rk : Nat → Int32}
theorem xw_ps_yes (post : Int32 → Prop) {tx ln : Nat → Int32} {q sz : Nat} (h6 : sz ≤ 6) (hq : q / 4 ^ sz = 1) (hp : post (nI sz)) : ∀ (d i : Nat), i + d = sz → wX_patternSize_2 post (nI q) fd fc tx ln dr rk (d + 1) (nI i) := by
  have hlt := en_V_lt h6 hq
  intro d
  induction d with
  | zero =>
    intro i hi
    have hi' : i = sz := by omega
    subst hi'
    refine br_f (nI_nlt (a := 6) (by omega) (by decide)) (br_t ?_ hp)
    rw [en_shr (by omega) h6, hq]
    rfl
  | succ d ih =>
    intro i hi
    refine br_f (nI_nlt (a := 6) (by omega) (by decide)) (br_f ?_ (nm_r (nI_1 i) (ih (i + 1) (by omega))))
    rw [en_shr (by omega) (by omega)]
    intro z
    have h4 := en_pre hq (s := i) (by omega)
    have h2 : q / 4 ^ i ≤ q := Nat.div_le_self _ _
    have := (nI_eq (b := 1) (by omega) (by decide)).mp z
    omega
theorem xw_ps_no (post : Int32 → Prop) {tx ln : Nat → Int32} {p : Int32} (hn : ∀ q sz, sz ≤ 6 → p = nI q → q < 2 ^ 31 → q / 4 ^ sz ≠ 1) (hp : post (-1)) : ∀ (d i : Nat), i + d = 7 → wX_patternSize_2 post p fd fc tx ln dr rk (d + 1) (nI i) := by
  intro d
  induction d with
  | zero =>
    intro i hi
    exact br_t (nI_lt (a := 6) (by omega) (by omega)) hp
  | succ d ih =>
    intro i hi
    exact br_f (nI_nlt (a := 6) (by omega) (by decide)) (br_f (en_shr_no hn (by omega)) (nm_r (nI_1 i) (ih (i + 1) (by omega))))
/-- the pattern: its size, or none -/
def en_V (p : Int32) (q sz : Nat) : Prop := sz ≤ 6 ∧ q / 4 ^ sz = 1 ∧ p = nI q
theorem en_V_or (p : Int32) : (∃ q sz, en_V p q sz) ∨ ∀ q sz, sz ≤ 6 → p = nI q → q < 2 ^ 31 → q / 4 ^ sz ≠ 1 := by
  by_cases h : ∃ q sz, en_V p q sz
  · exact Or.inl h
  · exact Or.inr (fun q sz h6 hp _ hq => h ⟨q, sz, h6, hq, hp⟩)
theorem xw_ps (post : Int32 → Prop) {u : SX} {p : Int32} (hy : ∀ q sz, en_V p q sz → post (nI sz)) (hn : (∀ q sz, sz ≤ 6 → p = nI q → q < 2 ^ 31 → q / 4 ^ sz ≠ 1) → post (-1)) : wpX_patternSize post u p := by
  obtain ⟨a, b, c, d, e, f⟩ := u
  rcases en_V_or p with ⟨q, sz, h6, hq, hp⟩ | h
  · subst hp
    exact ⟨sz + 1, xw_ps_yes post h6 hq (hy q sz ⟨h6, hq, rfl⟩) sz 0 (by omega)⟩
  · exact ⟨8, xw_ps_no post h (hn h) 7 0 (by omega)⟩
theorem xw_st17 (post : Int32 → Prop) {ln : Nat → Int32} (ht : ∀ n, t n < 4) {n q sz : Nat} (h6 : sz ≤ 6) (hq : q < 8192) (hn : n + sz ≤ 96) (h : post (en_b (decide (en_bg t n sz = q)))) :
    ∀ (d j : Nat), j + d = sz → wX_standsAt_17 post (nI q) (nI sz) (nI n) fd fc (fun n => nI (t n)) ln dr rk (d + 1) (nI (en_bg t n j)) (nI j) := by
  intro d
  induction d with
  | zero =>
    intro j hj
    have hj' : j = sz := by omega
    subst hj'
    have h1 := en_bg_lt ht n j
    have h2 := en_p6 h6
    refine br_t (nI_le (by omega) (by omega)) ?_
    exact pk_eq (en_bg t n j) q (fun z => en_p1 h (decide_eq_true z)) (fun z => en_p0 h (decide_eq_false z))
  | succ d ih =>
    intro j hj
    refine br_f (nI_ge (by omega) (by omega)) ⟨?_, nm_r ?_ (nm_r (nI_1 j) (ih (j + 1) (by omega)))⟩
    · rw [nI_add]; exact vp_in_nI (by omega) (by decide)
    · rw [nI_add, nI_clamp (by omega)]
      show nI (en_bg t n j) * 4 + nI (t (n + j)) = nI (en_bg t n j * 4 + t (n + j))
      rw [show (4 : Int32) = nI 4 from rfl, pk_mul, nI_add]
theorem xw_stands (post : Int32 → Prop) (ht : ∀ n, t n < 4) (hL : ∀ s, L s ≤ 9) {n q sz : Nat} (hn : en_E L n = true) (h6 : sz ≤ 6) (hq : q / 4 ^ sz = 1) (h : post (en_b (en_sb L t (en_pd q sz) sz n))) : wpX_standsAt post (en_X fd fc t L dr rk) (nI q) (nI sz) (nI n) := by
  have bn := en_E_b hL hn
  have hlt := en_V_lt h6 hq
  unfold wpX_standsAt
  dsimp only
  refine xw_el _ bn.1 bn.2.1 ?_
  refine pk_le sz (en_ln L n) (fun hle => ⟨sz + 1, ?_⟩) (fun hgt => ?_)
  · have e : en_sb L t (en_pd q sz) sz n = decide (en_bg t n sz = q) := by
      have g := en_bg_iff ht hq n sz (Nat.le_refl _)
      rw [Nat.sub_self, Nat.pow_zero, Nat.div_one] at g
      rw [Bool.eq_iff_iff, en_sb_iff, decide_eq_true_eq, g]
      exact ⟨fun z => z.2.2, fun z => ⟨hn, hle, z⟩⟩
    rw [e] at h
    exact xw_st17 post ht h6 hlt (by omega) h sz 0 (by omega)
  · refine en_p0 h ?_
    rw [Bool.eq_false_iff]
    intro z
    have := (en_sb_iff.mp z).2.1
    omega
theorem xw_rank (post : Int32 → Prop) {c : Nat} (hc : c ≤ 60) {tx ln : Nat → Int32} (k : Int32) : ∀ (m : List Nat) (i : Nat), en_At rk i m → i + m.length = c → post (en_ix m i k) → wX_rank_2 post k fd (nI c) tx ln dr rk (m.length + 1) (nI i) := by
  intro m
  induction m with
  | nil =>
    intro i _ hi hp
    simp only [List.length_nil] at hi
    exact br_t (nI_le (by omega) (by omega)) hp
  | cons x m ih =>
    intro i a hi hp
    simp only [List.length_cons] at hi
    refine br_f (nI_ge (by omega) (by omega)) ⟨vp_in_nI (by omega) (by decide), ?_⟩
    rw [nI_clamp (by omega), a.1]
    have e : en_ix (x :: m) i k = if nI x = k then nI i else en_ix m (i + 1) k := rfl
    rw [e] at hp
    by_cases z : nI x = k
    · rw [if_pos z] at hp
      exact br_t z hp
    · rw [if_neg z] at hp
      exact br_f z (nm_r (nI_1 i) (ih (i + 1) a.2 (by omega) hp))
section
variable {q sz c : Nat}
theorem xw_count (ht : ∀ n, t n < 4) (hL : ∀ s, L s ≤ 9) (h6 : sz ≤ 6) (hq : q / 4 ^ sz = 1) (hc : c ≤ 60) (post : Int32 → Prop) : ∀ (m : List Nat) (i f : Nat), en_At rk i m → i + m.length = c → (∀ x, x ∈ m → en_E L x = true) →
    post (nI (f + m.countP (en_sb L t (en_pd q sz) sz))) → wX_count_17 post (nI q) (nI sz) fd (nI c) (fun n => nI (t n)) (fun s => nI (L s)) dr rk (m.length + 1) (nI f) (nI i) := by
  intro m
  induction m with
  | nil =>
    intro i f _ hi _ hp
    simp only [List.length_nil] at hi
    exact br_t (nI_le (by omega) (by omega)) hp
  | cons x m ih =>
    intro i f a hi hE hp
    simp only [List.length_cons] at hi
    refine br_f (nI_ge (by omega) (by omega)) ⟨vp_in_nI (by omega) (by decide), ?_⟩
    rw [nI_clamp (by omega), a.1]
    refine xw_stands _ ht hL (hE x (by simp)) h6 hq ?_
    have hE' : ∀ y, y ∈ m → en_E L y = true := fun y hy => hE y (by simp [hy])
    cases hS : en_sb L t (en_pd q sz) sz x with
    | false =>
      rw [List.countP_cons_of_neg (by rw [hS]; decide)] at hp
      exact br_t (show en_b false = 0 by decide) (nm_r (nI_1 i) (ih (i + 1) f a.2 (by omega) hE' hp))
    | true =>
      rw [List.countP_cons_of_pos hS, show f + (m.countP (en_sb L t (en_pd q sz) sz) + 1) = f + 1 + m.countP (en_sb L t (en_pd q sz) sz) from by omega] at hp
      exact br_f (show ¬ en_b true = 0 by decide) (nm_r (nI_1 f) (nm_r (nI_1 i) (ih (i + 1) (f + 1) a.2 (by omega) hE' hp)))
theorem xw_place (ht : ∀ n, t n < 4) (hL : ∀ s, L s ≤ 9) (h6 : sz ≤ 6) (hq : q / 4 ^ sz = 1) (hc : c ≤ 60) (post : Int32 → Prop) (k : Int32) : ∀ (m : List Nat) (i f : Nat), en_At rk i m → i + m.length = c → (∀ x, x ∈ m → en_E L x = true) →
    post (en_pk (m.filter (en_sb L t (en_pd q sz) sz)) f k) → wX_place_18 post (nI q) k (nI sz) fd (nI c) (fun n => nI (t n)) (fun s => nI (L s)) dr rk (m.length + 1) (nI f) (nI i) := by
  intro m
  induction m with
  | nil =>
    intro i f _ hi _ hp
    simp only [List.length_nil] at hi
    exact br_t (nI_le (by omega) (by omega)) hp
  | cons x m ih =>
    intro i f a hi hE hp
    simp only [List.length_cons] at hi
    have hin : vp_in (nI i) 60 := vp_in_nI (by omega) (by decide)
    refine br_f (nI_ge (by omega) (by omega)) ⟨hin, ?_⟩
    rw [nI_clamp (by omega), a.1]
    refine xw_stands _ ht hL (hE x (by simp)) h6 hq ?_
    have hE' : ∀ y, y ∈ m → en_E L y = true := fun y hy => hE y (by simp [hy])
    cases hS : en_sb L t (en_pd q sz) sz x with
    | false =>
      rw [List.filter_cons_of_neg (by rw [hS]; decide)] at hp
      exact br_t (show en_b false = 0 by decide) (nm_r (nI_1 i) (ih (i + 1) f a.2 (by omega) hE' hp))
    | true =>
      rw [List.filter_cons_of_pos hS] at hp
      have e : en_pk (x :: m.filter (en_sb L t (en_pd q sz) sz)) f k = if nI f = k then nI x else en_pk (m.filter (en_sb L t (en_pd q sz) sz)) (f + 1) k := rfl
      rw [e] at hp
      refine br_f (show ¬ en_b true = 0 by decide) ?_
      by_cases z : nI f = k
      · rw [if_pos z] at hp
        exact br_t z ⟨hin, hp⟩
      · rw [if_neg z] at hp
        exact br_f z (nm_r (nI_1 f) (nm_r (nI_1 i) (ih (i + 1) (f + 1) a.2 (by omega) hE' hp)))
theorem en_fo_t {Q : Nat → Bool} {f : Nat → Int32} {s : Int32} {x : Nat} {m : List Nat} (h : Q x = true) : en_fo Q f s (x :: m) = en_fo Q f (s ||| f x) m := by
  unfold en_fo
  rw [List.foldl_cons, if_pos h]
theorem en_fo_f {Q : Nat → Bool} {f : Nat → Int32} {s : Int32} {x : Nat} {m : List Nat} (h : Q x = false) : en_fo Q f s (x :: m) = en_fo Q f s m := by
  unfold en_fo
  rw [List.foldl_cons, if_neg (by rw [h]; decide)]
theorem xw_slots (ht : ∀ n, t n < 4) (hL : ∀ s, L s ≤ 9) (h6 : sz ≤ 6) (hq : q / 4 ^ sz = 1) (hc : c ≤ 60) (post : Int32 → Prop) : ∀ (m : List Nat) (i : Nat) (f : Int32), en_At rk i m → i + m.length = c → (∀ x, x ∈ m → en_E L x = true) →
    post (en_fo (en_sb L t (en_pd q sz) sz) (fun n => en_sh (n / 16)) f m) → wX_slots_17 post (nI q) (nI sz) fd (nI c) (fun n => nI (t n)) (fun s => nI (L s)) dr rk (m.length + 1) f (nI i) := by
  intro m
  induction m with
  | nil =>
    intro i f _ hi _ hp
    simp only [List.length_nil] at hi
    exact br_t (nI_le (by omega) (by omega)) hp
  | cons x m ih =>
    intro i f a hi hE hp
    simp only [List.length_cons] at hi
    have hin : vp_in (nI i) 60 := vp_in_nI (by omega) (by decide)
    have bx := en_E_b hL (hE x (by simp))
    refine br_f (nI_ge (by omega) (by omega)) ⟨hin, ?_⟩
    rw [nI_clamp (by omega), a.1]
    refine xw_stands _ ht hL (hE x (by simp)) h6 hq ?_
    have hE' : ∀ y, y ∈ m → en_E L y = true := fun y hy => hE y (by simp [hy])
    cases hS : en_sb L t (en_pd q sz) sz x with
    | false =>
      rw [en_fo_f hS] at hp
      exact br_t (show en_b false = 0 by decide) (nm_r (nI_1 i) (ih (i + 1) f a.2 (by omega) hE' hp))
    | true =>
      rw [en_fo_t hS] at hp
      refine br_f (show ¬ en_b true = 0 by decide) ⟨hin, ?_⟩
      refine xw_slot _ (by omega) ?_
      exact nm_e (nm_r (nI_1 i) (ih (i + 1) _ a.2 (by omega) hE' hp))
theorem xw_after (ht : ∀ n, t n < 4) (hL : ∀ s, L s ≤ 9) (h6 : sz ≤ 6) (hq : q / 4 ^ sz = 1) (hc : c ≤ 60) (post : Int32 → Prop) : ∀ (m : List Nat) (i : Nat) (f : Int32), en_At rk i m → i + m.length = c → (∀ x, x ∈ m → en_E L x = true) →
    post (en_fo (fun n => en_sb L t (en_pd q sz) sz n && decide (sz < en_ln L n)) (fun n => en_sh (t (n + sz))) f m) → wX_after_17 post (nI q) (nI sz) fd (nI c) (fun n => nI (t n)) (fun s => nI (L s)) dr rk (m.length + 1) f (nI i) := by
  intro m
  induction m with
  | nil =>
    intro i f _ hi _ hp
    simp only [List.length_nil] at hi
    exact br_t (nI_le (by omega) (by omega)) hp
  | cons x m ih =>
    intro i f a hi hE hp
    simp only [List.length_cons] at hi
    have hin : vp_in (nI i) 60 := vp_in_nI (by omega) (by decide)
    have bx := en_E_b hL (hE x (by simp))
    refine br_f (nI_ge (by omega) (by omega)) ⟨hin, nm_r (e' := nI x) (by rw [nI_clamp (by omega), a.1]) ?_⟩
    refine xw_stands _ ht hL (hE x (by simp)) h6 hq ?_
    have hE' : ∀ y, y ∈ m → en_E L y = true := fun y hy => hE y (by simp [hy])
    cases hS : en_sb L t (en_pd q sz) sz x with
    | false =>
      rw [en_fo_f (by rw [hS]; rfl)] at hp
      exact br_t (show en_b false = 0 by decide) (nm_r (nI_1 i) (ih (i + 1) f a.2 (by omega) hE' hp))
    | true =>
      refine br_f (show ¬ en_b true = 0 by decide) ?_
      refine xw_el _ bx.1 bx.2.1 ?_
      refine pk_le (en_ln L x) sz (fun z => ?_) (fun z => ⟨?_, ?_⟩)
      · rw [en_fo_f (by rw [hS, decide_eq_false (by omega)]; rfl)] at hp
        exact nm_r (nI_1 i) (ih (i + 1) f a.2 (by omega) hE' hp)
      · rw [nI_add]; exact vp_in_nI (by omega) (by decide)
      · rw [en_fo_t (by rw [hS, decide_eq_true z]; rfl)] at hp
        refine nm_r (e' := f ||| en_sh (t (x + sz))) ?_ (nm_r (nI_1 i) (ih (i + 1) _ a.2 (by omega) hE' hp))
        rw [nI_add, nI_clamp (by omega)]
        rfl
theorem xw_placeOf (post : Int32 → Prop) {u : SX} {n : Nat} (hn : n < 2 ^ 31) (h : post (nI (n % 16))) : wpX_placeOf post u (nI n) := by
  obtain ⟨a, b, c, d, e, f⟩ := u
  refine ⟨en_n16, ?_⟩
  rw [en_m16 hn]
  exact h
theorem xw_bef (ht : ∀ n, t n < 4) (hL : ∀ s, L s ≤ 9) (h6 : sz ≤ 6) (hq : q / 4 ^ sz = 1) (hc : c ≤ 60) (post : Int32 → Prop) : ∀ (m : List Nat) (i : Nat) (f : Int32), en_At rk i m → i + m.length = c → (∀ x, x ∈ m → en_E L x = true) →
    post (en_fo (fun n => en_sb L t (en_pd q sz) sz n && decide (0 < n % 16)) (fun n => en_sh (t (n - 1))) f m) → wX_before_17 post (nI q) (nI sz) fd (nI c) (fun n => nI (t n)) (fun s => nI (L s)) dr rk (m.length + 1) f (nI i) := by
  intro m
  induction m with
  | nil =>
    intro i f _ hi _ hp
    simp only [List.length_nil] at hi
    exact br_t (nI_le (by omega) (by omega)) hp
  | cons x m ih =>
    intro i f a hi hE hp
    simp only [List.length_cons] at hi
    have hin : vp_in (nI i) 60 := vp_in_nI (by omega) (by decide)
    have bx := en_E_b hL (hE x (by simp))
    refine br_f (nI_ge (by omega) (by omega)) ⟨hin, nm_r (e' := nI x) (by rw [nI_clamp (by omega), a.1]) ?_⟩
    refine xw_stands _ ht hL (hE x (by simp)) h6 hq ?_
    have hE' : ∀ y, y ∈ m → en_E L y = true := fun y hy => hE y (by simp [hy])
    cases hS : en_sb L t (en_pd q sz) sz x with
    | false =>
      rw [en_fo_f (by rw [hS]; rfl)] at hp
      exact br_t (show en_b false = 0 by decide) (nm_r (nI_1 i) (ih (i + 1) f a.2 (by omega) hE' hp))
    | true =>
      refine br_f (show ¬ en_b true = 0 by decide) ?_
      refine xw_placeOf _ (by omega) ?_
      refine pk_le (x % 16) 0 (fun z => ?_) (fun z => ⟨?_, ?_⟩)
      · rw [en_fo_f (by rw [hS, decide_eq_false (by omega)]; rfl)] at hp
        exact nm_r (nI_1 i) (ih (i + 1) f a.2 (by omega) hE' hp)
      · rw [show nI x - 1 = nI (x - 1) from pk_sub (b := 1) (by omega)]; exact vp_in_nI (by omega) (by decide)
      · rw [en_fo_t (by rw [hS, decide_eq_true z]; rfl)] at hp
        refine nm_r (e' := f ||| en_sh (t (x - 1))) ?_ (nm_r (nI_1 i) (ih (i + 1) _ a.2 (by omega) hE' hp))
        rw [show nI x - 1 = nI (x - 1) from pk_sub (b := 1) (by omega), nI_clamp (by omega)]
        rfl
end
end
