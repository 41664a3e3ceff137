section
/-! rows pasted from kit/rows -/
theorem pk_us {f : Nat → Int32} {k : Nat} {x : Int32} : upd f k x k = x := if_pos rfl
theorem pk_un {f : Nat → Int32} {k j : Nat} {x : Int32} (h : j ≠ k) : upd f k x j = f j := if_neg h
theorem pk_sub {a b : Nat} (h : b ≤ a) : nI a - nI b = nI (a - b) := by
  obtain ⟨c, rfl⟩ : ∃ c, a = c + b := ⟨a - b, by omega⟩
  rw [← nI_add, Int32.add_sub_cancel, Nat.add_sub_cancel]
theorem pk_m1 (n : Nat) : nI (n + 1) + (-1) = nI n := by
  rw [← nI_1, Int32.add_assoc, show (1 : Int32) + (-1) = 0 from rfl, Int32.add_zero]
theorem pk_mul (a b : Nat) : nI a * nI b = nI (a * b) := (Int32.ofNat_mul a b).symm
theorem pk_div {a d : Nat} (ha : a < 2 ^ 31) (h0 : 0 < d) (hd : d < 2 ^ 31) : nI a / nI d = nI (a / d) := by
  apply Int32.toInt_inj.mp
  rw [lg_idiv_nonneg (by rw [nI_toInt ha]; omega) (by rw [nI_toInt hd]; omega), nI_toInt ha, nI_toInt hd, nI_toInt (Nat.lt_of_le_of_lt (Nat.div_le_self a d) ha)]
  first | rfl | exact (Int.natCast_ediv _ _).symm
theorem pk_rem {a d : Nat} (ha : a < 2 ^ 31) (h0 : 0 < d) (hd : d < 2 ^ 31) : nI a - nI a / nI d * nI d = nI (a % d) := by
  rw [pk_div ha h0 hd, pk_mul, pk_sub (Nat.div_mul_le_self a d)]
  exact congrArg nI (by have := Nat.div_add_mod' a d; omega)
theorem pk_ix (x : Int32) {n : Nat} (hn : n < 2 ^ 31) : x < 0 ∨ nI n ≤ x ∨ ∃ j : Nat, j < n ∧ x = nI j := by
  by_cases h : x < 0
  · exact Or.inl h
  · obtain ⟨j, hj, rfl⟩ := nI_of h
    by_cases h2 : j < n
    · exact Or.inr (Or.inr ⟨j, h2, rfl⟩)
    · exact Or.inr (Or.inl (nI_le (by omega) hj))
theorem pk_le {x y : Int32} {A B : Prop} (a b : Nat) (f : a ≤ b → A) (g : b < a → B) (hx : x = nI a := by rfl) (hy : y = nI b := by rfl) (ha : a < 2 ^ 31 := by omega) (hb : b < 2 ^ 31 := by omega) : (x ≤ y → A) ∧ (¬ x ≤ y → B) := by
  subst hx hy
  rw [nI_leI ha hb]
  exact ⟨f, fun z => g (by omega)⟩
theorem pk_lt {x y : Int32} {A B : Prop} (a b : Nat) (f : a < b → A) (g : b ≤ a → B) (hx : x = nI a := by rfl) (hy : y = nI b := by rfl) (ha : a < 2 ^ 31 := by omega) (hb : b < 2 ^ 31 := by omega) : (x < y → A) ∧ (¬ x < y → B) := by
  subst hx hy
  rw [nI_ltI ha hb]
  exact ⟨f, fun z => g (by omega)⟩
theorem pk_eq {x y : Int32} {A B : Prop} (a b : Nat) (f : a = b → A) (g : a ≠ b → B) (hx : x = nI a := by rfl) (hy : y = nI b := by rfl) (ha : a < 2 ^ 31 := by omega) (hb : b < 2 ^ 31 := by omega) : (x = y → A) ∧ (¬ x = y → B) := by
  subst hx hy
  rw [nI_eq ha hb]
  exact ⟨f, g⟩
theorem pk_in {x : Int32} (n N : Nat) (h : n < N) (hx : x = nI n := by rfl) (hN : N < 2 ^ 31 := by omega) : vp_in x N := by
  subst hx
  exact vp_in_nI h hN
theorem pk_cl {x : Int32} (n : Nat) (hx : x = nI n := by rfl) (h : n < 2 ^ 31 := by omega) : x.toNatClampNeg = n := by
  subst hx
  exact nI_clamp h
theorem pk_tn {n : Nat} (h : n < 2 ^ 32) : (nI n).toBitVec.toNat = n := Nat.mod_eq_of_lt h
theorem pk_shr (a s : Int32) (k : Nat) (hs : (s.toBitVec.smod 32).toNat = k) : (a >>> s).toInt = a.toInt >>> k := by
  show (a.toBitVec.sshiftRight (s.toBitVec.smod 32).toNat).toInt = _
  rw [hs, BitVec.toInt_sshiftRight]
  rfl
theorem pk_shrN {n : Nat} (h : n < 2 ^ 31) (s : Int32) (k : Nat) (hs : (s.toBitVec.smod 32).toNat = k) : nI n >>> s = nI (n / 2 ^ k) := by
  apply Int32.toInt_inj.mp
  have h2 : n / 2 ^ k ≤ n := Nat.div_le_self _ _
  rw [pk_shr _ _ k hs, nI_toInt h, nI_toInt (by omega), Int.shiftRight_eq_div_pow]
  rfl
theorem pk_loop {σ : Type} (W : Nat → Nat → σ → Prop) (I : Nat → σ → Prop) (e i0 : Nat) (s : σ) (hi : i0 ≤ e) (h0 : I i0 s) (hx : ∀ n s, I e s → W (n + 1) e s)
    (hs : ∀ n i s, i < e → I i s → (∀ s', I (i + 1) s' → W n (i + 1) s') → W (n + 1) i s) : ∃ n, W n i0 s :=
  ⟨e + 1, loop_i W I e hx hs (e + 1) i0 s hi (by omega) h0⟩
theorem s_l : ∀ n, n < 32 → ((nI n &&& 31).toBitVec.smod 32).toNat = n := by decide +kernel
end
section
/-! words: what two share, their order; the order of the endings -/
def en_cp : List Nat → List Nat → Nat
  | [], _ => 0
  | _ :: _, [] => 0
  | x :: xs, y :: ys => if x = y then en_cp xs ys + 1 else 0
def en_lx : List Nat → List Nat → Bool
  | [], [] => false
  | [], _ :: _ => true
  | _ :: _, [] => false
  | x :: xs, y :: ys => decide (x < y) || (decide (x = y) && en_lx xs ys)
theorem en_lx_irr : ∀ x : List Nat, en_lx x x = false := by
  intro x
  induction x with
  | nil => rfl
  | cons a xs ih => simp [en_lx, ih]
theorem en_lx_tr : ∀ x y z : List Nat, en_lx x y = true → en_lx y z = true → en_lx x z = true := by
  intro x
  induction x with
  | nil =>
    intro y z h1 h2
    cases y with
    | nil => simp [en_lx] at h1
    | cons b ys =>
      cases z with
      | nil => simp [en_lx] at h2
      | cons c zs => simp [en_lx]
  | cons a xs ih =>
    intro y z h1 h2
    cases y with
    | nil => simp [en_lx] at h1
    | cons b ys =>
      cases z with
      | nil => simp [en_lx] at h2
      | cons c zs =>
        simp only [en_lx, Bool.or_eq_true, Bool.and_eq_true, decide_eq_true_eq] at h1 h2 ⊢
        rcases h1 with h1 | ⟨e1, h1⟩
        · rcases h2 with h2 | ⟨e2, h2⟩
          · exact Or.inl (by omega)
          · exact Or.inl (by omega)
        · rcases h2 with h2 | ⟨e2, h2⟩
          · exact Or.inl (by omega)
          · exact Or.inr ⟨by omega, ih ys zs h1 h2⟩
theorem en_lx_tot : ∀ x y : List Nat, en_lx x y = true ∨ x = y ∨ en_lx y x = true := by
  intro x
  induction x with
  | nil =>
    intro y
    cases y with
    | nil => exact Or.inr (Or.inl rfl)
    | cons b ys => exact Or.inl rfl
  | cons a xs ih =>
    intro y
    cases y with
    | nil => exact Or.inr (Or.inr rfl)
    | cons b ys =>
      simp only [en_lx, Bool.or_eq_true, Bool.and_eq_true, decide_eq_true_eq, List.cons.injEq]
      rcases Nat.lt_trichotomy a b with h | h | h
      · exact Or.inl (Or.inl h)
      · rcases ih ys with h2 | h2 | h2
        · exact Or.inl (Or.inr ⟨h, h2⟩)
        · exact Or.inr (Or.inl ⟨h, h2⟩)
        · exact Or.inr (Or.inr (Or.inr ⟨h.symm, h2⟩))
      · exact Or.inr (Or.inr (Or.inl h))
theorem en_cp_sym : ∀ x y : List Nat, en_cp x y = en_cp y x := by
  intro x
  induction x with
  | nil => intro y; cases y <;> rfl
  | cons a xs ih =>
    intro y
    cases y with
    | nil => rfl
    | cons b ys =>
      simp only [en_cp]
      by_cases h : a = b
      · rw [if_pos h, if_pos h.symm, ih ys]
      · rw [if_neg h, if_neg (fun e => h e.symm)]
theorem en_cp_ul : ∀ x y z : List Nat, en_cp x y ≤ en_cp x z ∨ en_cp y z ≤ en_cp x z := by
  intro x
  induction x with
  | nil => intro y z; exact Or.inl (by simp [en_cp])
  | cons a xs ih =>
    intro y z
    cases y with
    | nil => exact Or.inl (by simp [en_cp])
    | cons b ys =>
      cases z with
      | nil => exact Or.inr (by simp [en_cp])
      | cons c zs =>
        simp only [en_cp]
        by_cases h1 : a = b
        · by_cases h2 : b = c
          · rw [if_pos h1, if_pos h2, if_pos (h1.trans h2)]
            rcases ih ys zs with h | h
            · exact Or.inl (by omega)
            · exact Or.inr (by omega)
          · rw [if_neg h2]; exact Or.inr (Nat.zero_le _)
        · rw [if_neg h1]; exact Or.inl (Nat.zero_le _)
theorem en_cp_le : ∀ x y : List Nat, en_cp x y ≤ x.length ∧ en_cp x y ≤ y.length := by
  intro x
  induction x with
  | nil => intro y; simp [en_cp]
  | cons a xs ih =>
    intro y
    cases y with
    | nil => simp [en_cp]
    | cons b ys =>
      have h := ih ys
      simp only [en_cp, List.length_cons]
      by_cases e : a = b
      · rw [if_pos e]; omega
      · rw [if_neg e]; omega
theorem en_cp_srt : ∀ x y z : List Nat, (en_lx x y = true ∨ x = y) → (en_lx y z = true ∨ y = z) → en_cp x z ≤ en_cp y z := by
  intro x
  induction x with
  | nil => intro y z _ _; simp [en_cp]
  | cons a xs ih =>
    intro y z h1 h2
    cases z with
    | nil => simp [en_cp]
    | cons c zs =>
      cases y with
      | nil => simp [en_lx] at h1
      | cons b ys =>
        simp only [en_lx, Bool.or_eq_true, Bool.and_eq_true, decide_eq_true_eq, List.cons.injEq] at h1 h2
        simp only [en_cp]
        have hab : a ≤ b := by
          rcases h1 with (h | ⟨h, _⟩) | ⟨h, _⟩ <;> omega
        have hbc : b ≤ c := by
          rcases h2 with (h | ⟨h, _⟩) | ⟨h, _⟩ <;> omega
        by_cases e : a = c
        · have eb : b = c := by omega
          have h1' : en_lx xs ys = true ∨ xs = ys := by
            rcases h1 with (h | ⟨_, h⟩) | ⟨_, h⟩
            · omega
            · exact Or.inl h
            · exact Or.inr h
          have h2' : en_lx ys zs = true ∨ ys = zs := by
            rcases h2 with (h | ⟨_, h⟩) | ⟨_, h⟩
            · omega
            · exact Or.inl h
            · exact Or.inr h
          rw [if_pos e, if_pos eb]
          have := ih ys zs h1' h2'
          omega
        · rw [if_neg e]; exact Nat.zero_le _
theorem en_lx_k : ∀ x y : List Nat,
    (en_cp x y < x.length → en_cp x y < y.length → (en_lx x y = decide (x.getD (en_cp x y) 0 < y.getD (en_cp x y) 0)) ∧ x ≠ y)
    ∧ (¬ (en_cp x y < x.length ∧ en_cp x y < y.length) → (en_lx x y = decide (x.length < y.length)) ∧ (x.length = y.length → x = y)) := by
  intro x
  induction x with
  | nil =>
    intro y
    cases y with
    | nil => simp [en_cp, en_lx]
    | cons b ys => simp [en_cp, en_lx]
  | cons a xs ih =>
    intro y
    cases y with
    | nil => simp [en_cp, en_lx]
    | cons b ys =>
      obtain ⟨h1, h2⟩ := ih ys
      by_cases e : a = b
      · subst e
        have ec : en_cp (a :: xs) (a :: ys) = en_cp xs ys + 1 := by simp [en_cp]
        have el : en_lx (a :: xs) (a :: ys) = en_lx xs ys := by simp [en_lx]
        rw [ec, el]
        simp only [List.length_cons, List.getD_cons_succ]
        refine ⟨fun p q => ?_, fun p => ?_⟩
        · have h := h1 (by omega) (by omega)
          exact ⟨h.1, fun he => h.2 (List.cons.inj he).2⟩
        · have h := h2 (by omega)
          refine ⟨?_, fun he => ?_⟩
          · rw [h.1]
            exact decide_eq_decide.mpr (by omega)
          · rw [h.2 (by omega)]
      · have ec : en_cp (a :: xs) (b :: ys) = 0 := by simp [en_cp, e]
        have el : en_lx (a :: xs) (b :: ys) = decide (a < b) := by simp [en_lx, e]
        rw [ec, el]
        refine ⟨fun _ _ => ⟨rfl, fun he => e (List.cons.inj he).1⟩, fun p => absurd ⟨?_, ?_⟩ p⟩
        · simp
        · simp
def en_bf (w : Nat → List Nat) (a b : Nat) : Bool := en_lx (w a) (w b) || (decide (w a = w b) && decide (a < b))
theorem en_bf_irr (w : Nat → List Nat) (a : Nat) : en_bf w a a = false := by simp [en_bf, en_lx_irr]
theorem en_bf_tr {w : Nat → List Nat} {a b c : Nat} (h1 : en_bf w a b = true) (h2 : en_bf w b c = true) : en_bf w a c = true := by
  simp only [en_bf, Bool.or_eq_true, Bool.and_eq_true, decide_eq_true_eq] at h1 h2 ⊢
  rcases h1 with h1 | ⟨e1, l1⟩
  · rcases h2 with h2 | ⟨e2, l2⟩
    · exact Or.inl (en_lx_tr _ _ _ h1 h2)
    · exact Or.inl (by rw [← e2]; exact h1)
  · rcases h2 with h2 | ⟨e2, l2⟩
    · exact Or.inl (by rw [e1]; exact h2)
    · exact Or.inr ⟨e1.trans e2, by omega⟩
theorem en_bf_as {w : Nat → List Nat} {a b : Nat} (h : en_bf w a b = true) : en_bf w b a = false := by
  cases e : en_bf w b a with
  | false => rfl
  | true =>
    have h2 := en_bf_tr h e
    rw [en_bf_irr] at h2
    cases h2
theorem en_bf_tot {w : Nat → List Nat} {a b : Nat} (h : a ≠ b) (hn : en_bf w a b = false) : en_bf w b a = true := by
  simp only [en_bf, Bool.or_eq_false_iff, Bool.and_eq_false_iff, decide_eq_false_iff_not] at hn
  simp only [en_bf, Bool.or_eq_true, Bool.and_eq_true, decide_eq_true_eq]
  rcases en_lx_tot (w a) (w b) with h1 | h1 | h1
  · rw [hn.1] at h1; cases h1
  · refine Or.inr ⟨h1.symm, ?_⟩
    rcases hn.2 with h2 | h2
    · exact absurd h1 h2
    · omega
  · exact Or.inl h1
theorem en_bf_le {w : Nat → List Nat} {a b : Nat} (h : en_bf w a b = true) : en_lx (w a) (w b) = true ∨ w a = w b := by
  simp only [en_bf, Bool.or_eq_true, Bool.and_eq_true, decide_eq_true_eq] at h
  rcases h with h | ⟨h, _⟩
  · exact Or.inl h
  · exact Or.inr h
/-- sorted -/
def en_so (w : Nat → List Nat) (l : List Nat) : Prop := l.Pairwise (fun a b => en_bf w a b = true)
theorem en_nd {w : Nat → List Nat} {l : List Nat} (hs : en_so w l) : l.Nodup := by
  refine List.Pairwise.imp ?_ hs
  intro a b h e
  subst e
  rw [en_bf_irr] at h
  cases h
theorem en_rk {w : Nat → List Nat} {l : List Nat} (hs : en_so w l) {p q : List Nat} {a : Nat} (e : l = p ++ a :: q) : l.countP (fun x => en_bf w x a) = p.length := by
  subst e
  unfold en_so at hs
  rw [List.pairwise_append] at hs
  obtain ⟨_, h2, h3⟩ := hs
  rw [List.pairwise_cons] at h2
  have e1 : p.countP (fun x => en_bf w x a) = p.length := List.countP_eq_length.mpr (fun x hx => h3 x hx a (by simp))
  have e2 : q.countP (fun x => en_bf w x a) = 0 := List.countP_eq_zero.mpr (fun x hx => by rw [en_bf_as (h2.1 x hx)]; decide)
  rw [List.countP_append, List.countP_cons, e1, e2, en_bf_irr]
  simp
theorem en_cnt {w : Nat → List Nat} {P : Nat → Bool} {l : List Nat} (hs : en_so w l) (hp : l.Perm ((List.range 96).filter P)) {n : Nat} (hn : n < 96) (hP : P n = true) :
    ∃ p q, l = p ++ n :: q ∧ (List.range 96).countP (fun x => P x && en_bf w x n) = p.length := by
  have hm : n ∈ l := hp.mem_iff.mpr (List.mem_filter.mpr ⟨List.mem_range.mpr hn, hP⟩)
  obtain ⟨p, q, e⟩ := List.append_of_mem hm
  refine ⟨p, q, e, ?_⟩
  rw [← en_rk hs e, hp.countP_eq, List.countP_filter]
  congr 1
  funext x
  exact Bool.and_comm _ _
theorem en_perm {w : Nat → List Nat} {P : Nat → Bool} {l : List Nat} (hs : en_so w l) (hm : ∀ n, n ∈ l ↔ n < 96 ∧ P n = true) : l.Perm ((List.range 96).filter P) :=
  (List.perm_ext_iff_of_nodup (en_nd hs) (List.Pairwise.filter _ List.nodup_range)).mpr (fun n => by rw [hm, List.mem_filter, List.mem_range])
theorem en_fil {w : Nat → List Nat} {l : List Nat} (Q : Nat → Bool) (hs : en_so w l) : en_so w (l.filter Q) := List.Pairwise.filter _ hs
end
section
/-! what an ending shares with those before it: sums and the greatest, in any order -/
def en_K (w : Nat → List Nat) : List Nat → Nat → Nat
  | [], _ => 0
  | v :: S, a => max (en_cp (w v) (w a)) (en_K w S a)
theorem en_K_perm (w : Nat → List Nat) (a : Nat) {S S' : List Nat} (p : S.Perm S') : en_K w S a = en_K w S' a := by
  induction p with
  | nil => rfl
  | cons x _ ih => simp only [en_K, ih]
  | swap x y l => simp only [en_K]; omega
  | trans _ _ h1 h2 => exact h1.trans h2
theorem en_K_ge (w : Nat → List Nat) (a : Nat) : ∀ {S : List Nat} {v : Nat}, v ∈ S → en_cp (w v) (w a) ≤ en_K w S a := by
  intro S
  induction S with
  | nil => intro v hv; cases hv
  | cons x S ih =>
    intro v hv
    simp only [en_K]
    rcases List.mem_cons.mp hv with h | h
    · subst h; omega
    · have := ih h; omega
theorem en_K_at (w : Nat → List Nat) (a : Nat) : ∀ S : List Nat, en_K w S a = 0 ∨ ∃ v, v ∈ S ∧ en_K w S a = en_cp (w v) (w a) := by
  intro S
  induction S with
  | nil => exact Or.inl rfl
  | cons x S ih =>
    simp only [en_K]
    by_cases h : en_K w S a ≤ en_cp (w x) (w a)
    · exact Or.inr ⟨x, by simp, by omega⟩
    · rcases ih with h2 | ⟨v, hv, h2⟩
      · omega
      · exact Or.inr ⟨v, by simp [hv], by omega⟩
theorem en_F (w : Nat → List Nat) (S : List Nat) (a b : Nat) : en_K w S a ≤ en_K w S b ∨ en_cp (w a) (w b) ≤ en_K w S b := by
  rcases en_K_at w a S with h | ⟨v, hv, h⟩
  · left; omega
  · have h3 := en_K_ge w b hv
    rcases en_cp_ul (w v) (w a) (w b) with h2 | h2
    · left; omega
    · right; omega
theorem en_swap (w : Nat → List Nat) (S : List Nat) (a b : Nat) : en_K w S b + en_K w (b :: S) a = en_K w S a + en_K w (a :: S) b := by
  have h1 := en_F w S a b
  have h2 := en_F w S b a
  have h3 := en_cp_sym (w a) (w b)
  simp only [en_K]
  omega
def en_Dr (w : Nat → List Nat) : List Nat → Int32
  | [] => 0
  | a :: S => en_Dr w S + nI (w a).length - nI (en_K w S a)
theorem en_Dr_perm (w : Nat → List Nat) {S S' : List Nat} (p : S.Perm S') : en_Dr w S = en_Dr w S' := by
  induction p with
  | nil => rfl
  | cons x p ih => simp only [en_Dr]; rw [ih, en_K_perm w x p]
  | swap x y l =>
    simp only [en_Dr]
    have h : nI (en_K w l x) + nI (en_K w (x :: l) y) = nI (en_K w l y) + nI (en_K w (y :: l) x) := by
      rw [nI_add, nI_add]
      exact congrArg nI (en_swap w l y x)
    generalize nI (en_K w l x) = A at h ⊢
    generalize nI (en_K w (x :: l) y) = B at h ⊢
    generalize nI (en_K w l y) = C at h ⊢
    generalize nI (en_K w (y :: l) x) = D at h ⊢
    grind
  | trans _ _ h1 h2 => exact h1.trans h2
def en_Rr (w : Nat → List Nat) : List Nat → Nat
  | [] => 0
  | a :: S => max (en_K w S a) (en_Rr w S)
theorem en_Rr_perm (w : Nat → List Nat) {S S' : List Nat} (p : S.Perm S') : en_Rr w S = en_Rr w S' := by
  induction p with
  | nil => rfl
  | cons x p ih => simp only [en_Rr]; rw [ih, en_K_perm w x p]
  | swap x y l =>
    have h3 := en_cp_sym (w x) (w y)
    simp only [en_Rr, en_K]
    omega
  | trans _ _ h1 h2 => exact h1.trans h2
theorem en_K_srt {w : Nat → List Nat} {y a : Nat} {S : List Nat} (h : ∀ v, v ∈ S → en_bf w v y = true) (hy : en_bf w y a = true) : en_K w (y :: S) a = en_cp (w y) (w a) := by
  have h2 : en_K w S a ≤ en_cp (w y) (w a) := by
    rcases en_K_at w a S with h1 | ⟨v, hv, h1⟩
    · omega
    · rw [h1]
      exact en_cp_srt _ _ _ (en_bf_le (h v hv)) (en_bf_le hy)
  simp only [en_K]
  omega
/-- the endings below n, the last first -/
def en_S (P : Nat → Bool) : Nat → List Nat
  | 0 => []
  | n + 1 => if P n = true then n :: en_S P n else en_S P n
theorem en_S_eq (P : Nat → Bool) : ∀ n, en_S P n = ((List.range n).filter P).reverse := by
  intro n
  induction n with
  | zero => rfl
  | succ n ih =>
    rw [List.range_succ, List.filter_append, List.reverse_append, ← ih]
    by_cases h : P n = true
    · simp [en_S, h]
    · simp [en_S, h]
theorem en_S_perm {P : Nat → Bool} {l : List Nat} (hp : l.Perm ((List.range 96).filter P)) : l.reverse.Perm (en_S P 96) := by
  rw [en_S_eq]
  exact ((List.reverse_perm l).trans hp).trans (List.reverse_perm _).symm
/-- how many of those below n -/
def en_ct (Q : Nat → Bool) : Nat → Nat
  | 0 => 0
  | n + 1 => if Q n = true then en_ct Q n + 1 else en_ct Q n
theorem en_ct_eq (Q : Nat → Bool) : ∀ n, en_ct Q n = (List.range n).countP Q := by
  intro n
  induction n with
  | zero => rfl
  | succ n ih =>
    rw [List.range_succ, List.countP_append, ← ih]
    by_cases h : Q n = true
    · simp [en_ct, h]
    · simp [en_ct, h]
theorem en_ct_le (Q : Nat → Bool) : ∀ n, en_ct Q n ≤ n := by
  intro n
  induction n with
  | zero => exact Nat.le_refl _
  | succ n ih =>
    simp only [en_ct]
    split <;> omega
def en_or (Q : Nat → Bool) (f : Nat → Int32) : Nat → Int32
  | 0 => 0
  | n + 1 => if Q n = true then en_or Q f n ||| f n else en_or Q f n
def en_fo (Q : Nat → Bool) (f : Nat → Int32) (s : Int32) (l : List Nat) : Int32 := l.foldl (fun s n => if Q n = true then s ||| f n else s) s
theorem en_or_eq (Q : Nat → Bool) (f : Nat → Int32) : ∀ n, en_or Q f n = en_fo Q f 0 (List.range n) := by
  intro n
  induction n with
  | zero => rfl
  | succ n ih =>
    rw [List.range_succ]
    simp only [en_or, ih, en_fo, List.foldl_append, List.foldl_cons, List.foldl_nil]
theorem en_fo_perm (Q : Nat → Bool) (f : Nat → Int32) {l l' : List Nat} (p : l.Perm l') : en_fo Q f 0 l = en_fo Q f 0 l' := by
  unfold en_fo
  refine List.Perm.foldl_eq' p ?_ _
  intro x _ y _ z
  by_cases hx : Q x = true
  · by_cases hy : Q y = true
    · simp only [hx, hy, if_true]
      rw [Int32.or_assoc, Int32.or_assoc, Int32.or_comm (f x)]
    · simp [hx, hy]
  · by_cases hy : Q y = true
    · simp [hx, hy]
    · simp [hx, hy]
theorem en_fo_fil (Q P : Nat → Bool) (f : Nat → Int32) (h : ∀ n, Q n = true → P n = true) : ∀ (l : List Nat) (s : Int32), en_fo Q f s (l.filter P) = en_fo Q f s l := by
  intro l
  induction l with
  | nil => intro s; rfl
  | cons a l ih =>
    intro s
    by_cases hP : P a = true
    · rw [List.filter_cons_of_pos hP]
      exact ih _
    · rw [List.filter_cons_of_neg hP, ih]
      have hQ : ¬ Q a = true := fun z => hP (h a z)
      unfold en_fo
      rw [List.foldl_cons, if_neg hQ]
def en_sh (k : Nat) : Int32 := (1 : Int32) <<< (nI k &&& 31)
def en_Y (b : Nat → Bool) : Nat → Int32
  | 0 => 0
  | k + 1 => if b k = true then en_Y b k ||| en_sh k else en_Y b k
theorem en_Y4_b : ∀ (b0 b1 b2 b3 : Bool) (g : Fin 4),
    en_Y (fun k => (g.val == k) || (if k = 0 then b0 else if k = 1 then b1 else if k = 2 then b2 else b3)) 4
      = en_sh g.val ||| en_Y (fun k => if k = 0 then b0 else if k = 1 then b1 else if k = 2 then b2 else b3) 4 := by decide +kernel
theorem en_Y4_ext {b b' : Nat → Bool} (h : ∀ k, k < 4 → b k = b' k) : en_Y b 4 = en_Y b' 4 := by
  simp only [en_Y, h 0 (by decide), h 1 (by decide), h 2 (by decide), h 3 (by decide)]
theorem en_Y4 (b : Nat → Bool) {g : Nat} (hg : g < 4) : en_Y (fun k => (g == k) || b k) 4 = en_sh g ||| en_Y b 4 := by
  have e := en_Y4_b (b 0) (b 1) (b 2) (b 3) ⟨g, hg⟩
  have e1 : en_Y b 4 = en_Y (fun k => if k = 0 then b 0 else if k = 1 then b 1 else if k = 2 then b 2 else b 3) 4 := rfl
  have e2 : en_Y (fun k => (g == k) || b k) 4 = en_Y (fun k => (g == k) || (if k = 0 then b 0 else if k = 1 then b 1 else if k = 2 then b 2 else b 3)) 4 := rfl
  rw [e1, e2]
  exact e
theorem en_fo_Y (Q : Nat → Bool) (g : Nat → Nat) (hg : ∀ n, g n < 4) : ∀ (l : List Nat) (s : Int32),
    en_fo Q (fun n => en_sh (g n)) s l = s ||| en_Y (fun k => l.any (fun n => Q n && (g n == k))) 4 := by
  intro l
  induction l with
  | nil =>
    intro s
    show s = s ||| en_Y (fun _ => false) 4
    have e : en_Y (fun _ => false) 4 = 0 := rfl
    rw [e, Int32.or_zero]
  | cons a l ih =>
    intro s
    by_cases h : Q a = true
    · have e : en_fo Q (fun n => en_sh (g n)) s (a :: l) = en_fo Q (fun n => en_sh (g n)) (s ||| en_sh (g a)) l := by
        unfold en_fo
        rw [List.foldl_cons, if_pos h]
      rw [e, ih, Int32.or_assoc, ← en_Y4 _ (hg a)]
      congr 1
      apply en_Y4_ext
      intro k _
      simp [h]
    · have e : en_fo Q (fun n => en_sh (g n)) s (a :: l) = en_fo Q (fun n => en_sh (g n)) s l := by
        unfold en_fo
        rw [List.foldl_cons, if_neg h]
      rw [e, ih]
      congr 1
      apply en_Y4_ext
      intro k _
      simp [h]
end
section
/-! the endings of a state: lengths L by slot, letters t by number -/
def en_wd (t : Nat → Nat) : Nat → Nat → List Nat
  | _, 0 => []
  | n, k + 1 => t n :: en_wd t (n + 1) k
def en_ln (L : Nat → Nat) (n : Nat) : Nat := L (n / 16) - n % 16
def en_w (L t : Nat → Nat) (n : Nat) : List Nat := en_wd t n (en_ln L n)
def en_E (L : Nat → Nat) (n : Nat) : Bool := decide (n < 96) && (decide (0 < L (n / 16)) && decide (n % 16 ≤ L (n / 16)))
theorem en_wd_len (t : Nat → Nat) : ∀ k n, (en_wd t n k).length = k := by
  intro k
  induction k with
  | zero => intro n; rfl
  | succ k ih => intro n; simp only [en_wd, List.length_cons, ih]
theorem en_wd_get (t : Nat → Nat) : ∀ k n j, j < k → (en_wd t n k).getD j 0 = t (n + j) := by
  intro k
  induction k with
  | zero => intro n j h; omega
  | succ k ih =>
    intro n j h
    cases j with
    | zero => rfl
    | succ j =>
      simp only [en_wd, List.getD_cons_succ]
      rw [ih (n + 1) j (by omega)]
      congr 1
      omega
theorem en_w_len (L t : Nat → Nat) (n : Nat) : (en_w L t n).length = en_ln L n := en_wd_len t _ _
theorem en_wd_ext {t t' : Nat → Nat} : ∀ k n, (∀ i, i < k → t (n + i) = t' (n + i)) → en_wd t n k = en_wd t' n k := by
  intro k
  induction k with
  | zero => intro n _; rfl
  | succ k ih =>
    intro n h
    simp only [en_wd]
    have h0 := h 0 (by omega)
    rw [Nat.add_zero] at h0
    rw [h0, ih (n + 1) (fun i hi => by
      have := h (i + 1) (by omega)
      rw [show n + 1 + i = n + (i + 1) from by omega]
      exact this)]
theorem en_E_iff {L : Nat → Nat} {n : Nat} : en_E L n = true ↔ n < 96 ∧ 0 < L (n / 16) ∧ n % 16 ≤ L (n / 16) := by
  simp only [en_E, Bool.and_eq_true, decide_eq_true_eq]
def en_sm (L : Nat → Nat) : Nat → Nat
  | 0 => 0
  | s + 1 => if 0 < L s then en_sm L s + L s + 1 else en_sm L s
theorem en_blk : ∀ m, m < 10 → (List.range 16).countP (fun i => decide (0 < m) && decide (i ≤ m)) = if 0 < m then m + 1 else 0 := by decide
theorem en_sm_eq {L : Nat → Nat} (hL : ∀ s, L s ≤ 9) : ∀ s, s ≤ 6 → (List.range (16 * s)).countP (en_E L) = en_sm L s := by
  intro s
  induction s with
  | zero => intro _; rfl
  | succ s ih =>
    intro hs
    rw [show 16 * (s + 1) = 16 * s + 16 from by omega, List.range_add, List.countP_append, ih (by omega), List.countP_map]
    have e : (List.range 16).countP (en_E L ∘ (16 * s + ·)) = (List.range 16).countP (fun i => decide (0 < L s) && decide (i ≤ L s)) := by
      apply List.countP_congr
      intro i hi
      rw [List.mem_range] at hi
      have e1 : (16 * s + i) / 16 = s := by omega
      have e2 : (16 * s + i) % 16 = i := by omega
      have e3 : 16 * s + i < 96 := by omega
      simp only [Function.comp, en_E, e1, e2, e3, decide_true, Bool.true_and]
    rw [e, en_blk _ (by have := hL s; omega)]
    simp only [en_sm]
    split <;> omega
theorem en_sm_le {L : Nat → Nat} (hL : ∀ s, L s ≤ 9) : ∀ s, en_sm L s ≤ 10 * s := by
  intro s
  induction s with
  | zero => exact Nat.le_refl _
  | succ s ih =>
    have := hL s
    simp only [en_sm]
    split <;> omega
theorem en_tot {L : Nat → Nat} (hL : ∀ s, L s ≤ 9) {l : List Nat} (hp : l.Perm ((List.range 96).filter (en_E L))) : l.length = en_sm L 6 := by
  rw [hp.length_eq, ← List.countP_eq_length_filter]
  exact en_sm_eq hL 6 (by decide)
theorem en_room {L : Nat → Nat} (hL : ∀ s, L s ≤ 9) {l : List Nat} (hs : l.Nodup) (hm : ∀ n, n ∈ l → en_E L n = true) : l.length ≤ 60 := by
  have hp : l.Perm ((List.range 96).filter (fun n => decide (n ∈ l))) := by
    refine (List.perm_ext_iff_of_nodup hs (List.Pairwise.filter _ List.nodup_range)).mpr ?_
    intro n
    rw [List.mem_filter, List.mem_range]
    constructor
    · intro h
      exact ⟨(en_E_iff.mp (hm n h)).1, by simp [h]⟩
    · intro h
      exact of_decide_eq_true h.2
  rw [hp.length_eq, ← List.countP_eq_length_filter]
  have h1 : (List.range 96).countP (fun n => decide (n ∈ l)) ≤ (List.range 96).countP (en_E L) := by
    apply List.countP_mono_left
    intro x _ hx
    exact hm x (of_decide_eq_true hx)
  have h2 := en_sm_eq hL 6 (by decide)
  have h3 := en_sm_le hL 6
  rw [show 16 * 6 = 96 from rfl] at h2
  omega
def en_sb (L t pd : Nat → Nat) (sz n : Nat) : Bool := en_E L n && (decide (sz ≤ en_ln L n) && decide (∀ i, i < sz → t (n + i) = pd i))
theorem en_sb_iff {L t pd : Nat → Nat} {sz n : Nat} : en_sb L t pd sz n = true ↔ en_E L n = true ∧ sz ≤ en_ln L n ∧ ∀ i, i < sz → t (n + i) = pd i := by
  simp only [en_sb, Bool.and_eq_true, decide_eq_true_eq]
def en_bg (t : Nat → Nat) (n : Nat) : Nat → Nat
  | 0 => 1
  | j + 1 => en_bg t n j * 4 + t (n + j)
def en_pd (q sz i : Nat) : Nat := q / 4 ^ (sz - 1 - i) % 4
theorem en_bg_iff {t : Nat → Nat} (ht : ∀ n, t n < 4) {q sz : Nat} (hq : q / 4 ^ sz = 1) (n : Nat) : ∀ j, j ≤ sz → (en_bg t n j = q / 4 ^ (sz - j) ↔ ∀ i, i < j → t (n + i) = en_pd q sz i) := by
  intro j
  induction j with
  | zero => intro _; simp [en_bg, hq]
  | succ j ih =>
    intro hj
    have e1 : q / 4 ^ (sz - j) = q / 4 ^ (sz - (j + 1)) / 4 := by
      rw [show sz - j = sz - (j + 1) + 1 from by omega, Nat.pow_succ, ← Nat.div_div_eq_div_mul]
    have e2 : en_pd q sz j = q / 4 ^ (sz - (j + 1)) % 4 := by
      unfold en_pd
      rw [show sz - 1 - j = sz - (j + 1) from by omega]
    have h := ih (by omega)
    rw [e1] at h
    have h4 := ht (n + j)
    simp only [en_bg]
    generalize q / 4 ^ (sz - (j + 1)) = Q at *
    constructor
    · intro he i hi
      by_cases hij : i = j
      · rw [hij, e2]; omega
      · exact h.mp (by omega) i (by omega)
    · intro hall
      have h1 := h.mpr (fun i hi => hall i (by omega))
      have h2 := hall j (by omega)
      rw [e2] at h2
      omega
theorem en_bg_lt {t : Nat → Nat} (ht : ∀ n, t n < 4) (n : Nat) : ∀ j, en_bg t n j < 2 * 4 ^ j := by
  intro j
  induction j with
  | zero => simp [en_bg]
  | succ j ih =>
    have h4 := ht (n + j)
    rw [Nat.pow_succ]
    simp only [en_bg]
    omega
theorem en_p6 {s : Nat} (h : s ≤ 6) : 4 ^ s ≤ 4096 := Nat.pow_le_pow_right (n := 4) (by decide) h
theorem en_pre {q sz s : Nat} (hq : q / 4 ^ sz = 1) (h : s < sz) : 4 ≤ q / 4 ^ s := by
  apply Nat.le_of_not_lt
  intro hlt
  have e : 4 ^ sz = 4 ^ s * 4 ^ (sz - s) := by rw [← Nat.pow_add]; congr 1; omega
  have h4 : 4 ≤ 4 ^ (sz - s) := by
    have := Nat.pow_le_pow_right (n := 4) (by decide) (show 1 ≤ sz - s from by omega)
    omega
  rw [e, ← Nat.div_div_eq_div_mul, Nat.div_eq_of_lt (by omega)] at hq
  omega
def en_At (a : Nat → Int32) : Nat → List Nat → Prop
  | _, [] => True
  | i, x :: m => a i = nI x ∧ en_At a (i + 1) m
theorem en_At_app {a : Nat → Int32} : ∀ (p : List Nat) (i : Nat) (q : List Nat), en_At a i (p ++ q) ↔ en_At a i p ∧ en_At a (i + p.length) q := by
  intro p
  induction p with
  | nil => intro i q; simp [en_At]
  | cons x p ih =>
    intro i q
    simp only [List.cons_append, en_At, ih, List.length_cons]
    rw [show i + 1 + p.length = i + (p.length + 1) from by omega, and_assoc]
theorem en_At_lo {a : Nat → Int32} {k : Nat} {v : Int32} : ∀ (p : List Nat) (i : Nat), i + p.length ≤ k → en_At a i p → en_At (upd a k v) i p := by
  intro p
  induction p with
  | nil => intro i _ _; exact trivial
  | cons x p ih =>
    intro i h ha
    simp only [List.length_cons] at h
    refine ⟨?_, ih (i + 1) (by omega) ha.2⟩
    have e : upd a k v i = a i := if_neg (by omega)
    rw [e]
    exact ha.1
theorem en_At_hi {a : Nat → Int32} {k : Nat} {v : Int32} : ∀ (p : List Nat) (i : Nat), k < i → en_At a i p → en_At (upd a k v) i p := by
  intro p
  induction p with
  | nil => intro i _ _; exact trivial
  | cons x p ih =>
    intro i h ha
    refine ⟨?_, ih (i + 1) (by omega) ha.2⟩
    have e : upd a k v i = a i := if_neg (by omega)
    rw [e]
    exact ha.1
theorem en_At_get {a : Nat → Int32} : ∀ (p : List Nat) (i j : Nat) (h : j < p.length), en_At a i p → a (i + j) = nI p[j] := by
  intro p
  induction p with
  | nil => intro i j h _; simp at h
  | cons x p ih =>
    intro i j h ha
    cases j with
    | zero => exact ha.1
    | succ j =>
      rw [show i + (j + 1) = i + 1 + j from by omega]
      exact ih (i + 1) j (by simpa using h) ha.2
theorem en_ins {w : Nat → List Nat} {p q : List Nat} {n : Nat} (hs : en_so w (p ++ q)) (h1 : ∀ x, x ∈ p → en_bf w x n = true) (h2 : ∀ x, x ∈ q → en_bf w n x = true) : en_so w (p ++ n :: q) := by
  unfold en_so at hs ⊢
  rw [List.pairwise_append] at hs ⊢
  refine ⟨hs.1, List.pairwise_cons.mpr ⟨h2, hs.2.1⟩, fun a ha b hb => ?_⟩
  rcases List.mem_cons.mp hb with h | h
  · rw [h]; exact h1 a ha
  · exact hs.2.2 a ha b h
def en_up (L : Nat → Nat) (s v : Nat) : Nat → Nat := fun x => if x = s then v else L x
theorem en_up_s {L : Nat → Nat} {s v : Nat} : en_up L s v s = v := if_pos rfl
theorem en_up_n {L : Nat → Nat} {s v x : Nat} (h : x ≠ s) : en_up L s v x = L x := if_neg h
theorem en_up_I (L : Nat → Nat) (s v : Nat) : upd (fun x => nI (L x)) s (nI v) = fun x => nI (en_up L s v x) := by
  funext x
  unfold upd en_up
  by_cases h : x = s
  · rw [if_pos h, if_pos h]
  · rw [if_neg h, if_neg h]
/-- words of the other slots stay -/
theorem en_w_keep {L L' t t' : Nat → Nat} {n : Nat} (hL : ∀ s, L s ≤ 9) (h1 : L' (n / 16) = L (n / 16)) (h2 : ∀ m, m / 16 = n / 16 → t' m = t m) : en_w L' t' n = en_w L t n := by
  unfold en_w en_ln
  rw [h1]
  apply en_wd_ext
  intro i hi
  apply h2
  have := hL (n / 16)
  omega
theorem en_so_keep {w w' : Nat → List Nat} {l : List Nat} (hs : en_so w l) (h : ∀ n, n ∈ l → w' n = w n) : en_so w' l := by
  unfold en_so at hs ⊢
  refine List.Pairwise.imp_of_mem ?_ hs
  intro a b ha hb hab
  unfold en_bf at hab ⊢
  rw [h a ha, h b hb]
  exact hab
end
section
/-! the answers, as both sides give them -/
/-- the element at place k - f, or -4 -/
def en_pk : List Nat → Nat → Int32 → Int32
  | [], _, _ => -4
  | x :: m, f, k => if nI f = k then nI x else en_pk m (f + 1) k
theorem en_pk_hit : ∀ (p : List Nat) (j : Nat) (q : List Nat) (f : Nat) (k : Int32), f + p.length < 2 ^ 31 → nI (f + p.length) = k → en_pk (p ++ j :: q) f k = nI j := by
  intro p
  induction p with
  | nil =>
    intro j q f k _ h
    exact if_pos h
  | cons x p ih =>
    intro j q f k hl h
    simp only [List.length_cons] at hl h
    have hn : ¬ nI f = k := by
      rw [← h, nI_eq (by omega) (by omega)]
      omega
    show (if nI f = k then nI x else en_pk (p ++ j :: q) (f + 1) k) = nI j
    rw [if_neg hn]
    refine ih j q (f + 1) k (by omega) ?_
    rw [← h]
    congr 1
    omega
theorem en_pk_miss : ∀ (m : List Nat) (f : Nat) (k : Int32), (∀ i, i < m.length → nI (f + i) ≠ k) → en_pk m f k = -4 := by
  intro m
  induction m with
  | nil => intro f k _; rfl
  | cons x m ih =>
    intro f k h
    have h0 : ¬ nI f = k := h 0 (by simp)
    show (if nI f = k then nI x else en_pk m (f + 1) k) = -4
    rw [if_neg h0]
    apply ih
    intro i hi
    have := h (i + 1) (by simpa using hi)
    rw [show f + 1 + i = f + (i + 1) from by omega]
    exact this
theorem en_split {l : List Nat} {i : Nat} (h : i < l.length) : l = l.take i ++ l[i] :: l.drop (i + 1) ∧ (l.take i).length = i := by
  constructor
  · rw [List.getElem_cons_drop, List.take_append_drop]
  · rw [List.length_take]; omega
theorem en_pk_at {l : List Nat} {i : Nat} (h : i < l.length) (hl : l.length < 2 ^ 31) : en_pk l 0 (nI i) = nI l[i] := by
  obtain ⟨e, e2⟩ := en_split h
  have := en_pk_hit (l.take i) l[i] (l.drop (i + 1)) 0 (nI i) (by omega) (by rw [e2, Nat.zero_add])
  rw [← e] at this
  exact this
/-- how many stand before j -/
def en_cb (w : Nat → List Nat) (P : Nat → Bool) (j : Nat) : Nat := en_ct (fun x => P x && en_bf w x j) 96
theorem en_cb_eq (w : Nat → List Nat) (P : Nat → Bool) (j : Nat) : en_cb w P j = (List.range 96).countP (fun x => P x && en_bf w x j) := en_ct_eq _ 96
theorem en_cb_le (w : Nat → List Nat) (P : Nat → Bool) (j : Nat) : en_cb w P j ≤ 96 := en_ct_le _ 96
theorem en_Yend {w : Nat → List Nat} {P : Nat → Bool} {m : List Nat} (hs : en_so w m) (hp : m.Perm ((List.range 96).filter P)) (hl : m.length < 2 ^ 31) (r : Int32) :
    (∀ j, j < 96 → P j = true → nI (en_cb w P j) = r → nI j = en_pk m 0 r) ∧ ((∀ j, j < 96 → P j = true → nI (en_cb w P j) ≠ r) → -4 = en_pk m 0 r) := by
  constructor
  · intro j hj hP hr
    obtain ⟨p, q, e, hc⟩ := en_cnt hs hp hj hP
    rw [← en_cb_eq] at hc
    rw [hc] at hr
    have hlen : p.length < m.length := by rw [e]; simp
    have := en_pk_hit p j q 0 r (by omega) (by rw [Nat.zero_add]; exact hr)
    rw [← e] at this
    exact this.symm
  · intro h
    refine (en_pk_miss m 0 r ?_).symm
    intro i hi
    have hmem : m[i] ∈ m := List.getElem_mem hi
    have hf := hp.mem_iff.mp hmem
    rw [List.mem_filter, List.mem_range] at hf
    obtain ⟨p, q, e, hc⟩ := en_cnt hs hp hf.1 hf.2
    rw [← en_cb_eq] at hc
    obtain ⟨e1, e2⟩ := en_split hi
    have hk := en_rk hs e
    rw [en_rk hs e1, e2] at hk
    have := h m[i] hf.1 hf.2
    rw [hc, ← hk] at this
    rw [Nat.zero_add]
    exact this
theorem en_pk_lo {m : List Nat} {r : Int32} (hl : m.length < 2 ^ 31) (h : r < 0 ∨ nI m.length ≤ r) : en_pk m 0 r = -4 := by
  apply en_pk_miss
  intro i hi he
  rw [Nat.zero_add] at he
  subst he
  rcases h with h | h
  · exact nI_pos (by omega) h
  · exact nI_ge hi hl h
/-- the place of a number in the list, or -4 -/
def en_ix : List Nat → Nat → Int32 → Int32
  | [], _, _ => -4
  | x :: m, i, k => if nI x = k then nI i else en_ix m (i + 1) k
theorem en_ix_hit : ∀ (p : List Nat) (n : Nat) (q : List Nat) (i : Nat), (∀ x, x ∈ p → nI x ≠ nI n) → en_ix (p ++ n :: q) i (nI n) = nI (i + p.length) := by
  intro p
  induction p with
  | nil => intro n q i _; exact if_pos rfl
  | cons x p ih =>
    intro n q i h
    show (if nI x = nI n then nI i else en_ix (p ++ n :: q) (i + 1) (nI n)) = _
    rw [if_neg (h x (by simp)), ih n q (i + 1) (fun y hy => h y (by simp [hy]))]
    simp only [List.length_cons]
    congr 1
    omega
theorem en_ix_miss : ∀ (m : List Nat) (i : Nat) (k : Int32), (∀ x, x ∈ m → nI x ≠ k) → en_ix m i k = -4 := by
  intro m
  induction m with
  | nil => intro i k _; rfl
  | cons x m ih =>
    intro i k h
    show (if nI x = k then nI i else en_ix m (i + 1) k) = -4
    rw [if_neg (h x (by simp))]
    exact ih (i + 1) k (fun y hy => h y (by simp [hy]))
theorem en_Yrank {w : Nat → List Nat} {P : Nat → Bool} {l : List Nat} (hs : en_so w l) (hp : l.Perm ((List.range 96).filter P)) :
    (∀ n, n < 96 → P n = true → nI (en_cb w P n) = en_ix l 0 (nI n)) ∧ (∀ k : Int32, (∀ n, n < 96 → P n = true → nI n ≠ k) → -4 = en_ix l 0 k) := by
  constructor
  · intro n hn hP
    obtain ⟨p, q, e, hc⟩ := en_cnt hs hp hn hP
    rw [← en_cb_eq] at hc
    have hnd := en_nd hs
    have hm : ∀ x, x ∈ p → nI x ≠ nI n := by
      intro x hx he
      have hx2 : x ∈ l := by rw [e]; simp [hx]
      have hf := hp.mem_iff.mp hx2
      rw [List.mem_filter, List.mem_range] at hf
      rw [nI_eq (by omega) (by omega)] at he
      subst he
      rw [e] at hnd
      have := (List.pairwise_append.mp hnd).2.2 x hx x (by simp)
      exact this rfl
    have := en_ix_hit p n q 0 hm
    rw [← e, Nat.zero_add] at this
    rw [this, hc]
  · intro k h
    refine (en_ix_miss l 0 k ?_).symm
    intro x hx
    have hf := hp.mem_iff.mp hx
    rw [List.mem_filter, List.mem_range] at hf
    exact h x hf.1 hf.2
theorem en_fp {E S : Nat → Bool} {l : List Nat} (h : ∀ n, S n = true → E n = true) (hp : l.Perm ((List.range 96).filter E)) : (l.filter S).Perm ((List.range 96).filter S) := by
  have h1 := hp.filter S
  rw [List.filter_filter] at h1
  have e : (fun a => S a && E a) = S := by
    funext a
    cases hS : S a with
    | false => rfl
    | true => rw [h a hS]; rfl
  rw [e] at h1
  exact h1
theorem en_cS {E S : Nat → Bool} {l : List Nat} (h : ∀ n, S n = true → E n = true) (hp : l.Perm ((List.range 96).filter E)) : l.countP S = en_ct S 96 := by
  rw [en_ct_eq, List.countP_eq_length_filter, List.countP_eq_length_filter]
  exact (en_fp h hp).length_eq
theorem en_foS {E S : Nat → Bool} {l : List Nat} (f : Nat → Int32) (h : ∀ n, S n = true → E n = true) (hp : l.Perm ((List.range 96).filter E)) : en_fo S f 0 l = en_or S f 96 := by
  rw [en_fo_perm S f hp, en_fo_fil S E f h, en_or_eq]
theorem en_sb_E {L t pd : Nat → Nat} {sz n : Nat} (h : en_sb L t pd sz n = true) : en_E L n = true := (en_sb_iff.mp h).1
theorem en_sb_ext {L t pd pd' : Nat → Nat} {sz : Nat} (h : ∀ i, i < sz → pd i = pd' i) (n : Nat) : en_sb L t pd sz n = en_sb L t pd' sz n := by
  have e : (∀ i, i < sz → t (n + i) = pd i) ↔ (∀ i, i < sz → t (n + i) = pd' i) :=
    ⟨fun g i hi => (g i hi).trans (h i hi), fun g i hi => (g i hi).trans (h i hi).symm⟩
  unfold en_sb
  rw [decide_eq_decide.mpr e]
theorem en_ct_ext {Q Q' : Nat → Bool} (h : ∀ n, Q n = Q' n) (k : Nat) : en_ct Q k = en_ct Q' k := by
  rw [show Q = Q' from funext h]
theorem en_any {E : Nat → Bool} {l : List Nat} (hp : l.Perm ((List.range 96).filter E)) {Q S : Nat → Bool} (h : (∃ n, n < 96 ∧ E n = true ∧ Q n = true) ↔ ∃ n, n < 96 ∧ S n = true) : l.any Q = decide (0 < en_ct S 96) := by
  rw [Bool.eq_iff_iff, List.any_eq_true, decide_eq_true_eq, en_ct_eq, List.countP_pos_iff]
  constructor
  · rintro ⟨n, hn, hq⟩
    have hf := hp.mem_iff.mp hn
    rw [List.mem_filter, List.mem_range] at hf
    obtain ⟨m, hm, hS⟩ := h.mp ⟨n, hf.1, hf.2, hq⟩
    exact ⟨m, List.mem_range.mpr hm, hS⟩
  · rintro ⟨m, hm, hS⟩
    obtain ⟨n, h1, h2, h3⟩ := h.mpr ⟨m, List.mem_range.mp hm, hS⟩
    exact ⟨n, hp.mem_iff.mpr (List.mem_filter.mpr ⟨List.mem_range.mpr h1, h2⟩), h3⟩
/-- the pattern with a letter behind it, or ahead of it -/
def en_pa (pd : Nat → Nat) (sz k : Nat) : Nat → Nat := fun i => if i = sz then k else pd i
def en_pb (pd : Nat → Nat) (k : Nat) : Nat → Nat := fun i => if i = 0 then k else pd (i - 1)
theorem en_after {L t pd : Nat → Nat} {sz : Nat} {l : List Nat} (ht : ∀ n, t n < 4) (hp : l.Perm ((List.range 96).filter (en_E L))) :
    en_fo (fun n => en_sb L t pd sz n && decide (sz < en_ln L n)) (fun n => en_sh (t (n + sz))) 0 l = en_Y (fun k => decide (0 < en_ct (en_sb L t (en_pa pd sz k) (sz + 1)) 96)) 4 := by
  rw [en_fo_Y _ _ (fun n => ht (n + sz)), Int32.or_comm, Int32.or_zero]
  apply en_Y4_ext
  intro k _
  apply en_any hp
  constructor
  · rintro ⟨n, hn, hE, hq⟩
    refine ⟨n, hn, ?_⟩
    simp only [Bool.and_eq_true, decide_eq_true_eq, beq_iff_eq, en_sb_iff] at hq ⊢
    refine ⟨hE, by omega, fun i hi => ?_⟩
    unfold en_pa
    by_cases h : i = sz
    · rw [if_pos h, h]; exact hq.2
    · rw [if_neg h]; exact hq.1.1.2.2 i (by omega)
  · rintro ⟨n, hn, hq⟩
    refine ⟨n, hn, en_sb_E hq, ?_⟩
    simp only [Bool.and_eq_true, decide_eq_true_eq, beq_iff_eq, en_sb_iff] at hq ⊢
    refine ⟨⟨⟨hq.1, by omega, fun i hi => ?_⟩, by omega⟩, ?_⟩
    · have := hq.2.2 i (by omega)
      unfold en_pa at this
      rw [if_neg (by omega)] at this
      exact this
    · have := hq.2.2 sz (by omega)
      unfold en_pa at this
      rw [if_pos rfl] at this
      exact this
theorem en_before {L t pd : Nat → Nat} {sz : Nat} {l : List Nat} (ht : ∀ n, t n < 4) (hL : ∀ s, L s ≤ 9) (hp : l.Perm ((List.range 96).filter (en_E L))) :
    en_fo (fun n => en_sb L t pd sz n && decide (0 < n % 16)) (fun n => en_sh (t (n - 1))) 0 l = en_Y (fun k => decide (0 < en_ct (en_sb L t (en_pb pd k) (sz + 1)) 96)) 4 := by
  rw [en_fo_Y _ _ (fun n => ht (n - 1)), Int32.or_comm, Int32.or_zero]
  apply en_Y4_ext
  intro k _
  apply en_any hp
  constructor
  · rintro ⟨n, hn, hE, hq⟩
    simp only [Bool.and_eq_true, decide_eq_true_eq, beq_iff_eq, en_sb_iff] at hq
    obtain ⟨⟨⟨_, h1, h2⟩, h3⟩, h4⟩ := hq
    have d : (n - 1) / 16 = n / 16 := by omega
    have m : (n - 1) % 16 = n % 16 - 1 := by omega
    have hE' := en_E_iff.mp hE
    refine ⟨n - 1, by omega, en_sb_iff.mpr ⟨en_E_iff.mpr ?_, ?_, fun i hi => ?_⟩⟩
    · rw [d, m]; omega
    · unfold en_ln at h1 ⊢
      rw [d, m]; omega
    · unfold en_pb
      by_cases h : i = 0
      · rw [if_pos h, h]; exact h4
      · rw [if_neg h, show n - 1 + i = n + (i - 1) from by omega]; exact h2 (i - 1) (by omega)
  · rintro ⟨n, hn, hq⟩
    have hq' := en_sb_iff.mp hq
    obtain ⟨hE, h1, h2⟩ := hq'
    have hE' := en_E_iff.mp hE
    have hb := hL (n / 16)
    unfold en_ln at h1
    have d : (n + 1) / 16 = n / 16 := by omega
    have m : (n + 1) % 16 = n % 16 + 1 := by omega
    have hE2 : en_E L (n + 1) = true := en_E_iff.mpr (by rw [d, m]; omega)
    refine ⟨n + 1, by omega, hE2, ?_⟩
    simp only [Bool.and_eq_true, decide_eq_true_eq, beq_iff_eq, en_sb_iff]
    refine ⟨⟨⟨hE2, ?_, fun i hi => ?_⟩, by omega⟩, ?_⟩
    · unfold en_ln
      rw [d, m]; omega
    · have := h2 (i + 1) (by omega)
      unfold en_pb at this
      rw [if_neg (by omega), Nat.add_sub_cancel] at this
      rw [show n + 1 + i = n + (i + 1) from by omega]
      exact this
    · have := h2 0 (by omega)
      unfold en_pb at this
      rw [if_pos rfl] at this
      exact this
/-- sums over the rank's order -/
theorem en_K_pre {w : Nat → List Nat} {p q : List Nat} {y a : Nat} (hs : en_so w (p ++ y :: a :: q)) : en_K w (y :: p.reverse) a = en_cp (w y) (w a) := by
  unfold en_so at hs
  rw [List.pairwise_append] at hs
  apply en_K_srt
  · intro v hv
    exact hs.2.2 v (List.mem_reverse.mp hv) y (by simp)
  · exact (List.pairwise_cons.mp hs.2.1).1 a (by simp)
end
section
/-! a text comes, a text goes -/
def en_mv (t D : Nat → Nat) (s i : Nat) : Nat → Nat := fun n => if n / 16 = s ∧ n % 16 < i then D (n % 16) else t n
theorem en_mv_0 (t D : Nat → Nat) (s : Nat) : en_mv t D s 0 = t := by
  funext n
  exact if_neg (fun z => by omega)
theorem en_mv_lt {t D : Nat → Nat} {s i : Nat} (ht : ∀ n, t n < 4) (hD : ∀ n, D n < 4) : ∀ n, en_mv t D s i n < 4 := by
  intro n
  unfold en_mv
  split
  · exact hD _
  · exact ht _
theorem en_mv_step (t D : Nat → Nat) (s : Nat) {i : Nat} (hi : i < 16) : upd (fun n => nI (en_mv t D s i n)) (16 * s + i) (nI (D i)) = fun n => nI (en_mv t D s (i + 1) n) := by
  funext n
  unfold upd
  by_cases h : n = 16 * s + i
  · rw [if_pos h]
    unfold en_mv
    have h1 : n / 16 = s ∧ n % 16 < i + 1 := by omega
    have h2 : n % 16 = i := by omega
    rw [if_pos h1, h2]
  · rw [if_neg h]
    unfold en_mv
    dsimp only
    by_cases h1 : n / 16 = s ∧ n % 16 < i
    · rw [if_pos h1, if_pos (by omega)]
    · rw [if_neg h1, if_neg (by omega)]
/-- the reference's letters, by slot -/
def en_Ls (le : Nat → Int32) (t : Nat → Nat) : Prop := ∀ s, s < 6 → ∀ i, i < 9 → le (9 * s + i) = nI (t (16 * s + i))
def en_Ld (le : Nat → Int32) (D : Nat → Nat) : Prop := ∀ i, i < 9 → le (54 + i) = nI (D i)
def en_Ln (ln : Nat → Int32) (L : Nat → Nat) : Prop := ∀ s, s < 6 → ln s = nI (L s)
theorem en_Ls_step {le : Nat → Int32} {t D : Nat → Nat} {s i : Nat} (hs : s < 6) (hi : i < 9) (h : en_Ls le (en_mv t D s i)) : en_Ls (upd le (9 * s + i) (nI (D i))) (en_mv t D s (i + 1)) := by
  intro s' hs' j hj
  have e := congrFun (en_mv_step t D s (i := i) (by omega)) (16 * s' + j)
  rw [← e]
  unfold upd
  by_cases h1 : 9 * s' + j = 9 * s + i
  · rw [if_pos h1, if_pos (by omega)]
  · rw [if_neg h1, if_neg (by omega)]
    exact h s' hs' j hj
theorem en_Ld_step {le : Nat → Int32} {D : Nat → Nat} {k : Nat} {v : Int32} (hk : k < 54) (h : en_Ld le D) : en_Ld (upd le k v) D := by
  intro i hi
  unfold upd
  rw [if_neg (by omega)]
  exact h i hi
theorem en_Ln_up {ln : Nat → Int32} {L : Nat → Nat} {s v : Nat} (h : en_Ln ln L) : en_Ln (upd ln s (nI v)) (en_up L s v) := by
  intro x hx
  unfold upd en_up
  by_cases e : x = s
  · rw [if_pos e, if_pos e]
  · rw [if_neg e, if_neg e]
    exact h x hx
theorem en_Ln_hi {ln : Nat → Int32} {L : Nat → Nat} {k : Nat} {v : Int32} (hk : 6 ≤ k) (h : en_Ln ln L) : en_Ln (upd ln k v) L := by
  intro x hx
  unfold upd
  rw [if_neg (by omega)]
  exact h x hx
theorem en_up_le {L : Nat → Nat} {s v : Nat} (hL : ∀ x, L x ≤ 9) (hv : v ≤ 9) : ∀ x, en_up L s v x ≤ 9 := by
  intro x
  unfold en_up
  split
  · exact hv
  · exact hL x
/-- the invariant of the ranks -/
def en_In (L t : Nat → Nat) (l : List Nat) : Prop := (∀ n, t n < 4) ∧ (∀ s, L s ≤ 9) ∧ en_so (en_w L t) l ∧ ∀ n, n ∈ l ↔ n < 96 ∧ en_E L n = true
theorem en_In_perm {L t : Nat → Nat} {l : List Nat} (h : en_In L t l) : l.Perm ((List.range 96).filter (en_E L)) := en_perm h.2.2.1 h.2.2.2
theorem en_In_len {L t : Nat → Nat} {l : List Nat} (h : en_In L t l) : l.length = en_sm L 6 := en_tot h.2.1 (en_In_perm h)
theorem en_In_60 {L t : Nat → Nat} {l : List Nat} (h : en_In L t l) : l.length ≤ 60 := by
  rw [en_In_len h]
  exact en_sm_le h.2.1 6
theorem en_rem {L t : Nat → Nat} {l : List Nat} (h : en_In L t l) (s : Nat) : en_In (en_up L s 0) t (l.filter (fun n => !decide (n / 16 = s))) := by
  obtain ⟨h1, h2, h3, h4⟩ := h
  refine ⟨h1, en_up_le h2 (by decide), ?_, ?_⟩
  · refine en_so_keep (en_fil _ h3) ?_
    intro n hn
    rw [List.mem_filter] at hn
    have hne : n / 16 ≠ s := by simpa using hn.2
    exact en_w_keep h2 (en_up_n hne) (fun m _ => rfl)
  · intro n
    rw [List.mem_filter, h4 n, en_E_iff, en_E_iff]
    by_cases e : n / 16 = s
    · rw [e, en_up_s]
      simp
    · rw [en_up_n e]
      simp [e]
/-- while the endings of slot s come in: i of them are there -/
def en_Ad (L t : Nat → Nat) (s i : Nat) (l : List Nat) : Prop := (∀ n, t n < 4) ∧ (∀ x, L x ≤ 9) ∧ s < 6 ∧ 0 < L s ∧ en_so (en_w L t) l ∧ ∀ n, n ∈ l ↔ n < 96 ∧ en_E L n = true ∧ (n / 16 = s → n % 16 < i)
theorem en_Ad_0 {L t D : Nat → Nat} {l : List Nat} {s dl : Nat} (h : en_In L t l) (hs : s < 6) (h0 : L s = 0) (hd : 0 < dl) (hd9 : dl ≤ 9) (hD : ∀ n, D n < 4) : en_Ad (en_up L s dl) (en_mv t D s dl) s 0 l := by
  obtain ⟨h1, h2, h3, h4⟩ := h
  refine ⟨en_mv_lt h1 hD, en_up_le h2 hd9, hs, by rw [en_up_s]; exact hd, ?_, ?_⟩
  · refine en_so_keep h3 ?_
    intro n hn
    have hE := en_E_iff.mp ((h4 n).mp hn).2
    have hne : n / 16 ≠ s := by
      intro e
      rw [e, h0] at hE
      omega
    refine en_w_keep h2 (en_up_n hne) ?_
    intro m hm
    unfold en_mv
    rw [if_neg (by omega)]
  · intro n
    rw [h4 n, en_E_iff, en_E_iff]
    by_cases e : n / 16 = s
    · rw [e, en_up_s, h0]
      omega
    · rw [en_up_n e]
      constructor
      · intro z
        exact ⟨z.1, z.2, fun z2 => absurd z2 e⟩
      · intro z
        exact ⟨z.1, z.2.1⟩
theorem en_Ad_E {L t : Nat → Nat} {l : List Nat} {s i n : Nat} (h : en_Ad L t s i l) (hn : n ∈ l) : en_E L n = true := ((h.2.2.2.2.2 n).mp hn).2.1
theorem en_Ad_new {L t : Nat → Nat} {l : List Nat} {s i : Nat} (h : en_Ad L t s i l) (hi : i ≤ L s) : en_E L (16 * s + i) = true ∧ 16 * s + i ∉ l := by
  obtain ⟨_, h2, h3, h4, _, h6⟩ := h
  have hL := h2 s
  have d : (16 * s + i) / 16 = s := by omega
  have m : (16 * s + i) % 16 = i := by omega
  constructor
  · rw [en_E_iff, d, m]; omega
  · intro hn
    have := ((h6 _).mp hn).2.2 d
    omega
theorem en_Ad_step {L t : Nat → Nat} {p q : List Nat} {s i : Nat} (h : en_Ad L t s i (p ++ q)) (hi : i ≤ L s) (h1 : ∀ x, x ∈ p → en_bf (en_w L t) x (16 * s + i) = true) (h2 : ∀ x, x ∈ q → en_bf (en_w L t) (16 * s + i) x = true) : en_Ad L t s (i + 1) (p ++ (16 * s + i) :: q) := by
  have hnew := en_Ad_new h hi
  obtain ⟨a1, a2, a3, a4, a5, a6⟩ := h
  have hL := a2 s
  refine ⟨a1, a2, a3, a4, en_ins a5 h1 h2, ?_⟩
  intro n
  have h6 := a6 n
  rw [List.mem_append] at h6
  rw [List.mem_append, List.mem_cons]
  have d : (16 * s + i) / 16 = s := by omega
  have m : (16 * s + i) % 16 = i := by omega
  by_cases e : n = 16 * s + i
  · constructor
    · intro _
      rw [e]
      exact ⟨by omega, hnew.1, by omega⟩
    · intro _
      exact Or.inr (Or.inl e)
  · have e2 : n / 16 = s → n % 16 ≠ i := by omega
    constructor
    · intro z
      have hz : n ∈ p ∨ n ∈ q := by
        rcases z with z | z | z
        · exact Or.inl z
        · exact absurd z e
        · exact Or.inr z
      have := h6.mp hz
      exact ⟨this.1, this.2.1, fun y => by have := this.2.2 y; omega⟩
    · intro z
      have : n ∈ p ∨ n ∈ q := h6.mpr ⟨z.1, z.2.1, fun y => by have := z.2.2 y; have := e2 y; omega⟩
      rcases this with y | y
      · exact Or.inl y
      · exact Or.inr (Or.inr y)
theorem en_Ad_end {L t : Nat → Nat} {l : List Nat} {s : Nat} (h : en_Ad L t s (L s + 1) l) : en_In L t l := by
  obtain ⟨a1, a2, a3, a4, a5, a6⟩ := h
  refine ⟨a1, a2, a5, ?_⟩
  intro n
  rw [a6 n]
  constructor
  · intro z; exact ⟨z.1, z.2.1⟩
  · intro z
    refine ⟨z.1, z.2, fun e => ?_⟩
    have := en_E_iff.mp z.2
    rw [e] at this
    omega
theorem en_Ad_60 {L t : Nat → Nat} {l : List Nat} {s i : Nat} (h : en_Ad L t s i l) : l.length ≤ 60 := en_room h.2.1 (en_nd h.2.2.2.2.1) (fun _ hn => en_Ad_E h hn)
theorem en_Ad_59 {L t : Nat → Nat} {l : List Nat} {s i : Nat} (h : en_Ad L t s i l) (hi : i ≤ L s) : l.length < 60 := by
  have hnew := en_Ad_new h hi
  have h1 : ((16 * s + i) :: l).Nodup := List.nodup_cons.mpr ⟨hnew.2, en_nd h.2.2.2.2.1⟩
  have h2 := en_room h.2.1 h1 (fun n hn => by
    rcases List.mem_cons.mp hn with z | z
    · rw [z]; exact hnew.1
    · exact en_Ad_E h z)
  simp only [List.length_cons] at h2
  omega
end
section
/-! the component's reading methods against the pure picture -/
abbrev en_X (fd fc : Int32) (t L : Nat → Nat) (dr rk : Nat → Int32) : SX := (fd, fc, fun n => nI (t n), fun s => nI (L s), dr, rk)
def en_b (b : Bool) : Int32 := if b = true then 1 else 0
theorem en_p0 {post : Int32 → Prop} {b : Bool} (h : post (en_b b)) (e : b = false) : post 0 := by subst e; exact h
theorem en_p1 {post : Int32 → Prop} {b : Bool} (h : post (en_b b)) (e : b = true) : post 1 := by subst e; exact h
theorem en_d16 {n : Nat} (h : n < 2 ^ 31) : nI n / 16 = nI (n / 16) := pk_div (d := 16) h (by decide) (by decide)
theorem en_m16 {n : Nat} (h : n < 2 ^ 31) : nI n - nI n / 16 * 16 = nI (n % 16) := pk_rem (d := 16) h (by decide) (by decide)
theorem en_n16 : ¬ (16 : Int32) = 0 := by decide
theorem en_E_b {L : Nat → Nat} (hL : ∀ s, L s ≤ 9) {n : Nat} (h : en_E L n = true) : n < 96 ∧ n % 16 ≤ L (n / 16) ∧ en_ln L n ≤ 9 ∧ n + en_ln L n ≤ 96 ∧ n % 16 + en_ln L n ≤ 9 := by
  have h1 := en_E_iff.mp h
  have h2 := hL (n / 16)
  unfold en_ln
  omega
theorem en_cp_step (t : Nat → Nat) (a b : Nat) {la lb j : Nat} (ha : j < la) (hb : j < lb) : en_cp (en_wd t (a + j) (la - j)) (en_wd t (b + j) (lb - j)) = if t (a + j) = t (b + j) then en_cp (en_wd t (a + (j + 1)) (la - (j + 1))) (en_wd t (b + (j + 1)) (lb - (j + 1))) + 1 else 0 := by
  obtain ⟨x, hx⟩ : ∃ x, la - j = x + 1 := ⟨la - (j + 1), by omega⟩
  obtain ⟨y, hy⟩ : ∃ y, lb - j = y + 1 := ⟨lb - (j + 1), by omega⟩
  have hx2 : la - (j + 1) = x := by omega
  have hy2 : lb - (j + 1) = y := by omega
  rw [hx, hy, hx2, hy2]
  simp only [en_wd, en_cp]
  rfl
theorem en_cp_end (t : Nat → Nat) (a b : Nat) {la lb j : Nat} (h : la ≤ j ∨ lb ≤ j) : en_cp (en_wd t (a + j) (la - j)) (en_wd t (b + j) (lb - j)) = 0 := by
  rcases h with h | h
  · rw [show la - j = 0 from by omega]
    simp only [en_wd, en_cp]
  · rw [show lb - j = 0 from by omega]
    cases h2 : en_wd t (a + j) (la - j) with
    | nil => simp only [en_cp]
    | cons x xs => simp only [en_wd, en_cp]
section
variable {fd fc : Int32} {t L : Nat → Nat} {dr rk : Nat → Int32}
theorem xw_el (post : Int32 → Prop) {n : Nat} (hn : n < 96) (hE : n % 16 ≤ L (n / 16)) (h : post (nI (en_ln L n))) : wpX_endingLength post (en_X fd fc t L dr rk) (nI n) := by
  have e1 := en_d16 (n := n) (by omega)
  have e2 := en_m16 (n := n) (by omega)
  refine ⟨en_n16, ?_, en_n16, ?_⟩
  · rw [e1]
    exact vp_in_nI (by omega) (by decide)
  · rw [e2, e1, nI_clamp (by omega)]
    show post (nI (L (n / 16)) - nI (n % 16))
    rw [pk_sub hE]
    exact h
theorem xw_cl (post : Int32 → Prop) {ln : Nat → Int32} (a b la lb m : Nat) (hm : m = la ∧ la ≤ lb ∨ m = lb ∧ lb ≤ la) (h1 : a + m ≤ 96) (h2 : b + m ≤ 96) (ht : ∀ n, t n < 4) : ∀ (d j : Nat), j + d = m →
    post (nI (j + en_cp (en_wd t (a + j) (la - j)) (en_wd t (b + j) (lb - j)))) → wX_commonLetters_30 post (nI a) (nI b) (nI m) fd fc (fun n => nI (t n)) ln dr rk (d + 1) (nI j) := by
  intro d
  induction d with
  | zero =>
    intro j hj hp
    rw [en_cp_end t a b (by omega)] at hp
    exact br_t (nI_le (by omega) (by omega)) hp
  | succ d ih =>
    intro j hj hp
    have e := en_cp_step t a b (la := la) (lb := lb) (j := j) (by omega) (by omega)
    rw [e] at hp
    refine br_f (nI_ge (by omega) (by omega)) ⟨?_, ?_, ?_⟩
    · rw [nI_add]; exact vp_in_nI (by omega) (by decide)
    · rw [nI_add]; exact vp_in_nI (by omega) (by decide)
    · rw [nI_add, nI_add, nI_clamp (by omega), nI_clamp (by omega)]
      have ha := ht (a + j)
      have hb := ht (b + j)
      by_cases z : t (a + j) = t (b + j)
      · rw [if_pos z] at hp
        refine br_t (show nI (t (a + j)) = nI (t (b + j)) from by rw [z]) (nm_r (nI_1 j) (ih (j + 1) (by omega) ?_))
        rw [show j + 1 + en_cp (en_wd t (a + (j + 1)) (la - (j + 1))) (en_wd t (b + (j + 1)) (lb - (j + 1))) = j + (en_cp (en_wd t (a + (j + 1)) (la - (j + 1))) (en_wd t (b + (j + 1)) (lb - (j + 1))) + 1) from by omega]
        exact hp
      · rw [if_neg z] at hp
        refine br_f (show ¬ nI (t (a + j)) = nI (t (b + j)) from fun y => z ((nI_eq (by omega) (by omega)).mp y)) hp
theorem xw_common (post : Int32 → Prop) (ht : ∀ n, t n < 4) (hL : ∀ s, L s ≤ 9) {a b : Nat} (ha : en_E L a = true) (hb : en_E L b = true) (h : post (nI (en_cp (en_w L t a) (en_w L t b)))) : wpX_commonLetters post (en_X fd fc t L dr rk) (nI a) (nI b) := by
  have ba := en_E_b hL ha
  have bb := en_E_b hL hb
  have h' : post (nI (0 + en_cp (en_wd t (a + 0) (en_ln L a - 0)) (en_wd t (b + 0) (en_ln L b - 0)))) := by
    rw [Nat.zero_add]
    exact h
  unfold wpX_commonLetters
  dsimp only
  refine xw_el _ ba.1 ba.2.1 ?_
  refine xw_el _ bb.1 bb.2.1 ?_
  refine pk_le (en_ln L b) (en_ln L a) (fun hle => ⟨en_ln L b + 1, ?_⟩) (fun hlt => ⟨en_ln L a + 1, ?_⟩)
  · exact xw_cl post a b (en_ln L a) (en_ln L b) (en_ln L b) (by omega) (by omega) (by omega) ht (en_ln L b) 0 (by omega) h'
  · exact xw_cl post a b (en_ln L a) (en_ln L b) (en_ln L a) (by omega) (by omega) (by omega) ht (en_ln L a) 0 (by omega) h'
theorem en_bf_k (L t : Nat → Nat) (a b : Nat) :
    (en_cp (en_w L t a) (en_w L t b) < en_ln L a → en_cp (en_w L t a) (en_w L t b) < en_ln L b → en_bf (en_w L t) a b = decide (t (a + en_cp (en_w L t a) (en_w L t b)) < t (b + en_cp (en_w L t a) (en_w L t b))))
    ∧ (¬ (en_cp (en_w L t a) (en_w L t b) < en_ln L a ∧ en_cp (en_w L t a) (en_w L t b) < en_ln L b) → (en_ln L a = en_ln L b → en_bf (en_w L t) a b = decide (a < b)) ∧ (en_ln L a ≠ en_ln L b → en_bf (en_w L t) a b = decide (en_ln L a < en_ln L b))) := by
  obtain ⟨h1, h2⟩ := en_lx_k (en_w L t a) (en_w L t b)
  rw [en_w_len, en_w_len] at h1 h2
  refine ⟨fun p q => ?_, fun p => ⟨fun e => ?_, fun e => ?_⟩⟩
  · obtain ⟨g1, g2⟩ := h1 p q
    have ga : (en_w L t a).getD (en_cp (en_w L t a) (en_w L t b)) 0 = t (a + en_cp (en_w L t a) (en_w L t b)) := en_wd_get t _ _ _ p
    have gb : (en_w L t b).getD (en_cp (en_w L t a) (en_w L t b)) 0 = t (b + en_cp (en_w L t a) (en_w L t b)) := en_wd_get t _ _ _ q
    rw [ga, gb] at g1
    unfold en_bf
    rw [g1, decide_eq_false g2, Bool.false_and, Bool.or_false]
  · obtain ⟨g1, g2⟩ := h2 p
    unfold en_bf
    rw [g1, decide_eq_true (g2 e), Bool.true_and, decide_eq_false (by omega), Bool.false_or]
  · obtain ⟨g1, g2⟩ := h2 p
    have hne : ¬ en_w L t a = en_w L t b := fun z => e (by rw [← en_w_len L t a, ← en_w_len L t b, z])
    unfold en_bf
    rw [g1, decide_eq_false hne, Bool.false_and, Bool.or_false]
theorem xw_before (post : Int32 → Prop) (ht : ∀ n, t n < 4) (hL : ∀ s, L s ≤ 9) {a b : Nat} (ha : en_E L a = true) (hb : en_E L b = true) (h : post (en_b (en_bf (en_w L t) a b))) : wpX_comesBefore post (en_X fd fc t L dr rk) (nI a) (nI b) := by
  have ba := en_E_b hL ha
  have bb := en_E_b hL hb
  obtain ⟨k1, k2⟩ := en_bf_k L t a b
  unfold wpX_comesBefore
  dsimp only
  refine xw_el _ ba.1 ba.2.1 ?_
  refine xw_el _ bb.1 bb.2.1 ?_
  refine xw_common _ ht hL ha hb ?_
  have hk := en_cp_le (en_w L t a) (en_w L t b)
  rw [en_w_len, en_w_len] at hk
  generalize en_cp (en_w L t a) (en_w L t b) = k at *
  have h61 : ¬ (k < en_ln L a ∧ k < en_ln L b) → wX_comesBefore_61 post (nI a) (nI b) (nI (en_ln L a)) (nI (en_ln L b)) fd fc (fun n => nI (t n)) (fun s => nI (L s)) dr rk := by
    intro p
    obtain ⟨g1, g2⟩ := k2 p
    refine pk_eq (en_ln L a) (en_ln L b) (fun e => ?_) (fun e => ?_)
    · rw [g1 e] at h
      exact pk_le b a (fun z => en_p0 h (decide_eq_false (by omega))) (fun z => en_p1 h (decide_eq_true (by omega)))
    · rw [g2 e] at h
      exact pk_le (en_ln L b) (en_ln L a) (fun z => en_p0 h (decide_eq_false (by omega))) (fun z => en_p1 h (decide_eq_true (by omega)))
  refine pk_le (en_ln L a) k (fun z => h61 (by omega)) (fun z1 => ?_)
  refine pk_le (en_ln L b) k (fun z => h61 (by omega)) (fun z2 => ⟨?_, ?_, ?_⟩)
  · rw [nI_add]; exact vp_in_nI (by omega) (by decide)
  · rw [nI_add]; exact vp_in_nI (by omega) (by decide)
  · rw [nI_add, nI_add, nI_clamp (by omega), nI_clamp (by omega)]
    rw [k1 z1 z2] at h
    have h4 := ht (a + k)
    have h5 := ht (b + k)
    exact pk_le (t (b + k)) (t (a + k)) (fun z => en_p0 h (decide_eq_false (by omega))) (fun z => en_p1 h (decide_eq_true (by omega)))
end
end
section
/-! the component's changing methods -/
theorem en_last (p : List Nat) : p = [] ∨ ∃ p' x, p = p' ++ [x] := by
  rcases List.eq_nil_or_concat p with h | ⟨p', x, h⟩
  · exact Or.inl h
  · exact Or.inr ⟨p', x, by rw [h, List.concat_eq_append]⟩
section
variable {fd fc : Int32} {t L : Nat → Nat} {dr rk : Nat → Int32}
theorem xw_put (post : SX → Prop) {p q : List Nat} {n c : Nat} (hc : c < 60) (hpq : p.length + q.length = c) (a1 : en_At rk 0 p) (a2 : en_At rk (p.length + 1) q)
    (hp : ∀ rk', en_At rk' 0 (p ++ n :: q) → post (en_X fd (nI (c + 1)) t L dr rk')) :
    wX_rankEnding_45 post (nI n) (nI p.length) fd (nI c) (fun n => nI (t n)) (fun s => nI (L s)) dr rk := by
  refine ⟨vp_in_nI (by omega) (by decide), nm_e (nm_r (nI_1 c) ?_)⟩
  apply hp
  rw [nI_clamp (by omega), en_At_app, Nat.zero_add]
  refine ⟨en_At_lo p 0 (by omega) a1, if_pos rfl, en_At_hi q _ (by omega) a2⟩
theorem xw_rank5 (post : SX → Prop) (ht : ∀ n, t n < 4) (hL : ∀ s, L s ≤ 9) {l : List Nat} {n : Nat} (hn : en_E L n = true) (hnl : n ∉ l) (hl : ∀ x, x ∈ l → en_E L x = true) (hs : en_so (en_w L t) l) (hc : l.length < 60)
    (hp : ∀ p q rk', l = p ++ q → (∀ x, x ∈ p → en_bf (en_w L t) x n = true) → (∀ x, x ∈ q → en_bf (en_w L t) n x = true) → en_At rk' 0 (p ++ n :: q) → post (en_X fd (nI (l.length + 1)) t L dr rk')) :
    ∀ (m : Nat) (p q : List Nat) (rk : Nat → Int32), p.length = m → l = p ++ q → (∀ x, x ∈ q → en_bf (en_w L t) n x = true) → en_At rk 0 p → en_At rk (p.length + 1) q →
      wX_rankEnding_5 post (nI n) fd (nI l.length) (m + 1) (nI p.length) (fun n => nI (t n)) (fun s => nI (L s)) dr rk := by
  intro m
  induction m with
  | zero =>
    intro p q rk hm e hq a1 a2
    have e0 : p = [] := List.length_eq_zero_iff.mp hm
    subst e0
    refine br_t (by decide) ?_
    have hlen : ([] : List Nat).length + q.length = l.length := by rw [e]; simp
    exact xw_put post hc hlen a1 a2 (fun rk' h => hp [] q rk' e (fun x hx => by cases hx) hq h)
  | succ m ih =>
    intro p q rk hm e hq a1 a2
    rcases en_last p with h0 | ⟨p', x, h0⟩
    · rw [h0] at hm; cases hm
    · subst h0
      have hm' : p'.length = m := by simpa using hm
      have hlen : (p' ++ [x]).length + q.length = l.length := by rw [e]; exact (List.length_append).symm
      have hlen2 : (p' ++ [x]).length = p'.length + 1 := by simp
      have hx : x ∈ l := by rw [e]; simp
      rw [en_At_app, Nat.zero_add] at a1
      have hrx : rk p'.length = nI x := a1.2.1
      have hne : n ≠ x := fun z => hnl (by rw [z]; exact hx)
      have key : wX_rankEnding_5 post (nI n) fd (nI l.length) (m + 1 + 1) (nI (p'.length + 1)) (fun n => nI (t n)) (fun s => nI (L s)) dr rk := by
        refine br_f (nI_nle (by omega) (by omega)) ⟨?_, ?_⟩
        · rw [nI_pred]; exact vp_in_nI (by omega) (by decide)
        · have ec : (nI p'.length).toNatClampNeg = p'.length := nI_clamp (by omega)
          rw [nI_pred, ec, hrx]
          refine xw_before _ ht hL hn (hl x hx) ?_
          cases hb : en_bf (en_w L t) n x with
          | true =>
            refine br_f (show ¬ en_b true = 0 by decide) ⟨vp_in_nI (by omega) (by decide), vp_in_nI (by omega) (by decide), nm_e (nm_r (pk_m1 p'.length) ?_)⟩
            rw [nI_clamp (by omega)]
            refine ih p' (x :: q) _ hm' (by rw [e]; simp) ?_ (en_At_lo p' 0 (by omega) a1.1) ⟨if_pos rfl, ?_⟩
            · intro y hy
              rcases List.mem_cons.mp hy with z | z
              · rw [z]; exact hb
              · exact hq y z
            · refine en_At_hi q _ (by omega) ?_
              rw [hlen2] at a2
              exact a2
          | false =>
            refine br_t (show en_b false = 0 by decide) ?_
            rw [← hlen2]
            refine xw_put post hc hlen (en_At_app _ _ _ |>.mpr ⟨a1.1, by rw [Nat.zero_add]; exact a1.2⟩) a2 (fun rk' h => hp (p' ++ [x]) q rk' e ?_ hq h)
            have hxn : en_bf (en_w L t) x n = true := en_bf_tot hne hb
            intro y hy
            rw [List.mem_append] at hy
            rcases hy with hy | hy
            · have hs' := hs
              unfold en_so at hs'
              rw [e, List.append_assoc, List.pairwise_append] at hs'
              exact en_bf_tr (hs'.2.2 y hy x (by simp)) hxn
            · rw [List.mem_singleton] at hy
              rw [hy]; exact hxn
      rw [hlen2]
      exact key
theorem xw_ranks (post : SX → Prop) {s : Nat} (hp : ∀ l rk, en_In L t l → en_At rk 0 l → post (en_X fd (nI l.length) t L dr rk)) :
    ∀ (d i : Nat) (l : List Nat) (rk : Nat → Int32), i + d = L s + 1 → en_Ad L t s i l → en_At rk 0 l →
      wX_rankEndingsOf_9 post (nI s) (nI (L s)) (d + 1) (nI i) fd (nI l.length) (fun n => nI (t n)) (fun s => nI (L s)) dr rk := by
  intro d
  induction d with
  | zero =>
    intro i l rk hi hA a
    have hi' : i = L s + 1 := by omega
    subst hi'
    have := hA.2.1 s
    exact br_t (nI_lt (by omega) (by omega)) (hp l rk (en_Ad_end hA) a)
  | succ d ih =>
    intro i l rk hi hA a
    have h9 := hA.2.1 s
    have hnew := en_Ad_new hA (by omega)
    have h59 := en_Ad_59 hA (by omega)
    have h6 := hA.2.2.1
    refine br_f (nI_nlt (by omega) (by omega)) ?_
    have e : (16 : Int32) * nI s + nI i = nI (16 * s + i) := by
      rw [show (16 : Int32) = nI 16 from rfl, pk_mul, nI_add]
    rw [e]
    refine ⟨l.length + 1, ?_⟩
    refine xw_rank5 _ hA.1 hA.2.1 hnew.1 hnew.2 (fun x hx => en_Ad_E hA hx) hA.2.2.2.2.1 h59 ?_ l.length l [] rk rfl (by simp) (fun x hx => by cases hx) a trivial
    intro p q rk' el h1 h2 a'
    refine nm_r (nI_1 i) ?_
    have hlen : l.length + 1 = (p ++ (16 * s + i) :: q).length := by rw [el]; simp; omega
    rw [hlen]
    refine ih (i + 1) (p ++ (16 * s + i) :: q) rk' (by omega) ?_ a'
    rw [el] at hA
    exact en_Ad_step hA (by omega) h1 h2
theorem xw_move (post : SX → Prop) {D : Nat → Nat} {s dl : Nat} (hs : s < 6) (hd : dl ≤ 9) (hp : post (en_X (nI 0) fc (en_mv t D s dl) (en_up L s dl) (fun i => nI (D i)) rk)) :
    ∀ (d i : Nat), i + d = dl → wX_moveDraftTo_2 post (nI s) (nI dl) fc (d + 1) (nI i) (fun n => nI (en_mv t D s i n)) (fun s => nI (L s)) (fun i => nI (D i)) rk := by
  intro d
  induction d with
  | zero =>
    intro i hi
    have hi' : i = dl := by omega
    subst hi'
    refine br_t (nI_le (by omega) (by omega)) ⟨vp_in_nI (by omega) (by decide), nm_r ?_ hp⟩
    rw [nI_clamp (by omega)]
    exact en_up_I L s i
  | succ d ih =>
    intro i hi
    have e : (16 : Int32) * nI s + nI i = nI (16 * s + i) := by
      rw [show (16 : Int32) = nI 16 from rfl, pk_mul, nI_add]
    refine br_f (nI_ge (by omega) (by omega)) ⟨vp_in_nI (by omega) (by decide), ?_, nm_r ?_ (nm_r (nI_1 i) (ih (i + 1) (by omega)))⟩
    · rw [e]; exact vp_in_nI (by omega) (by decide)
    · rw [e, nI_clamp (by omega), nI_clamp (by omega)]
      exact en_mv_step t D s (by omega)
theorem xw_slot (post : Int32 → Prop) {u : SX} {n : Nat} (hn : n < 2 ^ 31) (h : post (nI (n / 16))) : wpX_slotOf post u (nI n) := by
  obtain ⟨a, b, c, d, e, f⟩ := u
  refine ⟨en_n16, ?_⟩
  rw [en_d16 hn]
  exact h
theorem xw_isSlot (post : Int32 → Prop) {u : SX} (v : Int32) (h0 : (v < 0 ∨ nI 6 ≤ v) → post 0) (h1 : ∀ s, s < 6 → v = nI s → post 1) : wpX_isSlot post u v := by
  obtain ⟨a, b, c, d, e, f⟩ := u
  rcases pk_ix v (n := 6) (by decide) with h | h | ⟨s, hs, h⟩
  · exact br_t h (h0 (Or.inl h))
  · refine br_c (fun _ => h0 (Or.inr h)) (fun _ => br_t h (h0 (Or.inr h)))
  · subst h
    exact br_f (nI_pos (by omega)) (br_f (nI_ge (b := 6) hs (by decide)) (h1 s hs rfl))
theorem xw_unrank (post : SX → Prop) {s : Nat} (hs : s < 6) {l : List Nat} (hl : l.length ≤ 60) (hE : ∀ x, x ∈ l → x < 96)
    (hp : ∀ rk', en_At rk' 0 (l.filter (fun n => !decide (n / 16 = s))) → post (en_X fd (nI (l.filter (fun n => !decide (n / 16 = s))).length) t L dr rk')) :
    ∀ (m p : List Nat) (rk : Nat → Int32), l = p ++ m → en_At rk 0 (p.filter (fun n => !decide (n / 16 = s))) → en_At rk p.length m →
      wX_unrankEndingsOf_4 post (nI s) fd (nI l.length) (m.length + 1) (nI (p.filter (fun n => !decide (n / 16 = s))).length) (nI p.length) (fun n => nI (t n)) (fun s => nI (L s)) dr rk := by
  intro m
  induction m with
  | nil =>
    intro p rk e a1 _
    rw [List.append_nil] at e
    subst e
    exact br_t (nI_le (Nat.le_refl _) (by omega)) (hp rk a1)
  | cons x m ih =>
    intro p rk e a1 a2
    have hlen : p.length + (m.length + 1) = l.length := by rw [e]; simp
    have hx : x < 96 := hE x (by rw [e]; simp)
    have hk : (p.filter (fun n => !decide (n / 16 = s))).length ≤ p.length := List.length_filter_le _ _
    have e' : l = (p ++ [x]) ++ m := by rw [e]; simp
    have hlp : (p ++ [x]).length = p.length + 1 := by simp
    have hin : vp_in (nI p.length) 60 := vp_in_nI (by omega) (by decide)
    refine br_f (nI_ge (by omega) (by omega)) ⟨hin, ?_⟩
    have ec : (nI p.length).toNatClampNeg = p.length := nI_clamp (by omega)
    rw [ec, a2.1]
    refine xw_slot _ (by omega) ?_
    refine pk_eq (x / 16) s (fun z => ?_) (fun z => ?_)
    · refine nm_r (nI_1 p.length) ?_
      have ef : (p ++ [x]).filter (fun n => !decide (n / 16 = s)) = p.filter (fun n => !decide (n / 16 = s)) := by
        rw [List.filter_append]; simp [z]
      have := ih (p ++ [x]) rk e' (by rw [ef]; exact a1) (by rw [hlp]; exact a2.2)
      rw [ef, hlp] at this
      exact this
    · have ef : (p ++ [x]).filter (fun n => !decide (n / 16 = s)) = p.filter (fun n => !decide (n / 16 = s)) ++ [x] := by
        rw [List.filter_append]; simp [z]
      have efl : ((p ++ [x]).filter (fun n => !decide (n / 16 = s))).length = (p.filter (fun n => !decide (n / 16 = s))).length + 1 := by rw [ef]; simp
      refine ⟨hin, vp_in_nI (by omega) (by decide), nm_e (nm_r (nI_1 _) (nm_r (nI_1 p.length) ?_))⟩
      rw [nI_clamp (by omega)]
      have := ih (p ++ [x]) (upd rk (p.filter (fun n => !decide (n / 16 = s))).length (nI x)) e' (by
        rw [ef, en_At_app, Nat.zero_add]
        exact ⟨en_At_lo _ 0 (by omega) a1, if_pos rfl, trivial⟩) (by rw [hlp]; exact en_At_hi m _ (by omega) a2.2)
      rw [efl, hlp] at this
      exact this
end
end
section
/-! the component's questions -/
theorem en_2pow (i : Nat) : 2 ^ (2 * i) = 4 ^ i := by rw [Nat.pow_mul]
theorem en_2I (i : Nat) : (2 : Int32) * nI i = nI (2 * i) := by rw [show (2 : Int32) = nI 2 from rfl, pk_mul]
theorem en_shr {q i : Nat} (hq : q < 2 ^ 31) (hi : i ≤ 6) : nI q >>> (((2 : Int32) * nI i) &&& 31) = nI (q / 4 ^ i) := by
  rw [en_2I, pk_shrN hq _ (2 * i) (s_l (2 * i) (by omega)), en_2pow]
theorem en_shr_no {p : Int32} (hn : ∀ q sz, sz ≤ 6 → p = nI q → q < 2 ^ 31 → q / 4 ^ sz ≠ 1) {i : Nat} (hi : i ≤ 6) : ¬ p >>> (((2 : Int32) * nI i) &&& 31) = 1 := by
  intro h
  by_cases hp : p < 0
  · have e := pk_shr p (((2 : Int32) * nI i) &&& 31) (2 * i) (by rw [en_2I]; exact s_l (2 * i) (by omega))
    rw [h, Int.shiftRight_eq_div_pow] at e
    rw [Int32.lt_iff_toInt_lt, show (0 : Int32).toInt = 0 from by decide] at hp
    rw [show (1 : Int32).toInt = 1 from by decide] at e
    have hpos : (0 : Int) < ((2 ^ (2 * i) : Nat) : Int) := by
      have := Nat.two_pow_pos (2 * i)
      omega
    have := Int.ediv_neg_of_neg_of_pos hp hpos
    omega
  · obtain ⟨q, hq, e⟩ := nI_of hp
    rw [e, en_shr hq hi] at h
    have h2 : q / 4 ^ i ≤ q := Nat.div_le_self _ _
    exact hn q i hi e hq ((nI_eq (b := 1) (by omega) (by decide)).mp h)
theorem en_V_lt {q sz : Nat} (h6 : sz ≤ 6) (hq : q / 4 ^ sz = 1) : q < 8192 := by
  have h1 := Nat.div_add_mod q (4 ^ sz)
  have h2 := Nat.mod_lt q (Nat.pow_pos (n := sz) (show 0 < 4 by decide))
  have h3 := en_p6 h6
  rw [hq] at h1
  omega
section
variable {fd fc : Int32} {t L : Nat → Nat} {dr rk : Nat → Int32}
theorem xw_ps_yes (post : Int32 → Prop) {tx ln : Nat → Int32} {q sz : Nat} (h6 : sz ≤ 6) (hq : q / 4 ^ sz = 1) (hp : post (nI sz)) : ∀ (d i : Nat), i + d = sz → wX_patternSize_2 post (nI q) fd fc tx ln dr rk (d + 1) (nI i) := by
  have hlt := en_V_lt h6 hq
  intro d
  induction d with
  | zero =>
    intro i hi
    have hi' : i = sz := by omega
    subst hi'
    refine br_f (nI_nlt (a := 6) (by omega) (by decide)) (br_t ?_ hp)
    rw [en_shr (by omega) h6, hq]
    rfl
  | succ d ih =>
    intro i hi
    refine br_f (nI_nlt (a := 6) (by omega) (by decide)) (br_f ?_ (nm_r (nI_1 i) (ih (i + 1) (by omega))))
    rw [en_shr (by omega) (by omega)]
    intro z
    have h4 := en_pre hq (s := i) (by omega)
    have h2 : q / 4 ^ i ≤ q := Nat.div_le_self _ _
    have := (nI_eq (b := 1) (by omega) (by decide)).mp z
    omega
theorem xw_ps_no (post : Int32 → Prop) {tx ln : Nat → Int32} {p : Int32} (hn : ∀ q sz, sz ≤ 6 → p = nI q → q < 2 ^ 31 → q / 4 ^ sz ≠ 1) (hp : post (-1)) : ∀ (d i : Nat), i + d = 7 → wX_patternSize_2 post p fd fc tx ln dr rk (d + 1) (nI i) := by
  intro d
  induction d with
  | zero =>
    intro i hi
    exact br_t (nI_lt (a := 6) (by omega) (by omega)) hp
  | succ d ih =>
    intro i hi
    exact br_f (nI_nlt (a := 6) (by omega) (by decide)) (br_f (en_shr_no hn (by omega)) (nm_r (nI_1 i) (ih (i + 1) (by omega))))
/-- the pattern: its size, or none -/
def en_V (p : Int32) (q sz : Nat) : Prop := sz ≤ 6 ∧ q / 4 ^ sz = 1 ∧ p = nI q
theorem en_V_or (p : Int32) : (∃ q sz, en_V p q sz) ∨ ∀ q sz, sz ≤ 6 → p = nI q → q < 2 ^ 31 → q / 4 ^ sz ≠ 1 := by
  by_cases h : ∃ q sz, en_V p q sz
  · exact Or.inl h
  · exact Or.inr (fun q sz h6 hp _ hq => h ⟨q, sz, h6, hq, hp⟩)
theorem xw_ps (post : Int32 → Prop) {u : SX} {p : Int32} (hy : ∀ q sz, en_V p q sz → post (nI sz)) (hn : (∀ q sz, sz ≤ 6 → p = nI q → q < 2 ^ 31 → q / 4 ^ sz ≠ 1) → post (-1)) : wpX_patternSize post u p := by
  obtain ⟨a, b, c, d, e, f⟩ := u
  rcases en_V_or p with ⟨q, sz, h6, hq, hp⟩ | h
  · subst hp
    exact ⟨sz + 1, xw_ps_yes post h6 hq (hy q sz ⟨h6, hq, rfl⟩) sz 0 (by omega)⟩
  · exact ⟨8, xw_ps_no post h (hn h) 7 0 (by omega)⟩
theorem xw_st17 (post : Int32 → Prop) {ln : Nat → Int32} (ht : ∀ n, t n < 4) {n q sz : Nat} (h6 : sz ≤ 6) (hq : q < 8192) (hn : n + sz ≤ 96) (h : post (en_b (decide (en_bg t n sz = q)))) :
    ∀ (d j : Nat), j + d = sz → wX_standsAt_17 post (nI q) (nI sz) (nI n) fd fc (fun n => nI (t n)) ln dr rk (d + 1) (nI (en_bg t n j)) (nI j) := by
  intro d
  induction d with
  | zero =>
    intro j hj
    have hj' : j = sz := by omega
    subst hj'
    have h1 := en_bg_lt ht n j
    have h2 := en_p6 h6
    refine br_t (nI_le (by omega) (by omega)) ?_
    exact pk_eq (en_bg t n j) q (fun z => en_p1 h (decide_eq_true z)) (fun z => en_p0 h (decide_eq_false z))
  | succ d ih =>
    intro j hj
    refine br_f (nI_ge (by omega) (by omega)) ⟨?_, nm_r ?_ (nm_r (nI_1 j) (ih (j + 1) (by omega)))⟩
    · rw [nI_add]; exact vp_in_nI (by omega) (by decide)
    · rw [nI_add, nI_clamp (by omega)]
      show nI (en_bg t n j) * 4 + nI (t (n + j)) = nI (en_bg t n j * 4 + t (n + j))
      rw [show (4 : Int32) = nI 4 from rfl, pk_mul, nI_add]
theorem xw_stands (post : Int32 → Prop) (ht : ∀ n, t n < 4) (hL : ∀ s, L s ≤ 9) {n q sz : Nat} (hn : en_E L n = true) (h6 : sz ≤ 6) (hq : q / 4 ^ sz = 1) (h : post (en_b (en_sb L t (en_pd q sz) sz n))) : wpX_standsAt post (en_X fd fc t L dr rk) (nI q) (nI sz) (nI n) := by
  have bn := en_E_b hL hn
  have hlt := en_V_lt h6 hq
  unfold wpX_standsAt
  dsimp only
  refine xw_el _ bn.1 bn.2.1 ?_
  refine pk_le sz (en_ln L n) (fun hle => ⟨sz + 1, ?_⟩) (fun hgt => ?_)
  · have e : en_sb L t (en_pd q sz) sz n = decide (en_bg t n sz = q) := by
      have g := en_bg_iff ht hq n sz (Nat.le_refl _)
      rw [Nat.sub_self, Nat.pow_zero, Nat.div_one] at g
      rw [Bool.eq_iff_iff, en_sb_iff, decide_eq_true_eq, g]
      exact ⟨fun z => z.2.2, fun z => ⟨hn, hle, z⟩⟩
    rw [e] at h
    exact xw_st17 post ht h6 hlt (by omega) h sz 0 (by omega)
  · refine en_p0 h ?_
    rw [Bool.eq_false_iff]
    intro z
    have := (en_sb_iff.mp z).2.1
    omega
theorem xw_rank (post : Int32 → Prop) {c : Nat} (hc : c ≤ 60) {tx ln : Nat → Int32} (k : Int32) : ∀ (m : List Nat) (i : Nat), en_At rk i m → i + m.length = c → post (en_ix m i k) → wX_rank_2 post k fd (nI c) tx ln dr rk (m.length + 1) (nI i) := by
  intro m
  induction m with
  | nil =>
    intro i _ hi hp
    simp only [List.length_nil] at hi
    exact br_t (nI_le (by omega) (by omega)) hp
  | cons x m ih =>
    intro i a hi hp
    simp only [List.length_cons] at hi
    refine br_f (nI_ge (by omega) (by omega)) ⟨vp_in_nI (by omega) (by decide), ?_⟩
    rw [nI_clamp (by omega), a.1]
    have e : en_ix (x :: m) i k = if nI x = k then nI i else en_ix m (i + 1) k := rfl
    rw [e] at hp
    by_cases z : nI x = k
    · rw [if_pos z] at hp
      exact br_t z hp
    · rw [if_neg z] at hp
      exact br_f z (nm_r (nI_1 i) (ih (i + 1) a.2 (by omega) hp))
section
variable {q sz c : Nat}
theorem xw_count (ht : ∀ n, t n < 4) (hL : ∀ s, L s ≤ 9) (h6 : sz ≤ 6) (hq : q / 4 ^ sz = 1) (hc : c ≤ 60) (post : Int32 → Prop) : ∀ (m : List Nat) (i f : Nat), en_At rk i m → i + m.length = c → (∀ x, x ∈ m → en_E L x = true) →
    post (nI (f + m.countP (en_sb L t (en_pd q sz) sz))) → wX_count_17 post (nI q) (nI sz) fd (nI c) (fun n => nI (t n)) (fun s => nI (L s)) dr rk (m.length + 1) (nI f) (nI i) := by
  intro m
  induction m with
  | nil =>
    intro i f _ hi _ hp
    simp only [List.length_nil] at hi
    exact br_t (nI_le (by omega) (by omega)) hp
  | cons x m ih =>
    intro i f a hi hE hp
    simp only [List.length_cons] at hi
    refine br_f (nI_ge (by omega) (by omega)) ⟨vp_in_nI (by omega) (by decide), ?_⟩
    rw [nI_clamp (by omega), a.1]
    refine xw_stands _ ht hL (hE x (by simp)) h6 hq ?_
    have hE' : ∀ y, y ∈ m → en_E L y = true := fun y hy => hE y (by simp [hy])
    cases hS : en_sb L t (en_pd q sz) sz x with
    | false =>
      rw [List.countP_cons_of_neg (by rw [hS]; decide)] at hp
      exact br_t (show en_b false = 0 by decide) (nm_r (nI_1 i) (ih (i + 1) f a.2 (by omega) hE' hp))
    | true =>
      rw [List.countP_cons_of_pos hS, show f + (m.countP (en_sb L t (en_pd q sz) sz) + 1) = f + 1 + m.countP (en_sb L t (en_pd q sz) sz) from by omega] at hp
      exact br_f (show ¬ en_b true = 0 by decide) (nm_r (nI_1 f) (nm_r (nI_1 i) (ih (i + 1) (f + 1) a.2 (by omega) hE' hp)))
theorem xw_place (ht : ∀ n, t n < 4) (hL : ∀ s, L s ≤ 9) (h6 : sz ≤ 6) (hq : q / 4 ^ sz = 1) (hc : c ≤ 60) (post : Int32 → Prop) (k : Int32) : ∀ (m : List Nat) (i f : Nat), en_At rk i m → i + m.length = c → (∀ x, x ∈ m → en_E L x = true) →
    post (en_pk (m.filter (en_sb L t (en_pd q sz) sz)) f k) → wX_place_18 post (nI q) k (nI sz) fd (nI c) (fun n => nI (t n)) (fun s => nI (L s)) dr rk (m.length + 1) (nI f) (nI i) := by
  intro m
  induction m with
  | nil =>
    intro i f _ hi _ hp
    simp only [List.length_nil] at hi
    exact br_t (nI_le (by omega) (by omega)) hp
  | cons x m ih =>
    intro i f a hi hE hp
    simp only [List.length_cons] at hi
    have hin : vp_in (nI i) 60 := vp_in_nI (by omega) (by decide)
    refine br_f (nI_ge (by omega) (by omega)) ⟨hin, ?_⟩
    rw [nI_clamp (by omega), a.1]
    refine xw_stands _ ht hL (hE x (by simp)) h6 hq ?_
    have hE' : ∀ y, y ∈ m → en_E L y = true := fun y hy => hE y (by simp [hy])
    cases hS : en_sb L t (en_pd q sz) sz x with
    | false =>
      rw [List.filter_cons_of_neg (by rw [hS]; decide)] at hp
      exact br_t (show en_b false = 0 by decide) (nm_r (nI_1 i) (ih (i + 1) f a.2 (by omega) hE' hp))
    | true =>
      rw [List.filter_cons_of_pos hS] at hp
      have e : en_pk (x :: m.filter (en_sb L t (en_pd q sz) sz)) f k = if nI f = k then nI x else en_pk (m.filter (en_sb L t (en_pd q sz) sz)) (f + 1) k := rfl
      rw [e] at hp
      refine br_f (show ¬ en_b true = 0 by decide) ?_
      by_cases z : nI f = k
      · rw [if_pos z] at hp
        exact br_t z ⟨hin, hp⟩
      · rw [if_neg z] at hp
        exact br_f z (nm_r (nI_1 f) (nm_r (nI_1 i) (ih (i + 1) (f + 1) a.2 (by omega) hE' hp)))
theorem en_fo_t {Q : Nat → Bool} {f : Nat → Int32} {s : Int32} {x : Nat} {m : List Nat} (h : Q x = true) : en_fo Q f s (x :: m) = en_fo Q f (s ||| f x) m := by
  unfold en_fo
  rw [List.foldl_cons, if_pos h]
theorem en_fo_f {Q : Nat → Bool} {f : Nat → Int32} {s : Int32} {x : Nat} {m : List Nat} (h : Q x = false) : en_fo Q f s (x :: m) = en_fo Q f s m := by
  unfold en_fo
  rw [List.foldl_cons, if_neg (by rw [h]; decide)]
theorem xw_slots (ht : ∀ n, t n < 4) (hL : ∀ s, L s ≤ 9) (h6 : sz ≤ 6) (hq : q / 4 ^ sz = 1) (hc : c ≤ 60) (post : Int32 → Prop) : ∀ (m : List Nat) (i : Nat) (f : Int32), en_At rk i m → i + m.length = c → (∀ x, x ∈ m → en_E L x = true) →
    post (en_fo (en_sb L t (en_pd q sz) sz) (fun n => en_sh (n / 16)) f m) → wX_slots_17 post (nI q) (nI sz) fd (nI c) (fun n => nI (t n)) (fun s => nI (L s)) dr rk (m.length + 1) f (nI i) := by
  intro m
  induction m with
  | nil =>
    intro i f _ hi _ hp
    simp only [List.length_nil] at hi
    exact br_t (nI_le (by omega) (by omega)) hp
  | cons x m ih =>
    intro i f a hi hE hp
    simp only [List.length_cons] at hi
    have hin : vp_in (nI i) 60 := vp_in_nI (by omega) (by decide)
    have bx := en_E_b hL (hE x (by simp))
    refine br_f (nI_ge (by omega) (by omega)) ⟨hin, ?_⟩
    rw [nI_clamp (by omega), a.1]
    refine xw_stands _ ht hL (hE x (by simp)) h6 hq ?_
    have hE' : ∀ y, y ∈ m → en_E L y = true := fun y hy => hE y (by simp [hy])
    cases hS : en_sb L t (en_pd q sz) sz x with
    | false =>
      rw [en_fo_f hS] at hp
      exact br_t (show en_b false = 0 by decide) (nm_r (nI_1 i) (ih (i + 1) f a.2 (by omega) hE' hp))
    | true =>
      rw [en_fo_t hS] at hp
      refine br_f (show ¬ en_b true = 0 by decide) ⟨hin, ?_⟩
      refine xw_slot _ (by omega) ?_
      exact nm_e (nm_r (nI_1 i) (ih (i + 1) _ a.2 (by omega) hE' hp))
theorem xw_after (ht : ∀ n, t n < 4) (hL : ∀ s, L s ≤ 9) (h6 : sz ≤ 6) (hq : q / 4 ^ sz = 1) (hc : c ≤ 60) (post : Int32 → Prop) : ∀ (m : List Nat) (i : Nat) (f : Int32), en_At rk i m → i + m.length = c → (∀ x, x ∈ m → en_E L x = true) →
    post (en_fo (fun n => en_sb L t (en_pd q sz) sz n && decide (sz < en_ln L n)) (fun n => en_sh (t (n + sz))) f m) → wX_after_17 post (nI q) (nI sz) fd (nI c) (fun n => nI (t n)) (fun s => nI (L s)) dr rk (m.length + 1) f (nI i) := by
  intro m
  induction m with
  | nil =>
    intro i f _ hi _ hp
    simp only [List.length_nil] at hi
    exact br_t (nI_le (by omega) (by omega)) hp
  | cons x m ih =>
    intro i f a hi hE hp
    simp only [List.length_cons] at hi
    have hin : vp_in (nI i) 60 := vp_in_nI (by omega) (by decide)
    have bx := en_E_b hL (hE x (by simp))
    refine br_f (nI_ge (by omega) (by omega)) ⟨hin, nm_r (e' := nI x) (by rw [nI_clamp (by omega), a.1]) ?_⟩
    refine xw_stands _ ht hL (hE x (by simp)) h6 hq ?_
    have hE' : ∀ y, y ∈ m → en_E L y = true := fun y hy => hE y (by simp [hy])
    cases hS : en_sb L t (en_pd q sz) sz x with
    | false =>
      rw [en_fo_f (by rw [hS]; rfl)] at hp
      exact br_t (show en_b false = 0 by decide) (nm_r (nI_1 i) (ih (i + 1) f a.2 (by omega) hE' hp))
    | true =>
      refine br_f (show ¬ en_b true = 0 by decide) ?_
      refine xw_el _ bx.1 bx.2.1 ?_
      refine pk_le (en_ln L x) sz (fun z => ?_) (fun z => ⟨?_, ?_⟩)
      · rw [en_fo_f (by rw [hS, decide_eq_false (by omega)]; rfl)] at hp
        exact nm_r (nI_1 i) (ih (i + 1) f a.2 (by omega) hE' hp)
      · rw [nI_add]; exact vp_in_nI (by omega) (by decide)
      · rw [en_fo_t (by rw [hS, decide_eq_true z]; rfl)] at hp
        refine nm_r (e' := f ||| en_sh (t (x + sz))) ?_ (nm_r (nI_1 i) (ih (i + 1) _ a.2 (by omega) hE' hp))
        rw [nI_add, nI_clamp (by omega)]
        rfl
theorem xw_placeOf (post : Int32 → Prop) {u : SX} {n : Nat} (hn : n < 2 ^ 31) (h : post (nI (n % 16))) : wpX_placeOf post u (nI n) := by
  obtain ⟨a, b, c, d, e, f⟩ := u
  refine ⟨en_n16, ?_⟩
  rw [en_m16 hn]
  exact h
theorem xw_bef (ht : ∀ n, t n < 4) (hL : ∀ s, L s ≤ 9) (h6 : sz ≤ 6) (hq : q / 4 ^ sz = 1) (hc : c ≤ 60) (post : Int32 → Prop) : ∀ (m : List Nat) (i : Nat) (f : Int32), en_At rk i m → i + m.length = c → (∀ x, x ∈ m → en_E L x = true) →
    post (en_fo (fun n => en_sb L t (en_pd q sz) sz n && decide (0 < n % 16)) (fun n => en_sh (t (n - 1))) f m) → wX_before_17 post (nI q) (nI sz) fd (nI c) (fun n => nI (t n)) (fun s => nI (L s)) dr rk (m.length + 1) f (nI i) := by
  intro m
  induction m with
  | nil =>
    intro i f _ hi _ hp
    simp only [List.length_nil] at hi
    exact br_t (nI_le (by omega) (by omega)) hp
  | cons x m ih =>
    intro i f a hi hE hp
    simp only [List.length_cons] at hi
    have hin : vp_in (nI i) 60 := vp_in_nI (by omega) (by decide)
    have bx := en_E_b hL (hE x (by simp))
    refine br_f (nI_ge (by omega) (by omega)) ⟨hin, nm_r (e' := nI x) (by rw [nI_clamp (by omega), a.1]) ?_⟩
    refine xw_stands _ ht hL (hE x (by simp)) h6 hq ?_
    have hE' : ∀ y, y ∈ m → en_E L y = true := fun y hy => hE y (by simp [hy])
    cases hS : en_sb L t (en_pd q sz) sz x with
    | false =>
      rw [en_fo_f (by rw [hS]; rfl)] at hp
      exact br_t (show en_b false = 0 by decide) (nm_r (nI_1 i) (ih (i + 1) f a.2 (by omega) hE' hp))
    | true =>
      refine br_f (show ¬ en_b true = 0 by decide) ?_
      refine xw_placeOf _ (by omega) ?_
      refine pk_le (x % 16) 0 (fun z => ?_) (fun z => ⟨?_, ?_⟩)
      · rw [en_fo_f (by rw [hS, decide_eq_false (by omega)]; rfl)] at hp
        exact nm_r (nI_1 i) (ih (i + 1) f a.2 (by omega) hE' hp)
      · rw [show nI x - 1 = nI (x - 1) from pk_sub (b := 1) (by omega)]; exact vp_in_nI (by omega) (by decide)
      · rw [en_fo_t (by rw [hS, decide_eq_true z]; rfl)] at hp
        refine nm_r (e' := f ||| en_sh (t (x - 1))) ?_ (nm_r (nI_1 i) (ih (i + 1) _ a.2 (by omega) hE' hp))
        rw [show nI x - 1 = nI (x - 1) from pk_sub (b := 1) (by omega), nI_clamp (by omega)]
        rfl
end
end
end
section
/-! the component's sums over neighbours by rank -/
theorem en_K_le {w : Nat → List Nat} {S : List Nat} {a : Nat} (h : (w a).length ≤ 9) : en_K w S a ≤ 9 := by
  rcases en_K_at w a S with e | ⟨v, _, e⟩
  · omega
  · have := (en_cp_le (w v) (w a)).2
    omega
theorem en_Rr_le {w : Nat → List Nat} : ∀ (S : List Nat), (∀ a, a ∈ S → (w a).length ≤ 9) → en_Rr w S ≤ 9 := by
  intro S
  induction S with
  | nil => intro _; exact Nat.zero_le _
  | cons a S ih =>
    intro h
    have h1 := ih (fun x hx => h x (by simp [hx]))
    have h2 := en_K_le (w := w) (S := S) (h a (by simp))
    simp only [en_Rr]
    omega
section
variable {fd : Int32} {t L : Nat → Nat} {dr rk : Nat → Int32}
theorem xw_distinct (ht : ∀ n, t n < 4) (hL : ∀ s, L s ≤ 9) (post : Int32 → Prop) {l : List Nat} (hl : l.length ≤ 60) (hE : ∀ x, x ∈ l → en_E L x = true) (hs : en_so (en_w L t) l) (a : en_At rk 0 l) (hp : post (en_Dr (en_w L t) l.reverse)) :
    ∀ (m p : List Nat), l = p ++ m → wX_distinct_4 post fd (nI l.length) (fun n => nI (t n)) (fun s => nI (L s)) dr rk (m.length + 1) (en_Dr (en_w L t) p.reverse) (nI p.length) := by
  intro m
  induction m with
  | nil =>
    intro p e
    rw [List.append_nil] at e
    subst e
    exact br_t (nI_le (Nat.le_refl _) (by omega)) hp
  | cons x m ih =>
    intro p e
    have hlen : p.length + (m.length + 1) = l.length := by rw [e]; simp
    have a' := a
    rw [e, en_At_app, Nat.zero_add] at a'
    have hx : en_E L x = true := hE x (by rw [e]; simp)
    have bx := en_E_b hL hx
    have ec : (nI p.length).toNatClampNeg = p.length := nI_clamp (by omega)
    have hin : vp_in (nI p.length) 60 := vp_in_nI (by omega) (by decide)
    have e' : l = (p ++ [x]) ++ m := by rw [e]; simp
    have hlp : (p ++ [x]).length = p.length + 1 := by simp
    have hrev : (p ++ [x]).reverse = x :: p.reverse := by simp
    have IH := ih (p ++ [x]) e'
    rw [hlp, hrev] at IH
    have ed : en_Dr (en_w L t) (x :: p.reverse) = en_Dr (en_w L t) p.reverse + nI (en_w L t x).length - nI (en_K (en_w L t) p.reverse x) := rfl
    rw [en_w_len] at ed
    refine br_f (nI_ge (by omega) (by omega)) ⟨hin, ?_⟩
    rw [ec, a'.2.1]
    refine xw_el _ bx.1 bx.2.1 ?_
    refine nm_e ?_
    refine pk_le p.length 0 (fun z => ?_) (fun z => ?_)
    · refine nm_r (nI_1 p.length) ?_
      have e0 : p = [] := List.length_eq_zero_iff.mp (by omega)
      have ek : en_K (en_w L t) p.reverse x = 0 := by rw [e0]; rfl
      rw [ek, nI_0, Int32.sub_zero] at ed
      rw [← ed]
      exact IH
    · rcases en_last p with h0 | ⟨p', y, h0⟩
      · rw [h0] at z; simp at z
      · have e1 : nI p.length - 1 = nI (p.length - 1) := pk_sub (b := 1) z
        have ec1 : (nI (p.length - 1)).toNatClampNeg = p.length - 1 := nI_clamp (by omega)
        have hpl : p.length - 1 = p'.length := by rw [h0]; simp
        have hy : en_E L y = true := hE y (by rw [e, h0]; simp)
        have a1 := a'.1
        rw [h0, en_At_app, Nat.zero_add] at a1
        have hry : rk (p.length - 1) = nI y := by rw [hpl]; exact a1.2.1
        rw [e1, ec1, hry]
        refine ⟨vp_in_nI (by omega) (by decide), hin, ?_⟩
        refine xw_common _ ht hL hy hx ?_
        refine nm_e (nm_r (nI_1 p.length) ?_)
        have hs' := hs
        rw [e, h0, List.append_assoc] at hs'
        have ek : en_K (en_w L t) p.reverse x = en_cp (en_w L t y) (en_w L t x) := by
          have hr : p.reverse = y :: p'.reverse := by rw [h0]; simp
          rw [hr]
          exact en_K_pre hs'
        rw [ek] at ed
        rw [← ed]
        exact IH
theorem xw_repeated (ht : ∀ n, t n < 4) (hL : ∀ s, L s ≤ 9) (post : Int32 → Prop) {l : List Nat} (hl : l.length ≤ 60) (hE : ∀ x, x ∈ l → en_E L x = true) (hs : en_so (en_w L t) l) (a : en_At rk 0 l) (hp : post (nI (en_Rr (en_w L t) l.reverse))) :
    ∀ (m p : List Nat) (y : Nat), l = p ++ y :: m → wX_repeated_4 post fd (nI l.length) (fun n => nI (t n)) (fun s => nI (L s)) dr rk (m.length + 1) (nI (en_Rr (en_w L t) (y :: p.reverse))) (nI (p.length + 1)) := by
  intro m
  induction m with
  | nil =>
    intro p y e
    have hlen : p.length + 1 = l.length := by rw [e]; simp
    have hr : l.reverse = y :: p.reverse := by rw [e]; simp
    rw [hr] at hp
    exact br_t (nI_le (by omega) (by omega)) hp
  | cons x m ih =>
    intro p y e
    have hlen : p.length + (m.length + 2) = l.length := by rw [e]; simp
    have a' := a
    rw [e, en_At_app, Nat.zero_add] at a'
    have hx : en_E L x = true := hE x (by rw [e]; simp)
    have hy : en_E L y = true := hE y (by rw [e]; simp)
    have e1 : nI (p.length + 1) - 1 = nI p.length := nI_pred p.length
    have ec : (nI p.length).toNatClampNeg = p.length := nI_clamp (by omega)
    have ec2 : (nI (p.length + 1)).toNatClampNeg = p.length + 1 := nI_clamp (by omega)
    have e' : l = (p ++ [y]) ++ x :: m := by rw [e]; simp
    have hlp : (p ++ [y]).length = p.length + 1 := by simp
    have hrev : (p ++ [y]).reverse = y :: p.reverse := by simp
    have IH := ih (p ++ [y]) x e'
    rw [hlp, hrev] at IH
    have hs' := hs
    rw [e] at hs'
    have ek := en_K_pre hs'
    have ed : en_Rr (en_w L t) (x :: y :: p.reverse) = max (en_K (en_w L t) (y :: p.reverse) x) (en_Rr (en_w L t) (y :: p.reverse)) := rfl
    rw [ek] at ed
    have hcp := (en_cp_le (en_w L t y) (en_w L t x)).2
    rw [en_w_len] at hcp
    have bx := en_E_b hL hx
    have hR : en_Rr (en_w L t) (y :: p.reverse) ≤ 9 := by
      apply en_Rr_le
      intro v hv
      have hvl : v ∈ l := by
        rw [e]
        rcases List.mem_cons.mp hv with z | z
        · rw [z]; simp
        · simp [List.mem_reverse.mp z]
      rw [en_w_len]
      exact (en_E_b hL (hE v hvl)).2.2.1
    refine br_f (nI_ge (by omega) (by omega)) ?_
    rw [e1, ec, ec2, a'.2.1, a'.2.2.1]
    refine ⟨vp_in_nI (by omega) (by decide), vp_in_nI (by omega) (by decide), ?_⟩
    refine xw_common _ ht hL hy hx ?_
    generalize en_cp (en_w L t y) (en_w L t x) = cp at *
    refine pk_le cp (en_Rr (en_w L t) (y :: p.reverse)) (fun z => ?_) (fun z => ?_)
    · refine nm_r (nI_1 (p.length + 1)) ?_
      rw [show en_Rr (en_w L t) (x :: y :: p.reverse) = en_Rr (en_w L t) (y :: p.reverse) from by omega] at IH
      exact IH
    · refine nm_r (nI_1 (p.length + 1)) ?_
      rw [show en_Rr (en_w L t) (x :: y :: p.reverse) = cp from by omega] at IH
      exact IH
end
end
section
/-! the reference's reading methods -/
theorem en_ct_t {Q : Nat → Bool} {i : Nat} (h : Q i = true) : en_ct Q (i + 1) = en_ct Q i + 1 := if_pos h
theorem en_ct_f {Q : Nat → Bool} {i : Nat} (h : Q i = false) : en_ct Q (i + 1) = en_ct Q i := if_neg (by rw [h]; decide)
theorem en_S_t {P : Nat → Bool} {i : Nat} (h : P i = true) : en_S P (i + 1) = i :: en_S P i := if_pos h
theorem en_S_f {P : Nat → Bool} {i : Nat} (h : P i = false) : en_S P (i + 1) = en_S P i := if_neg (by rw [h]; decide)
theorem en_S_mem {P : Nat → Bool} {i x : Nat} (h : x ∈ en_S P i) : x < i ∧ P x = true := by
  rw [en_S_eq, List.mem_reverse, List.mem_filter, List.mem_range] at h
  exact h
section
variable {fz : Int32} {t L : Nat → Nat} {le ln pa : Nat → Int32}
theorem yw_isE (hln : en_Ln ln L) (hL : ∀ s, L s ≤ 9) (post : Int32 → Prop) {n : Nat} (hn : n < 96) (h : post (en_b (en_E L n))) : wpY_isEnding post (fz, le, ln, pa) (nI n) := by
  have e1 := en_d16 (n := n) (by omega)
  have e2 := en_m16 (n := n) (by omega)
  have e3 : (nI (n / 16)).toNatClampNeg = n / 16 := nI_clamp (by omega)
  have e4 : ln (n / 16) = nI (L (n / 16)) := hln (n / 16) (by omega)
  have hb := hL (n / 16)
  have hin : vp_in (nI (n / 16)) 7 := vp_in_nI (by omega) (by decide)
  refine br_f (nI_pos (by omega)) (br_f (nI_ge (b := 96) hn (by decide)) ?_)
  rw [e2, e1, e3, e4]
  refine ⟨en_n16, hin, ?_⟩
  refine pk_le (L (n / 16)) 0 (fun z => en_p0 h ?_) (fun z => ⟨en_n16, en_n16, hin, ?_⟩)
  · rw [Bool.eq_false_iff]
    intro y
    have := en_E_iff.mp y
    omega
  · refine pk_lt (L (n / 16)) (n % 16) (fun y => en_p0 h ?_) (fun y => en_p1 h (en_E_iff.mpr ⟨hn, z, y⟩))
    rw [Bool.eq_false_iff]
    intro x
    have := en_E_iff.mp x
    omega
theorem yw_isEnding (hln : en_Ln ln L) (hL : ∀ s, L s ≤ 9) (post : Int32 → Prop) (v : Int32) (h0 : (∀ n, n < 96 → en_E L n = true → nI n ≠ v) → post 0) (h1 : ∀ n, n < 96 → en_E L n = true → v = nI n → post 1) : wpY_isEnding post (fz, le, ln, pa) v := by
  rcases pk_ix v (n := 96) (by decide) with h | h | ⟨n, hn, h⟩
  · refine br_t h (h0 ?_)
    intro n hn _ e
    rw [← e] at h
    exact nI_pos (by omega) h
  · have h0' : post 0 := by
      apply h0
      intro n hn _ e
      rw [← e] at h
      exact nI_ge hn (by decide) h
    exact br_c (fun _ => h0') (fun _ => br_t h h0')
  · subst h
    refine yw_isE hln hL post hn ?_
    cases hE : en_E L n with
    | true => exact h1 n hn hE rfl
    | false =>
      refine h0 ?_
      intro m hm hEm e
      rw [nI_eq (by omega) (by omega)] at e
      rw [e, hE] at hEm
      cases hEm
theorem yw_size (hln : en_Ln ln L) (post : Int32 → Prop) {n : Nat} (hn : n < 96) (hE : n % 16 ≤ L (n / 16)) (h : post (nI (en_ln L n))) : wpY_sizeOf post (fz, le, ln, pa) (nI n) := by
  have e1 := en_d16 (n := n) (by omega)
  have e2 := en_m16 (n := n) (by omega)
  have e3 : (nI (n / 16)).toNatClampNeg = n / 16 := nI_clamp (by omega)
  have e4 : ln (n / 16) = nI (L (n / 16)) := hln (n / 16) (by omega)
  refine ⟨en_n16, ?_, en_n16, ?_⟩
  · rw [e1]
    exact vp_in_nI (by omega) (by decide)
  · rw [e2, e1, e3, e4, pk_sub hE]
    exact h
theorem yw_let (hls : en_Ls le t) (post : Int32 → Prop) {n i : Nat} (hn : n < 96) (hi : n % 16 + i < 9) (h : post (nI (t (n + i)))) : wpY_letterOf post (fz, le, ln, pa) (nI n) (nI i) := by
  have e1 := en_d16 (n := n) (by omega)
  have e2 := en_m16 (n := n) (by omega)
  have e3 : (9 : Int32) * nI (n / 16) + nI (n % 16) + nI i = nI (9 * (n / 16) + (n % 16 + i)) := by
    rw [show (9 : Int32) = nI 9 from rfl, pk_mul, nI_add, nI_add, Nat.add_assoc]
  have e4 := hls (n / 16) (by omega) (n % 16 + i) hi
  rw [show 16 * (n / 16) + (n % 16 + i) = n + i from by omega] at e4
  refine ⟨en_n16, en_n16, ?_, ?_⟩
  · rw [e2, e1, e3]
    exact vp_in_nI (by omega) (by decide)
  · rw [e2, e1, e3, nI_clamp (by omega), e4]
    exact h
theorem yw_sh (hls : en_Ls le t) (post : Int32 → Prop) (a b la lb m : Nat) (hm : m = la ∧ la ≤ lb ∨ m = lb ∧ lb ≤ la) (ha : a < 96) (hb : b < 96) (h1 : a % 16 + m ≤ 9) (h2 : b % 16 + m ≤ 9) (ht : ∀ n, t n < 4) : ∀ (d j : Nat), j + d = m →
    post (nI (j + en_cp (en_wd t (a + j) (la - j)) (en_wd t (b + j) (lb - j)))) → wY_shared_30 post (nI a) (nI b) (nI m) fz le ln pa (d + 1) (nI j) := by
  intro d
  induction d with
  | zero =>
    intro j hj hp
    rw [en_cp_end t a b (by omega)] at hp
    have hj' : j = m := by omega
    subst hj'
    exact br_t (nI_le (by omega) (by omega)) hp
  | succ d ih =>
    intro j hj hp
    have e := en_cp_step t a b (la := la) (lb := lb) (j := j) (by omega) (by omega)
    rw [e] at hp
    have h4 := ht (a + j)
    have h5 := ht (b + j)
    refine br_f (nI_ge (by omega) (by omega)) ?_
    refine yw_let hls _ ha (by omega) ?_
    refine yw_let hls _ hb (by omega) ?_
    refine pk_eq (t (a + j)) (t (b + j)) (fun z => ?_) (fun z => ?_)
    · rw [if_pos z] at hp
      refine nm_r (nI_1 j) (ih (j + 1) (by omega) ?_)
      rw [show j + 1 + en_cp (en_wd t (a + (j + 1)) (la - (j + 1))) (en_wd t (b + (j + 1)) (lb - (j + 1))) = j + (en_cp (en_wd t (a + (j + 1)) (la - (j + 1))) (en_wd t (b + (j + 1)) (lb - (j + 1))) + 1) from by omega]
      exact hp
    · rw [if_neg z] at hp
      exact hp
theorem yw_shared (hls : en_Ls le t) (hln : en_Ln ln L) (ht : ∀ n, t n < 4) (hL : ∀ s, L s ≤ 9) (post : Int32 → Prop) {a b : Nat} (ha : en_E L a = true) (hb : en_E L b = true) (h : post (nI (en_cp (en_w L t a) (en_w L t b)))) : wpY_shared post (fz, le, ln, pa) (nI a) (nI b) := by
  have ba := en_E_b hL ha
  have bb := en_E_b hL hb
  have h' : post (nI (0 + en_cp (en_wd t (a + 0) (en_ln L a - 0)) (en_wd t (b + 0) (en_ln L b - 0)))) := by
    rw [Nat.zero_add]
    exact h
  unfold wpY_shared
  dsimp only
  refine yw_size hln _ ba.1 ba.2.1 ?_
  refine yw_size hln _ bb.1 bb.2.1 ?_
  refine pk_le (en_ln L b) (en_ln L a) (fun hle => ?_) (fun hlt => ?_)
  · refine yw_size hln _ bb.1 bb.2.1 ⟨en_ln L b + 1, ?_⟩
    exact yw_sh hls post a b (en_ln L a) (en_ln L b) (en_ln L b) (by omega) ba.1 bb.1 (by omega) (by omega) ht (en_ln L b) 0 (by omega) h'
  · refine yw_size hln _ ba.1 ba.2.1 ⟨en_ln L a + 1, ?_⟩
    exact yw_sh hls post a b (en_ln L a) (en_ln L b) (en_ln L a) (by omega) ba.1 bb.1 (by omega) (by omega) ht (en_ln L a) 0 (by omega) h'
theorem yw_before (hls : en_Ls le t) (hln : en_Ln ln L) (ht : ∀ n, t n < 4) (hL : ∀ s, L s ≤ 9) (post : Int32 → Prop) {a b : Nat} (ha : en_E L a = true) (hb : en_E L b = true) (h : post (en_b (en_bf (en_w L t) a b))) : wpY_comesBefore post (fz, le, ln, pa) (nI a) (nI b) := by
  have ba := en_E_b hL ha
  have bb := en_E_b hL hb
  obtain ⟨k1, k2⟩ := en_bf_k L t a b
  unfold wpY_comesBefore
  dsimp only
  refine yw_shared hls hln ht hL _ ha hb ?_
  have hk := en_cp_le (en_w L t a) (en_w L t b)
  rw [en_w_len, en_w_len] at hk
  generalize en_cp (en_w L t a) (en_w L t b) = k at *
  have h36 : ¬ (k = en_ln L a ∧ k = en_ln L b) → wY_comesBefore_36 post (nI a) (nI b) (nI k) fz le ln pa := by
    intro p
    unfold wY_comesBefore_36
    refine yw_size hln _ ba.1 ba.2.1 ?_
    refine pk_eq k (en_ln L a) (fun z => ?_) (fun z => ?_)
    · unfold wY_comesBefore_54
      refine yw_size hln _ ba.1 ba.2.1 ?_
      refine pk_eq k (en_ln L a) (fun _ => en_p1 h ?_) (fun y => absurd z y)
      rw [(k2 (by omega)).2 (by omega)]
      exact decide_eq_true (by omega)
    · refine yw_size hln _ bb.1 bb.2.1 ?_
      refine pk_eq k (en_ln L b) (fun y => ?_) (fun y => ?_)
      · unfold wY_comesBefore_54
        refine yw_size hln _ ba.1 ba.2.1 ?_
        refine pk_eq k (en_ln L a) (fun x => absurd x z) (fun _ => en_p0 h ?_)
        rw [(k2 (by omega)).2 (by omega)]
        exact decide_eq_false (by omega)
      · refine yw_let hls _ ba.1 (by omega) ?_
        refine yw_let hls _ bb.1 (by omega) ?_
        have h4 := ht (a + k)
        have h5 := ht (b + k)
        have e := k1 (by omega) (by omega)
        exact pk_le (t (b + k)) (t (a + k)) (fun x => en_p0 h (by rw [e]; exact decide_eq_false (by omega))) (fun x => en_p1 h (by rw [e]; exact decide_eq_true (by omega)))
  refine yw_size hln _ ba.1 ba.2.1 ?_
  refine pk_eq k (en_ln L a) (fun z => ?_) (fun z => h36 (by omega))
  refine yw_size hln _ bb.1 bb.2.1 ?_
  refine pk_eq k (en_ln L b) (fun y => ?_) (fun y => h36 (by omega))
  have e := (k2 (by omega)).1 (by omega)
  exact pk_le b a (fun x => en_p0 h (by rw [e]; exact decide_eq_false (by omega))) (fun x => en_p1 h (by rw [e]; exact decide_eq_true (by omega)))
theorem yw_rankOf (hls : en_Ls le t) (hln : en_Ln ln L) (ht : ∀ n, t n < 4) (hL : ∀ s, L s ≤ 9) (post : Int32 → Prop) {N : Nat} (hN : en_E L N = true) (hp : post (nI (en_cb (en_w L t) (en_E L) N))) : wpY_rankOf post (fz, le, ln, pa) (nI N) := by
  have key : ∀ (d i : Nat), i + d = 96 → wY_rankOf_4 post (nI N) fz le ln pa (d + 1) (nI (en_ct (fun x => en_E L x && en_bf (en_w L t) x N) i)) (nI i) := by
    intro d
    induction d with
    | zero =>
      intro i hi
      have hi' : i = 96 := by omega
      subst hi'
      exact br_t (nI_le (a := 96) (by decide) (by decide)) hp
    | succ d ih =>
      intro i hi
      refine br_f (nI_ge (b := 96) (by omega) (by decide)) ?_
      refine yw_isE hln hL _ (by omega) ?_
      have IH := ih (i + 1) (by omega)
      cases hE : en_E L i with
      | false =>
        rw [en_ct_f (by simp only [hE, Bool.false_and])] at IH
        exact br_t (show en_b false = 0 by decide) (nm_r (nI_1 i) IH)
      | true =>
        refine br_f (show ¬ en_b true = 0 by decide) ?_
        refine yw_before hls hln ht hL _ hE hN ?_
        cases hb : en_bf (en_w L t) i N with
        | false =>
          rw [en_ct_f (by simp only [hE, hb, Bool.and_false])] at IH
          exact br_t (show en_b false = 0 by decide) (nm_r (nI_1 i) IH)
        | true =>
          rw [en_ct_t (by simp only [hE, hb, Bool.and_true])] at IH
          exact br_f (show ¬ en_b true = 0 by decide) (nm_r (nI_1 _) (nm_r (nI_1 i) IH))
  exact ⟨97, key 96 0 (by omega)⟩
theorem yw_ending (hls : en_Ls le t) (hln : en_Ln ln L) {l : List Nat} (hI : en_In L t l) (post : Int32 → Prop) (r : Int32) (hp : post (en_pk l 0 r)) : wpY_ending post (fz, le, ln, pa) r := by
  have h60 := en_In_60 hI
  obtain ⟨y1, y2⟩ := en_Yend hI.2.2.1 (en_In_perm hI) (by omega) r
  have key : ∀ (d i : Nat), i + d = 96 → (∀ j, j < i → en_E L j = true → nI (en_cb (en_w L t) (en_E L) j) ≠ r) → wY_ending_2 post r fz le ln pa (d + 1) (nI i) := by
    intro d
    induction d with
    | zero =>
      intro i hi hno
      have hi' : i = 96 := by omega
      subst hi'
      rw [← y2 hno] at hp
      exact br_t (nI_le (a := 96) (by decide) (by decide)) hp
    | succ d ih =>
      intro i hi hno
      refine br_f (nI_ge (b := 96) (by omega) (by decide)) ?_
      refine yw_isE hln hI.2.1 _ (by omega) ?_
      cases hE : en_E L i with
      | false =>
        refine br_t (show en_b false = 0 by decide) (nm_r (nI_1 i) (ih (i + 1) (by omega) ?_))
        intro j hj hEj
        by_cases e : j = i
        · rw [e, hE] at hEj; cases hEj
        · exact hno j (by omega) hEj
      | true =>
        refine br_f (show ¬ en_b true = 0 by decide) ?_
        refine yw_rankOf hls hln hI.1 hI.2.1 _ hE ?_
        by_cases z : nI (en_cb (en_w L t) (en_E L) i) = r
        · rw [← y1 i (by omega) hE z] at hp
          exact br_t z hp
        · refine br_f z (nm_r (nI_1 i) (ih (i + 1) (by omega) ?_))
          intro j hj hEj
          by_cases e : j = i
          · rw [e]; exact z
          · exact hno j (by omega) hEj
  exact ⟨97, key 96 0 (by omega) (fun j hj => by omega)⟩
theorem yw_rank (hls : en_Ls le t) (hln : en_Ln ln L) {l : List Nat} (hI : en_In L t l) (post : Int32 → Prop) (v : Int32) (hp : post (en_ix l 0 v)) : wpY_rank post (fz, le, ln, pa) v := by
  obtain ⟨y1, y2⟩ := en_Yrank hI.2.2.1 (en_In_perm hI)
  unfold wpY_rank
  dsimp only
  refine yw_isEnding hln hI.2.1 _ v (fun h => ?_) (fun n hn hE e => ?_)
  · rw [← y2 v h] at hp
    exact br_t rfl hp
  · subst e
    rw [← y1 n hn hE] at hp
    refine br_f (by decide) ?_
    exact yw_rankOf hls hln hI.1 hI.2.1 _ hE hp
theorem yw_known (hls : en_Ls le t) (hln : en_Ln ln L) (ht : ∀ n, t n < 4) (hL : ∀ s, L s ≤ 9) (post : Int32 → Prop) {N : Nat} (hN : en_E L N = true) (hp : post (nI (en_K (en_w L t) (en_S (en_E L) N) N))) : wpY_known post (fz, le, ln, pa) (nI N) := by
  have bN := en_E_b hL hN
  have hwN : (en_w L t N).length ≤ 9 := by rw [en_w_len]; exact bN.2.2.1
  have key : ∀ (d i : Nat), i + d = N → wY_known_4 post (nI N) fz le ln pa (d + 1) (nI (en_K (en_w L t) (en_S (en_E L) i) N)) (nI i) := by
    intro d
    induction d with
    | zero =>
      intro i hi
      have hi' : i = N := by omega
      subst hi'
      exact br_t (nI_le (Nat.le_refl _) (by omega)) hp
    | succ d ih =>
      intro i hi
      refine br_f (nI_ge (by omega) (by omega)) ?_
      refine yw_isE hln hL _ (by omega) ?_
      have IH := ih (i + 1) (by omega)
      cases hE : en_E L i with
      | false =>
        rw [en_S_f hE] at IH
        exact br_t (show en_b false = 0 by decide) (nm_r (nI_1 i) IH)
      | true =>
        rw [en_S_t hE] at IH
        refine br_f (show ¬ en_b true = 0 by decide) ?_
        refine yw_shared hls hln ht hL _ hE hN ?_
        have ed : en_K (en_w L t) (i :: en_S (en_E L) i) N = max (en_cp (en_w L t i) (en_w L t N)) (en_K (en_w L t) (en_S (en_E L) i) N) := rfl
        have h1 := (en_cp_le (en_w L t i) (en_w L t N)).2
        have h2 := en_K_le (w := en_w L t) (S := en_S (en_E L) i) hwN
        generalize en_cp (en_w L t i) (en_w L t N) = cp at *
        refine pk_le cp (en_K (en_w L t) (en_S (en_E L) i) N) (fun z => ?_) (fun z => ?_)
        · refine nm_r (nI_1 i) ?_
          rw [show en_K (en_w L t) (i :: en_S (en_E L) i) N = en_K (en_w L t) (en_S (en_E L) i) N from by omega] at IH
          exact IH
        · refine nm_r (nI_1 i) ?_
          rw [show en_K (en_w L t) (i :: en_S (en_E L) i) N = cp from by omega] at IH
          exact IH
  exact ⟨N + 1, key N 0 (by omega)⟩
theorem yw_distinct (hls : en_Ls le t) (hln : en_Ln ln L) (ht : ∀ n, t n < 4) (hL : ∀ s, L s ≤ 9) (post : Int32 → Prop) (hp : post (en_Dr (en_w L t) (en_S (en_E L) 96))) : wpY_distinct post (fz, le, ln, pa) := by
  have key : ∀ (d i : Nat), i + d = 96 → wY_distinct_4 post fz le ln pa (d + 1) (en_Dr (en_w L t) (en_S (en_E L) i)) (nI i) := by
    intro d
    induction d with
    | zero =>
      intro i hi
      have hi' : i = 96 := by omega
      subst hi'
      exact br_t (nI_le (a := 96) (by decide) (by decide)) hp
    | succ d ih =>
      intro i hi
      refine br_f (nI_ge (b := 96) (by omega) (by decide)) ?_
      refine yw_isE hln hL _ (by omega) ?_
      have IH := ih (i + 1) (by omega)
      cases hE : en_E L i with
      | false =>
        rw [en_S_f hE] at IH
        exact br_t (show en_b false = 0 by decide) (nm_r (nI_1 i) IH)
      | true =>
        rw [en_S_t hE] at IH
        have bi := en_E_b hL hE
        have ed : en_Dr (en_w L t) (i :: en_S (en_E L) i) = en_Dr (en_w L t) (en_S (en_E L) i) + nI (en_w L t i).length - nI (en_K (en_w L t) (en_S (en_E L) i) i) := rfl
        rw [en_w_len] at ed
        rw [ed] at IH
        refine br_f (show ¬ en_b true = 0 by decide) ?_
        refine yw_size hln _ bi.1 bi.2.1 ?_
        refine yw_known hls hln ht hL _ hE ?_
        exact nm_e (nm_r (nI_1 i) IH)
  exact ⟨97, key 96 0 (by omega)⟩
theorem yw_repeated (hls : en_Ls le t) (hln : en_Ln ln L) (ht : ∀ n, t n < 4) (hL : ∀ s, L s ≤ 9) (post : Int32 → Prop) (hp : post (nI (en_Rr (en_w L t) (en_S (en_E L) 96)))) : wpY_repeated post (fz, le, ln, pa) := by
  have key : ∀ (d i : Nat), i + d = 96 → wY_repeated_4 post fz le ln pa (d + 1) (nI (en_Rr (en_w L t) (en_S (en_E L) i))) (nI i) := by
    intro d
    induction d with
    | zero =>
      intro i hi
      have hi' : i = 96 := by omega
      subst hi'
      exact br_t (nI_le (a := 96) (by decide) (by decide)) hp
    | succ d ih =>
      intro i hi
      refine br_f (nI_ge (b := 96) (by omega) (by decide)) ?_
      refine yw_isE hln hL _ (by omega) ?_
      have IH := ih (i + 1) (by omega)
      cases hE : en_E L i with
      | false =>
        rw [en_S_f hE] at IH
        exact br_t (show en_b false = 0 by decide) (nm_r (nI_1 i) IH)
      | true =>
        rw [en_S_t hE] at IH
        have bi := en_E_b hL hE
        have ed : en_Rr (en_w L t) (i :: en_S (en_E L) i) = max (en_K (en_w L t) (en_S (en_E L) i) i) (en_Rr (en_w L t) (en_S (en_E L) i)) := rfl
        have h1 : en_K (en_w L t) (en_S (en_E L) i) i ≤ 9 := en_K_le (by rw [en_w_len]; exact bi.2.2.1)
        have h2 : en_Rr (en_w L t) (en_S (en_E L) i) ≤ 9 := by
          apply en_Rr_le
          intro v hv
          rw [en_w_len]
          exact (en_E_b hL (en_S_mem hv).2).2.2.1
        refine br_f (show ¬ en_b true = 0 by decide) ?_
        refine yw_known hls hln ht hL _ hE ?_
        refine pk_le (en_K (en_w L t) (en_S (en_E L) i) i) (en_Rr (en_w L t) (en_S (en_E L) i)) (fun z => ?_) (fun z => ?_)
        · refine nm_r (nI_1 i) ?_
          rw [show en_Rr (en_w L t) (i :: en_S (en_E L) i) = en_Rr (en_w L t) (en_S (en_E L) i) from by omega] at IH
          exact IH
        · refine nm_r (nI_1 i) ?_
          rw [show en_Rr (en_w L t) (i :: en_S (en_E L) i) = en_K (en_w L t) (en_S (en_E L) i) i from by omega] at IH
          exact IH
  exact ⟨97, key 96 0 (by omega)⟩
theorem yw_endings (hln : en_Ln ln L) (hL : ∀ s, L s ≤ 9) (post : Int32 → Prop) (hp : post (nI (en_sm L 6))) : wpY_endings post (fz, le, ln, pa) := by
  have key : ∀ (d i : Nat), i + d = 6 → wY_endings_4 post fz le ln pa (d + 1) (nI (en_sm L i)) (nI i) := by
    intro d
    induction d with
    | zero =>
      intro i hi
      have hi' : i = 6 := by omega
      subst hi'
      exact br_t (nI_le (a := 6) (by decide) (by decide)) hp
    | succ d ih =>
      intro i hi
      have hin : vp_in (nI i) 7 := vp_in_nI (by omega) (by decide)
      have ec : (nI i).toNatClampNeg = i := nI_clamp (by omega)
      have e4 : ln i = nI (L i) := hln i (by omega)
      have hb := hL i
      have IH := ih (i + 1) (by omega)
      refine br_f (nI_ge (b := 6) (by omega) (by decide)) ⟨hin, ?_⟩
      rw [ec, e4]
      refine pk_le (L i) 0 (fun z => ?_) (fun z => ⟨hin, ?_⟩)
      · refine nm_r (nI_1 i) ?_
        rw [show en_sm L (i + 1) = en_sm L i from if_neg (by omega)] at IH
        exact IH
      · refine nm_r ?_ (nm_r (nI_1 i) IH)
        rw [show en_sm L (i + 1) = en_sm L i + L i + 1 from if_pos z, nI_add, nI_1]
  exact ⟨7, key 6 0 (by omega)⟩
end
end
section
/-! the reference's pattern -/
theorem en_kx (q : Nat) : ∃ k, q / 4 ^ k ≤ 1 ∧ ∀ i, i < k → 1 < q / 4 ^ i := by
  have hex : ∃ k, q / 4 ^ k ≤ 1 := ⟨q, by
    have : q < 4 ^ q := Nat.lt_pow_self (by decide)
    rw [Nat.div_eq_of_lt this]
    exact Nat.zero_le _⟩
  obtain ⟨n, hn⟩ := hex
  induction n using Nat.strongRecOn with
  | ind n ih =>
    by_cases h : ∃ j, j < n ∧ q / 4 ^ j ≤ 1
    · obtain ⟨j, hj, hq⟩ := h
      exact ih j hj hq
    · refine ⟨n, hn, fun i hi => ?_⟩
      apply Nat.lt_of_not_le
      intro z
      exact h ⟨i, hi, z⟩
theorem en_d4 {n : Nat} (h : n < 2 ^ 31) : nI n / 4 = nI (n / 4) := pk_div (d := 4) h (by decide) (by decide)
theorem en_m4 {n : Nat} (h : n < 2 ^ 31) : nI n - nI n / 4 * 4 = nI (n % 4) := pk_rem (d := 4) h (by decide) (by decide)
theorem en_n4 : ¬ (4 : Int32) = 0 := by decide
theorem en_pd_lt (q sz i : Nat) : en_pd q sz i < 4 := Nat.mod_lt _ (by decide)
section
variable {fz : Int32} {t L : Nat → Nat} {le ln pa : Nat → Int32}
theorem yw_t52 (post : Int32 → SY → Prop) {q k : Nat} (hq : q < 2 ^ 31) (hk : k ≤ 8)
    (hp : ∀ pa', (∀ i, i < k → pa' i = nI (en_pd q k i)) → (nI (q / 4 ^ k) = 1 → post 1 (nI k, le, ln, pa')) ∧ (¬ nI (q / 4 ^ k) = 1 → post 0 (nI k, le, ln, pa'))) :
    ∀ (j : Nat) (pa : Nat → Int32), j ≤ k → (∀ i, j ≤ i → i < k → pa i = nI (en_pd q k i)) → wY_take_52 post (nI k) (j + 1) (nI (q / 4 ^ (k - j))) (nI j - 1) le ln pa := by
  intro j
  induction j with
  | zero =>
    intro pa hj hpa
    refine br_t (by decide) ?_
    exact hp pa (fun i hi => hpa i (by omega) hi)
  | succ j ih =>
    intro pa hj hpa
    have h1 : q / 4 ^ (k - (j + 1)) ≤ q := Nat.div_le_self _ _
    have e1 : q / 4 ^ (k - j) = q / 4 ^ (k - (j + 1)) / 4 := by
      rw [show k - j = k - (j + 1) + 1 from by omega, Nat.pow_succ, ← Nat.div_div_eq_div_mul]
    have e2 : en_pd q k j = q / 4 ^ (k - (j + 1)) % 4 := by
      unfold en_pd
      rw [show k - 1 - j = k - (j + 1) from by omega]
    rw [nI_pred]
    refine br_f (nI_pos (by omega)) ⟨en_n4, vp_in_nI (by omega) (by decide), nm_e ⟨en_n4, nm_r (en_d4 (by omega)) (nm_r (Int32.sub_eq_add_neg _ _).symm ?_)⟩⟩
    rw [en_m4 (by omega), ← e2, ← e1, nI_clamp (by omega)]
    refine ih _ (by omega) ?_
    intro i hi1 hi2
    by_cases e : i = j
    · rw [e]; exact if_pos rfl
    · exact (if_neg e).trans (hpa i (by omega) hi2)
theorem yw_t7 (post : Int32 → SY → Prop) {q k : Nat} (hq : q < 2 ^ 31) (hk1 : q / 4 ^ k ≤ 1) (hk2 : ∀ i, i < k → 1 < q / 4 ^ i)
    (hfin : wY_take_7 post (nI q) le ln pa 1 (nI (q / 4 ^ k)) (nI k)) :
    ∀ (d i : Nat), i + d = k → wY_take_7 post (nI q) le ln pa (d + 1) (nI (q / 4 ^ i)) (nI i) := by
  intro d
  induction d with
  | zero =>
    intro i hi
    have hi' : i = k := by omega
    subst hi'
    exact hfin
  | succ d ih =>
    intro i hi
    have h1 : q / 4 ^ i ≤ q := Nat.div_le_self _ _
    have h2 := hk2 i (by omega)
    refine br_f (nI_ge (a := 1) h2 (by omega)) (nm_r (nI_1 i) ⟨en_n4, nm_r (en_d4 (by omega)) ?_⟩)
    rw [Nat.div_div_eq_div_mul, ← Nat.pow_succ]
    exact ih (i + 1) (by omega)
theorem yw_take (post : Int32 → SY → Prop) {p : Int32} (hy : ∀ q sz, en_V p q sz → ∀ pa', (∀ i, i < sz → pa' i = nI (en_pd q sz i)) → post 1 (nI sz, le, ln, pa'))
    (hn : (∀ q sz, sz ≤ 6 → p = nI q → q < 2 ^ 31 → q / 4 ^ sz ≠ 1) → ∀ fz' pa', post 0 (fz', le, ln, pa')) : wpY_take post (fz, le, ln, pa) p := by
  by_cases hp : p < 0
  · have h0 : ∀ q sz, sz ≤ 6 → p = nI q → q < 2 ^ 31 → q / 4 ^ sz ≠ 1 := by
      intro q sz _ e hq _
      rw [e] at hp
      exact nI_pos hq hp
    have h1 : p ≤ 1 := Int32.le_of_lt (Int32.lt_trans hp (by decide))
    have h2 : p < 1 := Int32.lt_trans hp (by decide)
    exact ⟨1, br_t h1 (br_t h2 (hn h0 _ _))⟩
  · obtain ⟨q, hq, e⟩ := nI_of hp
    subst e
    obtain ⟨k, hk1, hk2⟩ := en_kx q
    have hkle : q / 4 ^ k ≤ q := Nat.div_le_self _ _
    refine ⟨k + 1, ?_⟩
    have e0 : nI q = nI (q / 4 ^ 0) := by rw [Nat.pow_zero, Nat.div_one]
    have main : wY_take_7 post (nI q) le ln pa (k + 1) (nI (q / 4 ^ 0)) (nI 0) := by
      refine yw_t7 post hq hk1 hk2 ?_ k 0 (by omega)
      refine br_t (nI_le (b := 1) hk1 (by decide)) ?_
      refine pk_lt q 1 (fun z => ?_) (fun z => ?_)
      · refine hn ?_ _ _
        intro q' sz _ e hq' h1
        rw [nI_eq hq hq'] at e
        rw [← e, show q = 0 from by omega, Nat.zero_div] at h1
        omega
      · refine pk_le q 8191 (fun y => ?_) (fun y => ?_)
        · have hk6 : k ≤ 6 := by
            apply Nat.le_of_not_lt
            intro x
            have := hk2 6 x
            have h3 : q / 4 ^ 6 = q / 4096 := rfl
            omega
          refine nm_e ⟨k + 1, ?_⟩
          have h52 := yw_t52 (le := le) (ln := ln) post hq (k := k) (by omega) (fun pa' hpa => ?_) k pa (Nat.le_refl _) (fun i h1 h2 => by omega)
          · rw [Nat.sub_self, Nat.pow_zero, Nat.div_one] at h52
            exact h52
          · refine pk_eq (q / 4 ^ k) 1 (fun x => hy q k ⟨hk6, x, rfl⟩ pa' hpa) (fun x => hn ?_ _ _)
            intro q' sz h6 e hq' h1
            rw [nI_eq hq hq'] at e
            subst e
            have hlt : ¬ sz < k := by
              intro y
              have := hk2 sz y
              omega
            have hgt : ¬ k < sz := by
              intro y
              have := en_pre h1 y
              omega
            have : sz = k := by omega
            rw [this] at h1
            exact x h1
        · refine hn ?_ _ _
          intro q' sz h6 e hq' h1
          rw [nI_eq hq hq'] at e
          subst e
          have := en_V_lt h6 h1
          omega
    rw [← e0] at main
    exact main
theorem yw_stands (hls : en_Ls le t) (hln : en_Ln ln L) (ht : ∀ n, t n < 4) (hL : ∀ s, L s ≤ 9) {pd : Nat → Nat} {sz : Nat} (h8 : sz ≤ 8) (hpa : ∀ i, i < sz → pa i = nI (pd i)) (hpd : ∀ i, pd i < 4) (post : Int32 → Prop) {n : Nat} (hn : n < 96) (h : post (en_b (en_sb L t pd sz n))) : wpY_stands post (nI sz, le, ln, pa) (nI n) := by
  unfold wpY_stands
  dsimp only
  refine yw_isE hln hL _ hn ?_
  cases hE : en_E L n with
  | false =>
    refine br_t (show en_b false = 0 by decide) (en_p0 h ?_)
    rw [Bool.eq_false_iff]
    intro z
    have := en_sb_E z
    rw [hE] at this
    cases this
  | true =>
    have bn := en_E_b hL hE
    refine br_f (show ¬ en_b true = 0 by decide) ?_
    refine yw_size hln _ bn.1 bn.2.1 ?_
    refine pk_le sz (en_ln L n) (fun z => ⟨sz + 1, ?_⟩) (fun z => ?_)
    · have key : ∀ (d j : Nat), j + d = sz → (∀ i, i < j → t (n + i) = pd i) → wY_stands_24 post (nI n) (nI sz) le ln pa (d + 1) (nI j) := by
        intro d
        induction d with
        | zero =>
          intro j hj hall
          have hj' : j = sz := by omega
          subst hj'
          exact br_t (nI_le (Nat.le_refl _) (by omega)) (en_p1 h (en_sb_iff.mpr ⟨hE, z, hall⟩))
        | succ d ih =>
          intro j hj hall
          have ec : (nI j).toNatClampNeg = j := nI_clamp (by omega)
          refine br_f (nI_ge (by omega) (by omega)) ?_
          refine yw_let hls _ hn (by omega) ?_
          refine ⟨vp_in_nI (by omega) (by decide), ?_⟩
          rw [ec, hpa j (by omega)]
          have h4 := ht (n + j)
          have h5 := hpd j
          refine pk_eq (t (n + j)) (pd j) (fun y => ?_) (fun y => en_p0 h ?_)
          · refine nm_r (nI_1 j) (ih (j + 1) (by omega) ?_)
            intro i hi
            by_cases e : i = j
            · rw [e]; exact y
            · exact hall i (by omega)
          · rw [Bool.eq_false_iff]
            intro x
            exact y ((en_sb_iff.mp x).2.2 j (by omega))
      exact key sz 0 (by omega) (fun i hi => by omega)
    · refine en_p0 h ?_
      rw [Bool.eq_false_iff]
      intro x
      have := (en_sb_iff.mp x).2.1
      omega
theorem yw_countNow (hls : en_Ls le t) (hln : en_Ln ln L) (ht : ∀ n, t n < 4) (hL : ∀ s, L s ≤ 9) {pd : Nat → Nat} {sz : Nat} (h8 : sz ≤ 8) (hpa : ∀ i, i < sz → pa i = nI (pd i)) (hpd : ∀ i, pd i < 4) (post : Int32 → Prop) (hp : post (nI (en_ct (en_sb L t pd sz) 96))) : wpY_countNow post (nI sz, le, ln, pa) := by
  have key : ∀ (d i : Nat), i + d = 96 → wY_countNow_4 post (nI sz) le ln pa (d + 1) (nI (en_ct (en_sb L t pd sz) i)) (nI i) := by
    intro d
    induction d with
    | zero =>
      intro i hi
      have hi' : i = 96 := by omega
      subst hi'
      exact br_t (nI_le (a := 96) (by decide) (by decide)) hp
    | succ d ih =>
      intro i hi
      refine br_f (nI_ge (b := 96) (by omega) (by decide)) ?_
      refine yw_stands hls hln ht hL h8 hpa hpd _ (by omega) ?_
      have IH := ih (i + 1) (by omega)
      cases hS : en_sb L t pd sz i with
      | false =>
        rw [en_ct_f hS] at IH
        exact br_t (show en_b false = 0 by decide) (nm_r (nI_1 i) IH)
      | true =>
        rw [en_ct_t hS] at IH
        exact br_f (show ¬ en_b true = 0 by decide) (nm_r (nI_1 _) (nm_r (nI_1 i) IH))
  exact ⟨97, key 96 0 (by omega)⟩
theorem yw_slots (hls : en_Ls le t) (hln : en_Ln ln L) (ht : ∀ n, t n < 4) (hL : ∀ s, L s ≤ 9) {pd : Nat → Nat} {sz : Nat} (h8 : sz ≤ 8) (hpa : ∀ i, i < sz → pa i = nI (pd i)) (hpd : ∀ i, pd i < 4) (post : Int32 → SY → Prop) (hp : post (en_or (en_sb L t pd sz) (fun n => en_sh (n / 16)) 96) (nI sz, le, ln, pa)) :
    ∀ (d i : Nat), i + d = 96 → wY_slots_14 post (nI sz) le ln pa (d + 1) (en_or (en_sb L t pd sz) (fun n => en_sh (n / 16)) i) (nI i) := by
  intro d
  induction d with
  | zero =>
    intro i hi
    have hi' : i = 96 := by omega
    subst hi'
    exact br_t (nI_le (a := 96) (by decide) (by decide)) hp
  | succ d ih =>
    intro i hi
    refine br_f (nI_ge (b := 96) (by omega) (by decide)) ?_
    refine yw_stands hls hln ht hL h8 hpa hpd _ (by omega) ?_
    have IH := ih (i + 1) (by omega)
    cases hS : en_sb L t pd sz i with
    | false =>
      rw [show en_or (en_sb L t pd sz) (fun n => en_sh (n / 16)) (i + 1) = en_or (en_sb L t pd sz) (fun n => en_sh (n / 16)) i from if_neg (by rw [hS]; decide)] at IH
      exact br_t (show en_b false = 0 by decide) (nm_r (nI_1 i) IH)
    | true =>
      rw [show en_or (en_sb L t pd sz) (fun n => en_sh (n / 16)) (i + 1) = en_or (en_sb L t pd sz) (fun n => en_sh (n / 16)) i ||| en_sh (i / 16) from if_pos hS] at IH
      refine br_f (show ¬ en_b true = 0 by decide) ⟨en_n16, nm_r ?_ (nm_r (nI_1 i) IH)⟩
      rw [en_d16 (by omega)]
      rfl
theorem yw_p32 (hls : en_Ls le t) (hln : en_Ln ln L) (ht : ∀ n, t n < 4) (hL : ∀ s, L s ≤ 9) {pd : Nat → Nat} {sz : Nat} (h8 : sz ≤ 8) (hpa : ∀ i, i < sz → pa i = nI (pd i)) (hpd : ∀ i, pd i < 4) (post : Int32 → SY → Prop) (J : Int32 → Prop) (k : Int32) {N : Nat} (hN : en_E L N = true)
    (h1 : nI (en_cb (en_w L t) (en_sb L t pd sz) N) = k → post (nI N) (nI sz, le, ln, pa)) (h2 : ¬ nI (en_cb (en_w L t) (en_sb L t pd sz) N) = k → J (nI (N + 1))) :
    ∀ (d i : Nat), i + d = 96 → wY_place_32 post J k (nI N) (nI sz) le ln pa (d + 1) (nI (en_ct (fun x => en_sb L t pd sz x && en_bf (en_w L t) x N) i)) (nI i) := by
  intro d
  induction d with
  | zero =>
    intro i hi
    have hi' : i = 96 := by omega
    subst hi'
    exact br_t (nI_le (a := 96) (by decide) (by decide)) ⟨h1, fun z => nm_r (nI_1 N) (h2 z)⟩
  | succ d ih =>
    intro i hi
    refine br_f (nI_ge (b := 96) (by omega) (by decide)) ?_
    refine yw_stands hls hln ht hL h8 hpa hpd _ (by omega) ?_
    have IH := ih (i + 1) (by omega)
    cases hS : en_sb L t pd sz i with
    | false =>
      rw [en_ct_f (by simp only [hS, Bool.false_and])] at IH
      exact br_t (show en_b false = 0 by decide) (nm_r (nI_1 i) IH)
    | true =>
      refine br_f (show ¬ en_b true = 0 by decide) ?_
      refine yw_before hls hln ht hL _ (en_sb_E hS) hN ?_
      cases hb : en_bf (en_w L t) i N with
      | false =>
        rw [en_ct_f (by simp only [hS, hb, Bool.and_false])] at IH
        exact br_t (show en_b false = 0 by decide) (nm_r (nI_1 i) IH)
      | true =>
        rw [en_ct_t (by simp only [hS, hb, Bool.and_true])] at IH
        exact br_f (show ¬ en_b true = 0 by decide) (nm_r (nI_1 _) (nm_r (nI_1 i) IH))
theorem yw_p12 (hls : en_Ls le t) (hln : en_Ln ln L) (ht : ∀ n, t n < 4) (hL : ∀ s, L s ≤ 9) {pd : Nat → Nat} {sz : Nat} (h8 : sz ≤ 8) (hpa : ∀ i, i < sz → pa i = nI (pd i)) (hpd : ∀ i, pd i < 4) (post : Int32 → SY → Prop) (k : Int32)
    (h1 : ∀ j, j < 96 → en_sb L t pd sz j = true → nI (en_cb (en_w L t) (en_sb L t pd sz) j) = k → post (nI j) (nI sz, le, ln, pa)) (h2 : (∀ j, j < 96 → en_sb L t pd sz j = true → nI (en_cb (en_w L t) (en_sb L t pd sz) j) ≠ k) → post (-4) (nI sz, le, ln, pa)) :
    ∀ (d i : Nat), i + d = 96 → (∀ j, j < i → en_sb L t pd sz j = true → nI (en_cb (en_w L t) (en_sb L t pd sz) j) ≠ k) → wY_place_12 post k (nI sz) le ln pa (d + 1) (nI i) := by
  intro d
  induction d with
  | zero =>
    intro i hi hno
    have hi' : i = 96 := by omega
    subst hi'
    exact br_t (nI_le (a := 96) (by decide) (by decide)) (h2 hno)
  | succ d ih =>
    intro i hi hno
    refine br_f (nI_ge (b := 96) (by omega) (by decide)) ?_
    refine yw_stands hls hln ht hL h8 hpa hpd _ (by omega) ?_
    cases hS : en_sb L t pd sz i with
    | false =>
      refine br_t (show en_b false = 0 by decide) (nm_r (nI_1 i) (ih (i + 1) (by omega) ?_))
      intro j hj hSj
      by_cases e : j = i
      · rw [e, hS] at hSj; cases hSj
      · exact hno j (by omega) hSj
    | true =>
      refine br_f (show ¬ en_b true = 0 by decide) ⟨97, ?_⟩
      refine yw_p32 hls hln ht hL h8 hpa hpd post _ k (en_sb_E hS) (fun z => h1 i (by omega) hS z) (fun z => ih (i + 1) (by omega) ?_) 96 0 (by omega)
      intro j hj hSj
      by_cases e : j = i
      · rw [e]; exact z
      · exact hno j (by omega) hSj
theorem en_Y_t {b : Nat → Bool} {k : Nat} (h : b k = true) : en_Y b (k + 1) = en_Y b k ||| en_sh k := if_pos h
theorem en_Y_f {b : Nat → Bool} {k : Nat} (h : b k = false) : en_Y b (k + 1) = en_Y b k := if_neg (by rw [h]; decide)
theorem yw_after (hls : en_Ls le t) (hln : en_Ln ln L) (ht : ∀ n, t n < 4) (hL : ∀ s, L s ≤ 9) {pd : Nat → Nat} {sz : Nat} (h6 : sz ≤ 6) (hpd : ∀ i, pd i < 4) (post : Int32 → SY → Prop) (hp : ∀ pa', post (en_Y (fun k => decide (0 < en_ct (en_sb L t (en_pa pd sz k) (sz + 1)) 96)) 4) (nI (sz + 1), le, ln, pa')) :
    ∀ (d k : Nat) (pa : Nat → Int32), k + d = 4 → (∀ i, i < sz → pa i = nI (pd i)) → wY_after_24 post (nI (sz + 1)) (d + 1) (en_Y (fun k => decide (0 < en_ct (en_sb L t (en_pa pd sz k) (sz + 1)) 96)) k) (nI k) le ln pa := by
  intro d
  induction d with
  | zero =>
    intro k pa hk _
    have hk' : k = 4 := by omega
    subst hk'
    exact br_t (nI_le (a := 4) (by decide) (by decide)) (hp pa)
  | succ d ih =>
    intro k pa hk hpa
    have e1 : nI (sz + 1) - 1 = nI sz := nI_pred sz
    refine br_f (nI_ge (b := 4) (by omega) (by decide)) ?_
    rw [e1]
    refine ⟨vp_in_nI (by omega) (by decide), nm_e ?_⟩
    rw [nI_clamp (by omega)]
    have hpa2 : ∀ i, i < sz → upd pa sz (nI k) i = nI (pd i) := fun i hi => (if_neg (by omega)).trans (hpa i hi)
    have hpa3 : ∀ i, i < sz + 1 → upd pa sz (nI k) i = nI (en_pa pd sz k i) := by
      intro i hi
      unfold upd en_pa
      by_cases e : i = sz
      · rw [if_pos e, if_pos e]
      · rw [if_neg e, if_neg e]; exact hpa i (by omega)
    have hpd3 : ∀ i, en_pa pd sz k i < 4 := by
      intro i
      unfold en_pa
      split
      · omega
      · exact hpd i
    have IH := ih (k + 1) (upd pa sz (nI k)) (by omega) hpa2
    have hct := en_ct_le (en_sb L t (en_pa pd sz k) (sz + 1)) 96
    refine yw_countNow hls hln ht hL (by omega) hpa3 hpd3 _ ?_
    refine pk_le (en_ct (en_sb L t (en_pa pd sz k) (sz + 1)) 96) 0 (fun z => ?_) (fun z => ?_)
    · rw [en_Y_f (decide_eq_false (by omega))] at IH
      exact nm_r (nI_1 k) IH
    · rw [en_Y_t (decide_eq_true z)] at IH
      exact nm_e (nm_r (nI_1 k) IH)
theorem yw_b53 (hls : en_Ls le t) (hln : en_Ln ln L) (ht : ∀ n, t n < 4) (hL : ∀ s, L s ≤ 9) {pd : Nat → Nat} {sz : Nat} (h6 : sz ≤ 6) (hpd : ∀ i, pd i < 4) (post : Int32 → SY → Prop) (hp : ∀ pa', post (en_Y (fun k => decide (0 < en_ct (en_sb L t (en_pb pd k) (sz + 1)) 96)) 4) (nI (sz + 1), le, ln, pa')) :
    ∀ (d k : Nat) (pa : Nat → Int32), k + d = 4 → (∀ i, i < sz → pa (i + 1) = nI (pd i)) → wY_before_53 post (nI (sz + 1)) (d + 1) (en_Y (fun k => decide (0 < en_ct (en_sb L t (en_pb pd k) (sz + 1)) 96)) k) (nI k) le ln pa := by
  intro d
  induction d with
  | zero =>
    intro k pa hk _
    have hk' : k = 4 := by omega
    subst hk'
    exact br_t (nI_le (a := 4) (by decide) (by decide)) (hp pa)
  | succ d ih =>
    intro k pa hk hpa
    refine br_f (nI_ge (b := 4) (by omega) (by decide)) (nm_e ?_)
    have hpa2 : ∀ i, i < sz → upd pa 0 (nI k) (i + 1) = nI (pd i) := fun i hi => (if_neg (by omega)).trans (hpa i hi)
    have hpa3 : ∀ i, i < sz + 1 → upd pa 0 (nI k) i = nI (en_pb pd k i) := by
      intro i hi
      unfold upd en_pb
      by_cases e : i = 0
      · rw [if_pos e, if_pos e]
      · rw [if_neg e, if_neg e]
        have := hpa (i - 1) (by omega)
        rw [show i - 1 + 1 = i from by omega] at this
        exact this
    have hpd3 : ∀ i, en_pb pd k i < 4 := by
      intro i
      unfold en_pb
      split
      · omega
      · exact hpd (i - 1)
    have IH := ih (k + 1) (upd pa 0 (nI k)) (by omega) hpa2
    have hct := en_ct_le (en_sb L t (en_pb pd k) (sz + 1)) 96
    refine yw_countNow hls hln ht hL (by omega) hpa3 hpd3 _ ?_
    refine pk_le (en_ct (en_sb L t (en_pb pd k) (sz + 1)) 96) 0 (fun z => ?_) (fun z => ?_)
    · rw [en_Y_f (decide_eq_false (by omega))] at IH
      exact nm_r (nI_1 k) IH
    · rw [en_Y_t (decide_eq_true z)] at IH
      exact nm_e (nm_r (nI_1 k) IH)
theorem yw_b15 (hls : en_Ls le t) (hln : en_Ln ln L) (ht : ∀ n, t n < 4) (hL : ∀ s, L s ≤ 9) {pd : Nat → Nat} {sz : Nat} (h6 : sz ≤ 6) (hpd : ∀ i, pd i < 4) (post : Int32 → SY → Prop) (hp : ∀ pa', post (en_Y (fun k => decide (0 < en_ct (en_sb L t (en_pb pd k) (sz + 1)) 96)) 4) (nI (sz + 1), le, ln, pa')) :
    ∀ (j : Nat) (pa : Nat → Int32), j ≤ sz → (∀ i, i < j → pa i = nI (pd i)) → (∀ i, j ≤ i → i < sz → pa (i + 1) = nI (pd i)) → wY_before_15 post (nI sz) (j + 1) (nI j) le ln pa := by
  intro j
  induction j with
  | zero =>
    intro pa _ _ h2
    refine br_t (by decide) (nm_r (nI_1 sz) ⟨5, ?_⟩)
    exact yw_b53 hls hln ht hL h6 hpd post hp 4 0 pa (by omega) (fun i hi => h2 i (by omega) hi)
  | succ j ih =>
    intro pa hj h1 h2
    have e1 : nI (j + 1) - 1 = nI j := nI_pred j
    have ec : (nI j).toNatClampNeg = j := nI_clamp (by omega)
    have ec2 : (nI (j + 1)).toNatClampNeg = j + 1 := nI_clamp (by omega)
    refine br_f (nI_nle (by omega) (by omega)) ?_
    rw [e1, ec, ec2, h1 j (by omega)]
    refine ⟨vp_in_nI (by omega) (by decide), vp_in_nI (by omega) (by decide), nm_e (nm_r (pk_m1 j) ?_)⟩
    refine ih _ (by omega) ?_ ?_
    · intro i hi
      exact (if_neg (by omega)).trans (h1 i (by omega))
    · intro i hi1 hi2
      by_cases e : i = j
      · rw [e]; exact if_pos rfl
      · exact (if_neg (by omega)).trans (h2 i (by omega) hi2)
end
end
section
/-! whole methods -/
section
variable {fd fc : Int32} {t L D : Nat → Nat} {rk : Nat → Int32} {fz : Int32} {le ln pa : Nat → Int32}
theorem xw_moveDraft (post : SX → Prop) {s dl : Nat} (hs : s < 6) (hd : dl ≤ 9) (hp : post (en_X (nI 0) fc (en_mv t D s dl) (en_up L s dl) (fun i => nI (D i)) rk)) :
    wpX_moveDraftTo post (en_X (nI dl) fc t L (fun i => nI (D i)) rk) (nI s) := by
  have h := xw_move post hs hd hp dl 0 (by omega)
  rw [en_mv_0] at h
  exact ⟨dl + 1, h⟩
theorem xw_rankEndings (post : SX → Prop) {dr : Nat → Int32} {s : Nat} {l : List Nat} (hA : en_Ad L t s 0 l) (a : en_At rk 0 l) (hp : ∀ l rk, en_In L t l → en_At rk 0 l → post (en_X fd (nI l.length) t L dr rk)) :
    wpX_rankEndingsOf post (en_X fd (nI l.length) t L dr rk) (nI s) := by
  have hs := hA.2.2.1
  refine ⟨vp_in_nI hs (by decide), nm_r (e' := nI (L s)) ?_ ⟨L s + 2, ?_⟩⟩
  · rw [nI_clamp (by omega)]
  · exact xw_ranks post hp (L s + 1) 0 l rk (by omega) hA a
theorem xw_add (post : Int32 → SX → Prop) {s dl : Nat} {l : List Nat} (hI : en_In L t l) (a : en_At rk 0 l) (hD : ∀ i, D i < 4) (hs : s < 6) (h0 : L s = 0) (hd0 : 0 < dl) (hd : dl ≤ 9)
    (hp : ∀ l' rk', en_In (en_up L s dl) (en_mv t D s dl) l' → en_At rk' 0 l' → post (nI l'.length) (en_X (nI 0) (nI l'.length) (en_mv t D s dl) (en_up L s dl) (fun i => nI (D i)) rk')) :
    wpX_add post (en_X (nI dl) (nI l.length) t L (fun i => nI (D i)) rk) (nI s) := by
  have ec : (nI s).toNatClampNeg = s := nI_clamp (by omega)
  unfold wpX_add
  dsimp only
  refine xw_isSlot _ (nI s) (fun h => ?_) (fun s' _ _ => ?_)
  · rcases h with h | h
    · exact absurd h (nI_pos (by omega))
    · exact absurd h (nI_ge hs (by decide))
  · refine br_f (by decide) ⟨vp_in_nI hs (by decide), ?_⟩
    rw [ec, h0]
    refine br_t (by decide) (br_f (nI_ne0 hd0 (by omega)) ?_)
    refine xw_moveDraft _ hs hd ?_
    refine xw_rankEndings _ (en_Ad_0 hI hs h0 hd0 hd hD) a ?_
    exact hp
theorem xw_remove (post : Int32 → SX → Prop) {dr : Nat → Int32} {s : Nat} {l : List Nat} (hI : en_In L t l) (a : en_At rk 0 l) (hs : s < 6) (h0 : 0 < L s)
    (hp : ∀ l' rk', en_In (en_up L s 0) t l' → en_At rk' 0 l' → post (nI l'.length) (en_X fd (nI l'.length) t (en_up L s 0) dr rk')) :
    wpX_remove post (en_X fd (nI l.length) t L dr rk) (nI s) := by
  have ec : (nI s).toNatClampNeg = s := nI_clamp (by omega)
  have h60 := en_In_60 hI
  have h9 := hI.2.1 s
  unfold wpX_remove
  dsimp only
  refine xw_isSlot _ (nI s) (fun h => ?_) (fun s' _ _ => ?_)
  · rcases h with h | h
    · exact absurd h (nI_pos (by omega))
    · exact absurd h (nI_ge hs (by decide))
  · have hin : vp_in (nI s) 6 := vp_in_nI hs (by decide)
    refine br_f (by decide) ⟨hin, ?_⟩
    rw [ec]
    refine br_f (nI_ne0 h0 (by omega)) ⟨hin, nm_r (en_up_I L s 0) ?_⟩
    refine ⟨l.length + 1, ?_⟩
    refine xw_unrank _ hs h60 (fun x hx => ((hI.2.2.2 x).mp hx).1) ?_ l [] rk rfl trivial a
    intro rk' a'
    exact hp _ rk' (en_rem hI s) a'
theorem yw_isSlot (post : Int32 → Prop) {u : SY} (v : Int32) (h0 : (v < 0 ∨ nI 6 ≤ v) → post 0) (h1 : ∀ s, s < 6 → v = nI s → post 1) : wpY_isSlot post u v := by
  obtain ⟨a, b, c, d⟩ := u
  rcases pk_ix v (n := 6) (by decide) with h | h | ⟨s, hs, h⟩
  · exact br_t h (h0 (Or.inl h))
  · have h5 : (5 : Int32) < v := Int32.lt_of_lt_of_le (show (5 : Int32) < nI 6 by decide) h
    refine br_c (fun _ => h0 (Or.inr h)) (fun _ => br_t h5 (h0 (Or.inr h)))
  · subst h
    exact br_f (nI_pos (by omega)) (br_f (nI_nlt (a := 5) (by omega) (by decide)) (h1 s hs rfl))
theorem yw_add37 (post : Int32 → SY → Prop) {s dl : Nat} (hs : s < 6) (hd : dl ≤ 9) (hL : ∀ x, L x ≤ 9) (h6 : ln 6 = nI dl) (hln : en_Ln ln L)
    (hp : ∀ le' ln', en_Ls le' (en_mv t D s dl) → en_Ld le' D → en_Ln ln' (en_up L s dl) → ln' 6 = nI 0 → post (nI (en_sm (en_up L s dl) 6)) (fz, le', ln', pa)) :
    ∀ (d i : Nat) (le : Nat → Int32), i + d = dl → en_Ls le (en_mv t D s i) → en_Ld le D → wY_add_37 post (nI s) fz (d + 1) (nI i) le ln pa := by
  have ec : (nI s).toNatClampNeg = s := nI_clamp (by omega)
  intro d
  induction d with
  | zero =>
    intro i le hi hls hld
    have hi' : i = dl := by omega
    subst hi'
    have hln' : en_Ln (upd (upd ln s (nI i)) 6 0) (en_up L s i) := en_Ln_hi (by decide) (en_Ln_up hln)
    refine br_t (by rw [h6]; exact nI_le (Nat.le_refl _) (by omega)) ⟨vp_in_nI (by omega) (by decide), nm_e (nm_e ?_)⟩
    rw [ec, h6]
    exact yw_endings hln' (en_up_le hL hd) _ (hp le _ hls hld hln' (if_pos rfl))
  | succ d ih =>
    intro i le hi hls hld
    have e1 : (54 : Int32) + nI i = nI (54 + i) := by rw [show (54 : Int32) = nI 54 from rfl, nI_add]
    have e2 : (9 : Int32) * nI s + nI i = nI (9 * s + i) := by rw [show (9 : Int32) = nI 9 from rfl, pk_mul, nI_add]
    have e3 : (nI (54 + i)).toNatClampNeg = 54 + i := nI_clamp (by omega)
    have e4 : (nI (9 * s + i)).toNatClampNeg = 9 * s + i := nI_clamp (by omega)
    refine br_f (by rw [h6]; exact nI_ge (by omega) (by omega)) ?_
    rw [e1, e2, e3, e4, hld i (by omega)]
    refine ⟨vp_in_nI (by omega) (by decide), vp_in_nI (by omega) (by decide), nm_e (nm_r (nI_1 i) ?_)⟩
    exact ih (i + 1) _ (by omega) (en_Ls_step hs (by omega) hls) (en_Ld_step (by omega) hld)
theorem yw_add (post : Int32 → SY → Prop) {s dl : Nat} (hs : s < 6) (h0 : L s = 0) (hd0 : 0 < dl) (hd : dl ≤ 9) (hL : ∀ x, L x ≤ 9) (h6 : ln 6 = nI dl) (hls : en_Ls le t) (hld : en_Ld le D) (hln : en_Ln ln L)
    (hp : ∀ le' ln', en_Ls le' (en_mv t D s dl) → en_Ld le' D → en_Ln ln' (en_up L s dl) → ln' 6 = nI 0 → post (nI (en_sm (en_up L s dl) 6)) (fz, le', ln', pa)) :
    wpY_add post (fz, le, ln, pa) (nI s) := by
  have ec : (nI s).toNatClampNeg = s := nI_clamp (by omega)
  unfold wpY_add
  dsimp only
  refine yw_isSlot _ (nI s) (fun h => ?_) (fun s' _ _ => ?_)
  · rcases h with h | h
    · exact absurd h (nI_pos (by omega))
    · exact absurd h (nI_ge hs (by decide))
  · refine br_f (by decide) ⟨vp_in_nI (by omega) (by decide), ?_⟩
    rw [ec, hln s hs, h0]
    refine br_t (by decide) (br_f ?_ ⟨dl + 1, ?_⟩)
    · rw [h6]; exact nI_ne0 hd0 (by omega)
    · refine yw_add37 post hs hd hL h6 hln hp dl 0 le (by omega) ?_ hld
      rw [en_mv_0]
      exact hls
theorem yw_remove (post : Int32 → SY → Prop) {s : Nat} (hs : s < 6) (h0 : 0 < L s) (hL : ∀ x, L x ≤ 9) (hln : en_Ln ln L)
    (hp : ∀ ln', en_Ln ln' (en_up L s 0) → ln' 6 = ln 6 → post (nI (en_sm (en_up L s 0) 6)) (fz, le, ln', pa)) :
    wpY_remove post (fz, le, ln, pa) (nI s) := by
  have ec : (nI s).toNatClampNeg = s := nI_clamp (by omega)
  have h9 := hL s
  have hln' : en_Ln (upd ln s (nI 0)) (en_up L s 0) := en_Ln_up hln
  unfold wpY_remove
  dsimp only
  refine yw_isSlot _ (nI s) (fun h => ?_) (fun s' _ _ => ?_)
  · rcases h with h | h
    · exact absurd h (nI_pos (by omega))
    · exact absurd h (nI_ge hs (by decide))
  · have hin : vp_in (nI s) 7 := vp_in_nI (by omega) (by decide)
    refine br_f (by decide) ⟨hin, ?_⟩
    rw [ec, hln s hs]
    refine br_f (nI_ne0 h0 (by omega)) ⟨hin, nm_e ?_⟩
    exact yw_endings hln' (en_up_le hL (by decide)) _ (hp _ hln' (if_neg (by omega)))
end
theorem en_V_uq {p : Int32} {q sz q' sz' : Nat} (h : en_V p q sz) (h' : en_V p q' sz') : q' = q ∧ sz' = sz := by
  obtain ⟨a, b, c⟩ := h
  obtain ⟨a', b', c'⟩ := h'
  have l1 := en_V_lt a b
  have l2 := en_V_lt a' b'
  rw [c, nI_eq (by omega) (by omega)] at c'
  subst c'
  refine ⟨rfl, ?_⟩
  rcases Nat.lt_trichotomy sz sz' with z | z | z
  · have := en_pre b' z; omega
  · exact z.symm
  · have := en_pre b z; omega
theorem en_V_no {p : Int32} {q sz : Nat} (h : en_V p q sz) (hn : ∀ q sz, sz ≤ 6 → p = nI q → q < 2 ^ 31 → q / 4 ^ sz ≠ 1) : False :=
  hn q sz h.1 h.2.2 (Nat.lt_trans (en_V_lt h.1 h.2.1) (by decide)) h.2.1
end
section
/-- the relation: one pure picture of texts, draft and ranks for both -/
def i_Rel (k : Nat) (u : SX) (v : SY) : Prop := ∃ (t L D : Nat → Nat) (dl : Nat) (l : List Nat) (rk : Nat → Int32) (fz : Int32) (le ln pa : Nat → Int32),
  u = (nI dl, nI l.length, fun n => nI (t n), fun s => nI (L s), fun i => nI (D i), rk) ∧ v = (fz, le, ln, pa) ∧ en_In L t l ∧ en_At rk 0 l ∧ (∀ i, D i < 4) ∧ dl ≤ 9 ∧ en_Ls le t ∧ en_Ld le D ∧ en_Ln ln L ∧ ln 6 = nI dl
theorem i_up {k : Nat} {u : SX} {v : SY} (h : i_Rel k u v) : i_Rel (k + 3) u v := h
theorem i_vc0 : wpX_init (fun u => wpY_init (fun v => i_Rel 0 u v)) := by
  refine ⟨fun _ => 0, fun _ => 0, fun _ => 0, 0, [], fun _ => 0, 0, fun _ => 0, fun _ => 0, fun _ => 0, rfl, rfl, ⟨fun _ => (by decide : (0 : Nat) < 4), fun _ => (by decide : (0 : Nat) ≤ 9), List.Pairwise.nil, fun n => ?_⟩, trivial, fun _ => (by decide : (0 : Nat) < 4), by decide, fun _ _ _ _ => rfl, fun _ _ => rfl, fun _ _ => rfl, rfl⟩
  constructor
  · intro h; cases h
  · intro h
    have := en_E_iff.mp h.2
    omega
theorem i_vc_draft {k : Nat} {u : SX} {v : SY} (I : i_Rel k u v) (hk : k + 3 ≤ 1536) (v1 : Int32) : wpX_draft (fun r u' => wpY_draft (fun r' v' => r' = r ∧ i_Rel (k + 3) u' v') v v1) u v1 := by
  obtain ⟨t, L, D, dl, l, rk, fz, le, ln, pa, rfl, rfl, hI, hA, hD, hd, hls, hld, hln, h6⟩ := I
  have R : i_Rel (k + 3) (nI dl, nI l.length, fun n => nI (t n), fun s => nI (L s), fun i => nI (D i), rk) (fz, le, ln, pa) := ⟨t, L, D, dl, l, rk, fz, le, ln, pa, rfl, rfl, hI, hA, hD, hd, hls, hld, hln, h6⟩
  by_cases hneg : v1 < 0
  · exact br_t hneg (br_t hneg ⟨rfl, R⟩)
  · obtain ⟨j, hj, rfl⟩ := nI_of hneg
    by_cases h4 : j < 4
    · by_cases h9 : dl < 9
      · refine br_f hneg (br_t (nI_lt (b := 4) h4 (by decide)) (br_t (nI_lt (b := 9) h9 (by decide)) ⟨vp_in_nI h9 (by decide), nm_r (e' := fun i => nI (en_up D dl j i)) ?_ (nm_r (nI_1 dl) ?_)⟩))
        · rw [nI_clamp (by omega)]
          exact en_up_I D dl j
        · refine br_f hneg (br_t (nI_le (b := 3) (by omega) (by decide)) (br_f ?_ ?_))
          · rw [h6]
            intro z
            have := (nI_eq (b := 9) (by omega) (by decide)).mp z
            omega
          · have e1 : (54 : Int32) + nI dl = nI (54 + dl) := by rw [show (54 : Int32) = nI 54 from rfl, nI_add]
            have e2 : (nI (54 + dl)).toNatClampNeg = 54 + dl := nI_clamp (by omega)
            rw [h6, e1, e2, nI_1]
            refine ⟨vp_in_nI (by omega) (by decide), nm_e (nm_e ⟨if_pos rfl, ?_⟩)⟩
            refine ⟨t, L, en_up D dl j, dl + 1, l, rk, fz, upd le (54 + dl) (nI j), upd ln 6 (nI (dl + 1)), pa, rfl, rfl, hI, hA, ?_, by omega, ?_, ?_, en_Ln_hi (by decide) hln, if_pos rfl⟩
            · intro i
              unfold en_up
              split
              · exact h4
              · exact hD i
            · intro s hs i hi
              exact (if_neg (by omega)).trans (hls s hs i hi)
            · intro i hi
              unfold upd en_up
              by_cases e : i = dl
              · rw [if_pos e, if_pos (by omega)]
              · rw [if_neg e, if_neg (by omega)]
                exact hld i hi
      · have e9 : dl = 9 := by omega
        refine br_f hneg (br_t (nI_lt (b := 4) h4 (by decide)) (br_f (nI_nlt (b := 9) (by omega) (by omega)) ?_))
        refine br_f hneg (br_t (nI_le (b := 3) (by omega) (by decide)) (br_t ?_ ⟨rfl, R⟩))
        rw [h6, e9]
        rfl
    · exact br_f hneg (br_f (nI_nlt (b := 4) (by omega) hj) (br_f hneg (br_f (nI_ge (a := 3) (by omega) hj) ⟨rfl, R⟩)))
theorem i_vc_scrap {k : Nat} {u : SX} {v : SY} (I : i_Rel k u v) (hk : k + 3 ≤ 1536) : wpX_scrap (fun u' => wpY_scrap (fun v' => i_Rel (k + 3) u' v') v) u := by
  obtain ⟨t, L, D, dl, l, rk, fz, le, ln, pa, rfl, rfl, hI, hA, hD, hd, hls, hld, hln, h6⟩ := I
  exact nm_e ⟨t, L, D, 0, l, rk, fz, le, upd ln 6 0, pa, rfl, rfl, hI, hA, hD, by decide, hls, hld, en_Ln_hi (by decide) hln, if_pos rfl⟩
theorem i_vc_add {k : Nat} {u : SX} {v : SY} (I : i_Rel k u v) (hk : k + 3 ≤ 1536) (v1 : Int32) : wpX_add (fun r u' => wpY_add (fun r' v' => r' = r ∧ i_Rel (k + 3) u' v') v v1) u v1 := by
  obtain ⟨t, L, D, dl, l, rk, fz, le, ln, pa, rfl, rfl, hI, hA, hD, hd, hls, hld, hln, h6⟩ := I
  have R : i_Rel (k + 3) (nI dl, nI l.length, fun n => nI (t n), fun s => nI (L s), fun i => nI (D i), rk) (fz, le, ln, pa) := ⟨t, L, D, dl, l, rk, fz, le, ln, pa, rfl, rfl, hI, hA, hD, hd, hls, hld, hln, h6⟩
  have bad : ∀ (Z : Int32), ((Z < 0 ∨ nI 6 ≤ Z) → v1 = Z → wpX_add (fun r u' => wpY_add (fun r' v' => r' = r ∧ i_Rel (k + 3) u' v') (fz, le, ln, pa) v1) (nI dl, nI l.length, fun n => nI (t n), fun s => nI (L s), fun i => nI (D i), rk) v1) := by
    intro Z hZ e
    subst e
    unfold wpX_add
    dsimp only
    refine xw_isSlot _ v1 (fun _ => br_t rfl ?_) (fun s hs e => ?_)
    · unfold wpY_add
      dsimp only
      refine yw_isSlot _ v1 (fun _ => br_t rfl ⟨rfl, R⟩) (fun s hs e => ?_)
      subst e
      rcases hZ with h | h
      · exact absurd h (nI_pos (by omega))
      · exact absurd h (nI_ge hs (by decide))
    · subst e
      rcases hZ with h | h
      · exact absurd h (nI_pos (by omega))
      · exact absurd h (nI_ge hs (by decide))
  rcases pk_ix v1 (n := 6) (by decide) with h | h | ⟨s, hs, h⟩
  · exact bad v1 (Or.inl h) rfl
  · exact bad v1 (Or.inr h) rfl
  · subst h
    have ec : (nI s).toNatClampNeg = s := nI_clamp (by omega)
    have h9 := hI.2.1 s
    by_cases h0 : L s = 0
    · by_cases hd0 : dl = 0
      · unfold wpX_add
        dsimp only
        refine xw_isSlot _ (nI s) (fun hb => ?_) (fun _ _ _ => br_f (by decide) ⟨vp_in_nI hs (by decide), ?_⟩)
        · rcases hb with h | h
          · exact absurd h (nI_pos (by omega))
          · exact absurd h (nI_ge hs (by decide))
        · rw [ec, h0]
          refine br_t (by decide) (br_t (by rw [hd0]; rfl) ?_)
          unfold wpY_add
          dsimp only
          refine yw_isSlot _ (nI s) (fun hb => ?_) (fun _ _ _ => br_f (by decide) ⟨vp_in_nI (by omega) (by decide), ?_⟩)
          · rcases hb with h | h
            · exact absurd h (nI_pos (by omega))
            · exact absurd h (nI_ge hs (by decide))
          · rw [ec, hln s hs, h0]
            refine br_t (by decide) (br_t (by rw [h6, hd0]; rfl) ⟨rfl, R⟩)
      · refine xw_add _ hI hA hD hs h0 (by omega) hd ?_
        intro l' rk' hI' hA'
        refine yw_add _ hs h0 (by omega) hd hI.2.1 h6 hls hld hln ?_
        intro le' ln' hls' hld' hln' h6'
        exact ⟨by rw [en_In_len hI'], en_mv t D s dl, en_up L s dl, D, 0, l', rk', fz, le', ln', pa, rfl, rfl, hI', hA', hD, by decide, hls', hld', hln', h6'⟩
    · unfold wpX_add
      dsimp only
      refine xw_isSlot _ (nI s) (fun hb => ?_) (fun _ _ _ => br_f (by decide) ⟨vp_in_nI hs (by decide), ?_⟩)
      · rcases hb with h | h
        · exact absurd h (nI_pos (by omega))
        · exact absurd h (nI_ge hs (by decide))
      · rw [ec]
        refine br_f (nI_nle (by omega) (by omega)) ?_
        unfold wpY_add
        dsimp only
        refine yw_isSlot _ (nI s) (fun hb => ?_) (fun _ _ _ => br_f (by decide) ⟨vp_in_nI (by omega) (by decide), ?_⟩)
        · rcases hb with h | h
          · exact absurd h (nI_pos (by omega))
          · exact absurd h (nI_ge hs (by decide))
        · rw [ec, hln s hs]
          exact br_f (nI_nle (by omega) (by omega)) ⟨rfl, R⟩
theorem i_vc_remove {k : Nat} {u : SX} {v : SY} (I : i_Rel k u v) (hk : k + 3 ≤ 1536) (v1 : Int32) : wpX_remove (fun r u' => wpY_remove (fun r' v' => r' = r ∧ i_Rel (k + 3) u' v') v v1) u v1 := by
  obtain ⟨t, L, D, dl, l, rk, fz, le, ln, pa, rfl, rfl, hI, hA, hD, hd, hls, hld, hln, h6⟩ := I
  have R : i_Rel (k + 3) (nI dl, nI l.length, fun n => nI (t n), fun s => nI (L s), fun i => nI (D i), rk) (fz, le, ln, pa) := ⟨t, L, D, dl, l, rk, fz, le, ln, pa, rfl, rfl, hI, hA, hD, hd, hls, hld, hln, h6⟩
  have bad : ∀ (Z : Int32), ((Z < 0 ∨ nI 6 ≤ Z) → v1 = Z → wpX_remove (fun r u' => wpY_remove (fun r' v' => r' = r ∧ i_Rel (k + 3) u' v') (fz, le, ln, pa) v1) (nI dl, nI l.length, fun n => nI (t n), fun s => nI (L s), fun i => nI (D i), rk) v1) := by
    intro Z hZ e
    subst e
    unfold wpX_remove
    dsimp only
    refine xw_isSlot _ v1 (fun _ => br_t rfl ?_) (fun s hs e => ?_)
    · unfold wpY_remove
      dsimp only
      refine yw_isSlot _ v1 (fun _ => br_t rfl ⟨rfl, R⟩) (fun s hs e => ?_)
      subst e
      rcases hZ with h | h
      · exact absurd h (nI_pos (by omega))
      · exact absurd h (nI_ge hs (by decide))
    · subst e
      rcases hZ with h | h
      · exact absurd h (nI_pos (by omega))
      · exact absurd h (nI_ge hs (by decide))
  rcases pk_ix v1 (n := 6) (by decide) with h | h | ⟨s, hs, h⟩
  · exact bad v1 (Or.inl h) rfl
  · exact bad v1 (Or.inr h) rfl
  · subst h
    have ec : (nI s).toNatClampNeg = s := nI_clamp (by omega)
    have h9 := hI.2.1 s
    by_cases h0 : L s = 0
    · unfold wpX_remove
      dsimp only
      refine xw_isSlot _ (nI s) (fun hb => ?_) (fun _ _ _ => br_f (by decide) ⟨vp_in_nI hs (by decide), ?_⟩)
      · rcases hb with h | h
        · exact absurd h (nI_pos (by omega))
        · exact absurd h (nI_ge hs (by decide))
      · rw [ec, h0]
        refine br_t (by decide) ?_
        unfold wpY_remove
        dsimp only
        refine yw_isSlot _ (nI s) (fun hb => ?_) (fun _ _ _ => br_f (by decide) ⟨vp_in_nI (by omega) (by decide), ?_⟩)
        · rcases hb with h | h
          · exact absurd h (nI_pos (by omega))
          · exact absurd h (nI_ge hs (by decide))
        · rw [ec, hln s hs, h0]
          exact br_t (by decide) ⟨rfl, R⟩
    · refine xw_remove _ hI hA hs (by omega) ?_
      intro l' rk' hI' hA'
      refine yw_remove _ hs (by omega) hI.2.1 hln ?_
      intro ln' hln' h6'
      exact ⟨by rw [en_In_len hI'], t, en_up L s 0, D, dl, l', rk', fz, le, ln', pa, rfl, rfl, hI', hA', hD, hd, hls, hld, hln', h6'.trans h6⟩
theorem i_vc_endings {k : Nat} {u : SX} {v : SY} (I : i_Rel k u v) (hk : k + 3 ≤ 1536) : wpX_endings (fun r => wpY_endings (fun r' => r' = r ∧ i_Rel (k + 3) u v) v) u := by
  have R : i_Rel (k + 3) u v := i_up I
  obtain ⟨t, L, D, dl, l, rk, fz, le, ln, pa, rfl, rfl, hI, hA, hD, hd, hls, hld, hln, h6⟩ := I
  exact yw_endings hln hI.2.1 _ ⟨by rw [en_In_len hI], R⟩
theorem i_vc_length {k : Nat} {u : SX} {v : SY} (I : i_Rel k u v) (hk : k + 3 ≤ 1536) (v1 : Int32) : wpX_length (fun r => wpY_length (fun r' => r' = r ∧ i_Rel (k + 3) u v) v v1) u v1 := by
  have R : i_Rel (k + 3) u v := i_up I
  obtain ⟨t, L, D, dl, l, rk, fz, le, ln, pa, rfl, rfl, hI, hA, hD, hd, hls, hld, hln, h6⟩ := I
  unfold wpX_length
  dsimp only
  refine xw_isSlot _ v1 (fun hb => br_t rfl ?_) (fun s hs e => br_f (by decide) ?_)
  · unfold wpY_length
    dsimp only
    refine yw_isSlot _ v1 (fun _ => br_t rfl ⟨rfl, R⟩) (fun s hs e => ?_)
    subst e
    rcases hb with h | h
    · exact absurd h (nI_pos (by omega))
    · exact absurd h (nI_ge hs (by decide))
  · subst e
    have ec : (nI s).toNatClampNeg = s := nI_clamp (by omega)
    refine ⟨vp_in_nI hs (by decide), ?_⟩
    unfold wpY_length
    dsimp only
    refine yw_isSlot _ (nI s) (fun hb => ?_) (fun _ _ _ => br_f (by decide) ⟨vp_in_nI (by omega) (by decide), ?_, R⟩)
    · rcases hb with h | h
      · exact absurd h (nI_pos (by omega))
      · exact absurd h (nI_ge hs (by decide))
    · rw [ec, hln s hs]
theorem i_vc_letter {k : Nat} {u : SX} {v : SY} (I : i_Rel k u v) (hk : k + 3 ≤ 1536) (v1 : Int32) (v2 : Int32) : wpX_letter (fun r => wpY_letter (fun r' => r' = r ∧ i_Rel (k + 3) u v) v v1 v2) u v1 v2 := by
  have R : i_Rel (k + 3) u v := i_up I
  obtain ⟨t, L, D, dl, l, rk, fz, le, ln, pa, rfl, rfl, hI, hA, hD, hd, hls, hld, hln, h6⟩ := I
  unfold wpX_letter
  dsimp only
  refine xw_isSlot _ v1 (fun hb => br_t rfl ?_) (fun s hs e => br_f (by decide) ?_)
  · unfold wpY_letter
    dsimp only
    refine yw_isSlot _ v1 (fun _ => br_t rfl ⟨rfl, R⟩) (fun s hs e => ?_)
    subst e
    rcases hb with h | h
    · exact absurd h (nI_pos (by omega))
    · exact absurd h (nI_ge hs (by decide))
  · subst e
    have ec : (nI s).toNatClampNeg = s := nI_clamp (by omega)
    have h9 := hI.2.1 s
    have noSlot : ∀ {P : Prop}, ((nI s < 0 ∨ nI 6 ≤ nI s) → P) := by
      intro P hb
      rcases hb with h | h
      · exact absurd h (nI_pos (by omega))
      · exact absurd h (nI_ge hs (by decide))
    by_cases hneg : v2 < 0
    · refine br_t hneg ?_
      unfold wpY_letter
      dsimp only
      exact yw_isSlot _ (nI s) noSlot (fun _ _ _ => br_f (by decide) (br_t hneg ⟨rfl, R⟩))
    · obtain ⟨j, hj, rfl⟩ := nI_of hneg
      refine br_f hneg ⟨vp_in_nI hs (by decide), ?_⟩
      rw [ec]
      have e1 : (16 : Int32) * nI s + nI j = nI (16 * s + j) := by rw [show (16 : Int32) = nI 16 from rfl, pk_mul, nI_add]
      have e2 : (9 : Int32) * nI s + nI j = nI (9 * s + j) := by rw [show (9 : Int32) = nI 9 from rfl, pk_mul, nI_add]
      refine pk_lt j (L s) (fun z => ?_) (fun z => ?_)
      · have e3 : (nI (16 * s + j)).toNatClampNeg = 16 * s + j := nI_clamp (by omega)
        have e4 : (nI (9 * s + j)).toNatClampNeg = 9 * s + j := nI_clamp (by omega)
        rw [e1, e3]
        refine ⟨vp_in_nI (by omega) (by decide), ?_⟩
        unfold wpY_letter
        dsimp only
        refine yw_isSlot _ (nI s) noSlot (fun _ _ _ => br_f (by decide) (br_f hneg ⟨vp_in_nI (by omega) (by decide), ?_⟩))
        rw [ec, hln s hs]
        refine br_f (nI_ge z (by omega)) ?_
        rw [e2, e4]
        exact ⟨vp_in_nI (by omega) (by decide), hls s hs j (by omega), R⟩
      · unfold wpY_letter
        dsimp only
        refine yw_isSlot _ (nI s) noSlot (fun _ _ _ => br_f (by decide) (br_f hneg ⟨vp_in_nI (by omega) (by decide), ?_⟩))
        rw [ec, hln s hs]
        exact br_t (nI_le z hj) ⟨rfl, R⟩
theorem i_vc_ending {k : Nat} {u : SX} {v : SY} (I : i_Rel k u v) (hk : k + 3 ≤ 1536) (v1 : Int32) : wpX_ending (fun r => wpY_ending (fun r' => r' = r ∧ i_Rel (k + 3) u v) v v1) u v1 := by
  have R : i_Rel (k + 3) u v := i_up I
  obtain ⟨t, L, D, dl, l, rk, fz, le, ln, pa, rfl, rfl, hI, hA, hD, hd, hls, hld, hln, h6⟩ := I
  have h60 := en_In_60 hI
  rcases pk_ix v1 (n := l.length) (by omega) with h | h | ⟨i, hi, h⟩
  · refine br_t h (yw_ending hls hln hI _ v1 ⟨en_pk_lo (by omega) (Or.inl h), R⟩)
  · have Y := yw_ending (fz := fz) (pa := pa) hls hln hI (fun r' => r' = -4 ∧ i_Rel (k + 3) (nI dl, nI l.length, fun n => nI (t n), fun s => nI (L s), fun i => nI (D i), rk) (fz, le, ln, pa)) v1 ⟨en_pk_lo (by omega) (Or.inr h), R⟩
    exact br_c (fun _ => Y) (fun _ => br_t h Y)
  · subst h
    have ec : (nI i).toNatClampNeg = i := nI_clamp (by omega)
    have ha := en_At_get l 0 i hi hA
    rw [Nat.zero_add] at ha
    refine br_f (nI_pos (by omega)) (br_f (nI_ge hi (by omega)) ⟨vp_in_nI (by omega) (by decide), ?_⟩)
    rw [ec, ha]
    exact yw_ending hls hln hI _ (nI i) ⟨en_pk_at hi (by omega), R⟩
theorem i_vc_rank {k : Nat} {u : SX} {v : SY} (I : i_Rel k u v) (hk : k + 3 ≤ 1536) (v1 : Int32) : wpX_rank (fun r => wpY_rank (fun r' => r' = r ∧ i_Rel (k + 3) u v) v v1) u v1 := by
  have R : i_Rel (k + 3) u v := i_up I
  obtain ⟨t, L, D, dl, l, rk, fz, le, ln, pa, rfl, rfl, hI, hA, hD, hd, hls, hld, hln, h6⟩ := I
  exact ⟨l.length + 1, xw_rank _ (en_In_60 hI) v1 l 0 hA (by omega) (yw_rank hls hln hI _ v1 ⟨rfl, R⟩)⟩
end
section
theorem i_vc_count {k : Nat} {u : SX} {v : SY} (I : i_Rel k u v) (hk : k + 3 ≤ 1536) (v1 : Int32) : wpX_count (fun r => wpY_count (fun r' v' => r' = r ∧ i_Rel (k + 3) u v') v v1) u v1 := by
  obtain ⟨t, L, D, dl, l, rk, fz, le, ln, pa, rfl, rfl, hI, hA, hD, hd, hls, hld, hln, h6⟩ := I
  have R : ∀ fz pa, i_Rel (k + 3) (nI dl, nI l.length, fun n => nI (t n), fun s => nI (L s), fun i => nI (D i), rk) (fz, le, ln, pa) := fun fz pa => ⟨t, L, D, dl, l, rk, fz, le, ln, pa, rfl, rfl, hI, hA, hD, hd, hls, hld, hln, h6⟩
  have hE : ∀ x, x ∈ l → en_E L x = true := fun x hx => ((hI.2.2.2 x).mp hx).2
  unfold wpX_count
  dsimp only
  refine xw_ps _ (fun q sz hV => br_t (nI_pos' (by have := hV.1; omega)) ⟨l.length + 1, ?_⟩) (fun hno => br_f (by decide) ?_)
  · have hp := hV.2.2
    subst hp
    refine xw_count hI.1 hI.2.1 hV.1 hV.2.1 (en_In_60 hI) _ l 0 0 hA (by omega) hE ?_
    unfold wpY_count
    dsimp only
    refine yw_take _ (fun q' sz' hV' pa' hpa => ?_) (fun hn => (en_V_no hV hn).elim)
    obtain ⟨rfl, rfl⟩ := en_V_uq hV hV'
    refine br_f (by decide) ?_
    refine yw_countNow hls hln hI.1 hI.2.1 (by have := hV.1; omega) hpa (en_pd_lt _ _) _ ⟨?_, R _ _⟩
    rw [Nat.zero_add, en_cS (fun n h => en_sb_E h) (en_In_perm hI)]
  · unfold wpY_count
    dsimp only
    exact yw_take _ (fun q' sz' hV' => (en_V_no hV' hno).elim) (fun _ fz' pa' => br_t rfl ⟨rfl, R _ _⟩)
theorem i_vc_place {k : Nat} {u : SX} {v : SY} (I : i_Rel k u v) (hk : k + 3 ≤ 1536) (v1 : Int32) (v2 : Int32) : wpX_place (fun r => wpY_place (fun r' v' => r' = r ∧ i_Rel (k + 3) u v') v v1 v2) u v1 v2 := by
  obtain ⟨t, L, D, dl, l, rk, fz, le, ln, pa, rfl, rfl, hI, hA, hD, hd, hls, hld, hln, h6⟩ := I
  have R : ∀ fz pa, i_Rel (k + 3) (nI dl, nI l.length, fun n => nI (t n), fun s => nI (L s), fun i => nI (D i), rk) (fz, le, ln, pa) := fun fz pa => ⟨t, L, D, dl, l, rk, fz, le, ln, pa, rfl, rfl, hI, hA, hD, hd, hls, hld, hln, h6⟩
  have hE : ∀ x, x ∈ l → en_E L x = true := fun x hx => ((hI.2.2.2 x).mp hx).2
  have h60 := en_In_60 hI
  unfold wpX_place
  dsimp only
  refine xw_ps _ (fun q sz hV => br_t (nI_pos' (by have := hV.1; omega)) ⟨l.length + 1, ?_⟩) (fun hno => br_f (by decide) ?_)
  · have hp := hV.2.2
    subst hp
    refine xw_place hI.1 hI.2.1 hV.1 hV.2.1 h60 _ v2 l 0 0 hA (by omega) hE ?_
    unfold wpY_place
    dsimp only
    refine yw_take _ (fun q' sz' hV' pa' hpa => ?_) (fun hn => (en_V_no hV hn).elim)
    obtain ⟨rfl, rfl⟩ := en_V_uq hV hV'
    refine br_f (by decide) ⟨97, ?_⟩
    have hlen : (l.filter (en_sb L t (en_pd q' sz') sz')).length ≤ l.length := List.length_filter_le _ _
    obtain ⟨y1, y2⟩ := en_Yend (en_fil (en_sb L t (en_pd q' sz') sz') hI.2.2.1) (en_fp (fun n h => en_sb_E h) (en_In_perm hI)) (by omega) v2
    exact yw_p12 hls hln hI.1 hI.2.1 (by have := hV.1; omega) hpa (en_pd_lt _ _) _ v2 (fun j hj hS hc => ⟨y1 j hj hS hc, R _ _⟩) (fun hn => ⟨y2 hn, R _ _⟩) 96 0 (by omega) (fun j hj => by omega)
  · unfold wpY_place
    dsimp only
    exact yw_take _ (fun q' sz' hV' => (en_V_no hV' hno).elim) (fun _ fz' pa' => br_t rfl ⟨rfl, R _ _⟩)
theorem i_vc_slots {k : Nat} {u : SX} {v : SY} (I : i_Rel k u v) (hk : k + 3 ≤ 1536) (v1 : Int32) : wpX_slots (fun r => wpY_slots (fun r' v' => r' = r ∧ i_Rel (k + 3) u v') v v1) u v1 := by
  obtain ⟨t, L, D, dl, l, rk, fz, le, ln, pa, rfl, rfl, hI, hA, hD, hd, hls, hld, hln, h6⟩ := I
  have R : ∀ fz pa, i_Rel (k + 3) (nI dl, nI l.length, fun n => nI (t n), fun s => nI (L s), fun i => nI (D i), rk) (fz, le, ln, pa) := fun fz pa => ⟨t, L, D, dl, l, rk, fz, le, ln, pa, rfl, rfl, hI, hA, hD, hd, hls, hld, hln, h6⟩
  have hE : ∀ x, x ∈ l → en_E L x = true := fun x hx => ((hI.2.2.2 x).mp hx).2
  unfold wpX_slots
  dsimp only
  refine xw_ps _ (fun q sz hV => br_t (nI_pos' (by have := hV.1; omega)) ⟨l.length + 1, ?_⟩) (fun hno => br_f (by decide) ?_)
  · have hp := hV.2.2
    subst hp
    refine xw_slots hI.1 hI.2.1 hV.1 hV.2.1 (en_In_60 hI) _ l 0 0 hA (by omega) hE ?_
    unfold wpY_slots
    dsimp only
    refine yw_take _ (fun q' sz' hV' pa' hpa => ?_) (fun hn => (en_V_no hV hn).elim)
    obtain ⟨rfl, rfl⟩ := en_V_uq hV hV'
    refine br_f (by decide) ⟨97, ?_⟩
    refine yw_slots hls hln hI.1 hI.2.1 (by have := hV.1; omega) hpa (en_pd_lt _ _) _ ⟨?_, R _ _⟩ 96 0 (by omega)
    exact (en_foS _ (fun n h => en_sb_E h) (en_In_perm hI)).symm
  · unfold wpY_slots
    dsimp only
    exact yw_take _ (fun q' sz' hV' => (en_V_no hV' hno).elim) (fun _ fz' pa' => br_t rfl ⟨rfl, R _ _⟩)
theorem i_vc_after {k : Nat} {u : SX} {v : SY} (I : i_Rel k u v) (hk : k + 3 ≤ 1536) (v1 : Int32) : wpX_after (fun r => wpY_after (fun r' v' => r' = r ∧ i_Rel (k + 3) u v') v v1) u v1 := by
  obtain ⟨t, L, D, dl, l, rk, fz, le, ln, pa, rfl, rfl, hI, hA, hD, hd, hls, hld, hln, h6⟩ := I
  have R : ∀ fz pa, i_Rel (k + 3) (nI dl, nI l.length, fun n => nI (t n), fun s => nI (L s), fun i => nI (D i), rk) (fz, le, ln, pa) := fun fz pa => ⟨t, L, D, dl, l, rk, fz, le, ln, pa, rfl, rfl, hI, hA, hD, hd, hls, hld, hln, h6⟩
  have hE : ∀ x, x ∈ l → en_E L x = true := fun x hx => ((hI.2.2.2 x).mp hx).2
  unfold wpX_after
  dsimp only
  refine xw_ps _ (fun q sz hV => br_t (nI_pos' (by have := hV.1; omega)) ⟨l.length + 1, ?_⟩) (fun hno => br_f (by decide) ?_)
  · have hp := hV.2.2
    subst hp
    refine xw_after hI.1 hI.2.1 hV.1 hV.2.1 (en_In_60 hI) _ l 0 0 hA (by omega) hE ?_
    unfold wpY_after
    dsimp only
    refine yw_take _ (fun q' sz' hV' pa' hpa => ?_) (fun hn => (en_V_no hV hn).elim)
    obtain ⟨rfl, rfl⟩ := en_V_uq hV hV'
    refine br_f (by decide) (nm_r (nI_1 _) ⟨5, ?_⟩)
    refine yw_after hls hln hI.1 hI.2.1 hV.1 (en_pd_lt _ _) _ (fun pa'' => ⟨?_, R _ _⟩) 4 0 pa' (by omega) hpa
    exact (en_after hI.1 (en_In_perm hI)).symm
  · unfold wpY_after
    dsimp only
    exact yw_take _ (fun q' sz' hV' => (en_V_no hV' hno).elim) (fun _ fz' pa' => br_t rfl ⟨rfl, R _ _⟩)
theorem i_vc_before {k : Nat} {u : SX} {v : SY} (I : i_Rel k u v) (hk : k + 3 ≤ 1536) (v1 : Int32) : wpX_before (fun r => wpY_before (fun r' v' => r' = r ∧ i_Rel (k + 3) u v') v v1) u v1 := by
  obtain ⟨t, L, D, dl, l, rk, fz, le, ln, pa, rfl, rfl, hI, hA, hD, hd, hls, hld, hln, h6⟩ := I
  have R : ∀ fz pa, i_Rel (k + 3) (nI dl, nI l.length, fun n => nI (t n), fun s => nI (L s), fun i => nI (D i), rk) (fz, le, ln, pa) := fun fz pa => ⟨t, L, D, dl, l, rk, fz, le, ln, pa, rfl, rfl, hI, hA, hD, hd, hls, hld, hln, h6⟩
  have hE : ∀ x, x ∈ l → en_E L x = true := fun x hx => ((hI.2.2.2 x).mp hx).2
  unfold wpX_before
  dsimp only
  refine xw_ps _ (fun q sz hV => br_t (nI_pos' (by have := hV.1; omega)) ⟨l.length + 1, ?_⟩) (fun hno => br_f (by decide) ?_)
  · have hp := hV.2.2
    subst hp
    refine xw_bef hI.1 hI.2.1 hV.1 hV.2.1 (en_In_60 hI) _ l 0 0 hA (by omega) hE ?_
    unfold wpY_before
    dsimp only
    refine yw_take _ (fun q' sz' hV' pa' hpa => ?_) (fun hn => (en_V_no hV hn).elim)
    obtain ⟨rfl, rfl⟩ := en_V_uq hV hV'
    refine br_f (by decide) ⟨sz' + 1, ?_⟩
    refine yw_b15 hls hln hI.1 hI.2.1 hV.1 (en_pd_lt _ _) _ (fun pa'' => ⟨?_, R _ _⟩) sz' pa' (Nat.le_refl _) hpa (fun i h1 h2 => by omega)
    exact (en_before hI.1 hI.2.1 (en_In_perm hI)).symm
  · unfold wpY_before
    dsimp only
    exact yw_take _ (fun q' sz' hV' => (en_V_no hV' hno).elim) (fun _ fz' pa' => br_t rfl ⟨rfl, R _ _⟩)
theorem i_vc_common {k : Nat} {u : SX} {v : SY} (I : i_Rel k u v) (hk : k + 3 ≤ 1536) (v1 : Int32) : wpX_common (fun r => wpY_common (fun r' => r' = r ∧ i_Rel (k + 3) u v) v v1) u v1 := by
  have R : i_Rel (k + 3) u v := i_up I
  obtain ⟨t, L, D, dl, l, rk, fz, le, ln, pa, rfl, rfl, hI, hA, hD, hd, hls, hld, hln, h6⟩ := I
  have hE : ∀ x, x ∈ l → en_E L x = true := fun x hx => ((hI.2.2.2 x).mp hx).2
  have h60 := en_In_60 hI
  have none : ∀ (P : Int32 → Prop) (a : Int32), P (-4) → wY_common_25 P a (-4) fz le ln pa := by
    intro P a h
    exact br_c (fun _ => h) (fun _ => br_f (by decide) h)
  have none2 : ∀ (P : Int32 → Prop) (b : Int32), P (-4) → wY_common_25 P (-4) b fz le ln pa := by
    intro P b h
    exact br_t (by decide) h
  by_cases hneg : v1 < 0
  · refine br_t hneg ?_
    unfold wpY_common
    dsimp only
    refine yw_ending hls hln hI _ v1 ?_
    rw [en_pk_lo (by omega) (Or.inl hneg)]
    refine br_c (fun _ => none _ _ ⟨rfl, R⟩) (fun _ => ?_)
    exact yw_ending hls hln hI _ _ (none2 _ _ ⟨rfl, R⟩)
  · obtain ⟨j, hj, rfl⟩ := nI_of hneg
    by_cases hjl : j + 1 < l.length
    · have e1 : nI l.length - 1 = nI (l.length - 1) := pk_sub (b := 1) (by omega)
      have e2 : nI j + 1 = nI (j + 1) := nI_1 j
      have e3 : (nI j).toNatClampNeg = j := nI_clamp (by omega)
      have e4 : (nI (j + 1)).toNatClampNeg = j + 1 := nI_clamp (by omega)
      have a1 := en_At_get l 0 j (by omega) hA
      have a2 := en_At_get l 0 (j + 1) hjl hA
      rw [Nat.zero_add] at a1 a2
      have m1 : l[j]'(by omega) ∈ l := List.getElem_mem _
      have m2 : l[j + 1] ∈ l := List.getElem_mem _
      have b1 := en_E_b hI.2.1 (hE _ m1)
      have b2 := en_E_b hI.2.1 (hE _ m2)
      refine br_f hneg (br_t (by rw [e1]; exact nI_lt (by omega) (by omega)) ?_)
      rw [e2, e3, e4, a1, a2]
      refine ⟨vp_in_nI (by omega) (by decide), vp_in_nI (by omega) (by decide), ?_⟩
      refine xw_common _ hI.1 hI.2.1 (hE _ m1) (hE _ m2) ?_
      unfold wpY_common
      dsimp only
      refine yw_ending hls hln hI _ (nI j) ?_
      rw [en_pk_at (i := j) (by omega) (by omega)]
      refine br_f (nI_ge (b := 1000) (by omega) (by decide)) ?_
      rw [e2]
      refine yw_ending hls hln hI _ (nI (j + 1)) ?_
      rw [en_pk_at hjl (by omega)]
      refine br_f (nI_pos (by omega)) (br_t (nI_pos' (by omega)) ?_)
      exact yw_shared hls hln hI.1 hI.2.1 _ (hE _ m1) (hE _ m2) ⟨rfl, R⟩
    · have hx : ¬ nI j < nI l.length - 1 := by
        by_cases h0 : l.length = 0
        · rw [h0, Int32.lt_iff_toInt_lt, nI_toInt hj, show (nI 0 - 1).toInt = -1 from by decide]
          omega
        · rw [show nI l.length - 1 = nI (l.length - 1) from pk_sub (b := 1) (by omega)]
          exact nI_nlt (by omega) hj
      refine br_f hneg (br_f hx ?_)
      unfold wpY_common
      dsimp only
      refine yw_ending hls hln hI _ (nI j) ?_
      refine pk_le 1000 j (fun z => none _ _ ⟨rfl, R⟩) (fun z => ?_)
      rw [nI_1]
      refine yw_ending hls hln hI _ (nI (j + 1)) ?_
      rw [en_pk_lo (m := l) (r := nI (j + 1)) (by omega) (Or.inr (nI_le (by omega) (by omega)))]
      exact none _ _ ⟨rfl, R⟩
theorem i_vc_distinct {k : Nat} {u : SX} {v : SY} (I : i_Rel k u v) (hk : k + 3 ≤ 1536) : wpX_distinct (fun r => wpY_distinct (fun r' => r' = r ∧ i_Rel (k + 3) u v) v) u := by
  have R : i_Rel (k + 3) u v := i_up I
  obtain ⟨t, L, D, dl, l, rk, fz, le, ln, pa, rfl, rfl, hI, hA, hD, hd, hls, hld, hln, h6⟩ := I
  have hE : ∀ x, x ∈ l → en_E L x = true := fun x hx => ((hI.2.2.2 x).mp hx).2
  refine ⟨l.length + 1, xw_distinct hI.1 hI.2.1 _ (en_In_60 hI) hE hI.2.2.1 hA ?_ l [] rfl⟩
  exact yw_distinct hls hln hI.1 hI.2.1 _ ⟨en_Dr_perm _ (en_S_perm (en_In_perm hI)).symm, R⟩
theorem i_vc_repeated {k : Nat} {u : SX} {v : SY} (I : i_Rel k u v) (hk : k + 3 ≤ 1536) : wpX_repeated (fun r => wpY_repeated (fun r' => r' = r ∧ i_Rel (k + 3) u v) v) u := by
  have R : i_Rel (k + 3) u v := i_up I
  obtain ⟨t, L, D, dl, l, rk, fz, le, ln, pa, rfl, rfl, hI, hA, hD, hd, hls, hld, hln, h6⟩ := I
  have hE : ∀ x, x ∈ l → en_E L x = true := fun x hx => ((hI.2.2.2 x).mp hx).2
  have hR : en_Rr (en_w L t) (en_S (en_E L) 96) = en_Rr (en_w L t) l.reverse := en_Rr_perm _ (en_S_perm (en_In_perm hI)).symm
  cases l with
  | nil =>
    refine ⟨1, br_t (by decide) ?_⟩
    exact yw_repeated hls hln hI.1 hI.2.1 _ ⟨by rw [hR]; rfl, R⟩
  | cons y m =>
    have h := xw_repeated (fd := nI dl) (dr := fun i => nI (D i)) hI.1 hI.2.1 (fun r => wpY_repeated (fun r' => r' = r ∧ i_Rel (k + 3) (nI dl, nI (y :: m).length, fun n => nI (t n), fun s => nI (L s), fun i => nI (D i), rk) (fz, le, ln, pa)) (fz, le, ln, pa)) (en_In_60 hI) hE hI.2.2.1 hA (yw_repeated hls hln hI.1 hI.2.1 _ ⟨by rw [hR], R⟩) m [] y rfl
    have e0 : en_Rr (en_w L t) (y :: ([] : List Nat).reverse) = 0 := by simp [en_Rr, en_K]
    rw [e0] at h
    exact ⟨m.length + 1, h⟩
end
