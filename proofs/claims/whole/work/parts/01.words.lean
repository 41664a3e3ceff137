/-! words: what two share, their order; the order of the endings -/
def en_cp : List Nat → List Nat → Nat
  | [], _ => 0
  | _ :: _, [] => 0
  | x :: xs, y :: ys => if x = y then en_cp xs ys + 1 else 0
def en_lx : List Nat → List Nat → Bool
  | [], [] => false
  | [], _ :: _ => true
  | _ :: _, [] => false
  | x :: xs, y :: ys => decide (x < y) || (decide (x = y) && en_lx xs ys)
theorem en_lx_irr : ∀ x : List Nat, en_lx x x = false := by
  intro x
  induction x with
  | nil => rfl
  | cons a xs ih => simp [en_lx, ih]
theorem en_lx_tr : ∀ x y z : List Nat, en_lx x y = true → en_lx y z = true → en_lx x z = true := by
  intro x
  induction x with
  | nil =>
    intro y z h1 h2
    cases y with
    | nil => simp [en_lx] at h1
    | cons b ys =>
      cases z with
      | nil => simp [en_lx] at h2
      | cons c zs => simp [en_lx]
  | cons a xs ih =>
    intro y z h1 h2
    cases y with
    | nil => simp [en_lx] at h1
    | cons b ys =>
      cases z with
      | nil => simp [en_lx] at h2
      | cons c zs =>
        simp only [en_lx, Bool.or_eq_true, Bool.and_eq_true, decide_eq_true_eq] at h1 h2 ⊢
        rcases h1 with h1 | ⟨e1, h1⟩
        · rcases h2 with h2 | ⟨e2, h2⟩
          · exact Or.inl (by omega)
          · exact Or.inl (by omega)
        · rcases h2 with h2 | ⟨e2, h2⟩
          · exact Or.inl (by omega)
          · exact Or.inr ⟨by omega, ih ys zs h1 h2⟩
theorem en_lx_tot : ∀ x y : List Nat, en_lx x y = true ∨ x = y ∨ en_lx y x = true := by
  intro x
  induction x with
  | nil =>
    intro y
    cases y with
    | nil => exact Or.inr (Or.inl rfl)
    | cons b ys => exact Or.inl rfl
  | cons a xs ih =>
    intro y
    cases y with
    | nil => exact Or.inr (Or.inr rfl)
    | cons b ys =>
      simp only [en_lx, Bool.or_eq_true, Bool.and_eq_true, decide_eq_true_eq, List.cons.injEq]
      rcases Nat.lt_trichotomy a b with h | h | h
      · exact Or.inl (Or.inl h)
      · rcases ih ys with h2 | h2 | h2
        · exact Or.inl (Or.inr ⟨h, h2⟩)
        · exact Or.inr (Or.inl ⟨h, h2⟩)
        · exact Or.inr (Or.inr (Or.inr ⟨h.symm, h2⟩))
      · exact Or.inr (Or.inr (Or.inl h))
theorem en_cp_sym : ∀ x y : List Nat, en_cp x y = en_cp y x := by
  intro x
  induction x with
  | nil => intro y; cases y <;> rfl
  | cons a xs ih =>
    intro y
    cases y with
    | nil => rfl
    | cons b ys =>
      simp only [en_cp]
      by_cases h : a = b
      · rw [if_pos h, if_pos h.symm, ih ys]
      · rw [if_neg h, if_neg (fun e => h e.symm)]
theorem en_cp_ul : ∀ x y z : List Nat, en_cp x y ≤ en_cp x z ∨ en_cp y z ≤ en_cp x z := by
  intro x
  induction x with
  | nil => intro y z; exact Or.inl (by simp [en_cp])
  | cons a xs ih =>
    intro y z
    cases y with
    | nil => exact Or.inl (by simp [en_cp])
    | cons b ys =>
      cases z with
      | nil => exact Or.inr (by simp [en_cp])
      | cons c zs =>
        simp only [en_cp]
        by_cases h1 : a = b
        · by_cases h2 : b = c
          · rw [if_pos h1, if_pos h2, if_pos (h1.trans h2)]
            rcases ih ys zs with h | h
            · exact Or.inl (by omega)
            · exact Or.inr (by omega)
          · rw [if_neg h2]; exact Or.inr (Nat.zero_le _)
        · rw [if_neg h1]; exact Or.inl (Nat.zero_le _)
theorem en_cp_le : ∀ x y : List Nat, en_cp x y ≤ x.length ∧ en_cp x y ≤ y.length := by
  intro x
  induction x with
  | nil => intro y; simp [en_cp]
  | cons a xs ih =>
    intro y
    cases y with
    | nil => simp [en_cp]
    | cons b ys =>
      have h := ih ys
      simp only [en_cp, List.length_cons]
      by_cases e : a = b
      · rw [if_pos e]; omega
      · rw [if_neg e]; omega
theorem en_cp_srt : ∀ x y z : List Nat, (en_lx x y = true ∨ x = y) → (en_lx y z = true ∨ y = z) → en_cp x z ≤ en_cp y z := by
  intro x
  induction x with
  | nil => intro y z _ _; simp [en_cp]
  | cons a xs ih =>
    intro y z h1 h2
    cases z with
    | nil => simp [en_cp]
    | cons c zs =>
      cases y with
      | nil => simp [en_lx] at h1
      | cons b ys =>
        simp only [en_lx, Bool.or_eq_true, Bool.and_eq_true, decide_eq_true_eq, List.cons.injEq] at h1 h2
        simp only [en_cp]
        have hab : a ≤ b := by
          rcases h1 with (h | ⟨h, _⟩) | ⟨h, _⟩ <;> omega
        have hbc : b ≤ c := by
          rcases h2 with (h | ⟨h, _⟩) | ⟨h, _⟩ <;> omega
        by_cases e : a = c
        · have eb : b = c := by omega
          have h1' : en_lx xs ys = true ∨ xs = ys := by
            rcases h1 with (h | ⟨_, h⟩) | ⟨_, h⟩
            · omega
            · exact Or.inl h
            · exact Or.inr h
          have h2' : en_lx ys zs = true ∨ ys = zs := by
            rcases h2 with (h | ⟨_, h⟩) | ⟨_, h⟩
            · omega
            · exact Or.inl h
            · exact Or.inr h
          rw [if_pos e, if_pos eb]
          have := ih ys zs h1' h2'
          omega
        · rw [if_neg e]; exact Nat.zero_le _
theorem en_lx_k : ∀ x y : List Nat,
    (en_cp x y < x.length → en_cp x y < y.length → (en_lx x y = decide (x.getD (en_cp x y) 0 < y.getD (en_cp x y) 0)) ∧ x ≠ y)
    ∧ (¬ (en_cp x y < x.length ∧ en_cp x y < y.length) → (en_lx x y = decide (x.length < y.length)) ∧ (x.length = y.length → x = y)) := by
  intro x
  induction x with
  | nil =>
    intro y
    cases y with
    | nil => simp [en_cp, en_lx]
    | cons b ys => simp [en_cp, en_lx]
  | cons a xs ih =>
    intro y
    cases y with
    | nil => simp [en_cp, en_lx]
    | cons b ys =>
      obtain ⟨h1, h2⟩ := ih ys
      by_cases e : a = b
      · subst e
        have ec : en_cp (a :: xs) (a :: ys) = en_cp xs ys + 1 := by simp [en_cp]
        have el : en_lx (a :: xs) (a :: ys) = en_lx xs ys := by simp [en_lx]
        rw [ec, el]
        simp only [List.length_cons, List.getD_cons_succ]
        refine ⟨fun p q => ?_, fun p => ?_⟩
        · have h := h1 (by omega) (by omega)
          exact ⟨h.1, fun he => h.2 (List.cons.inj he).2⟩
        · have h := h2 (by omega)
          refine ⟨?_, fun he => ?_⟩
          · rw [h.1]
            exact decide_eq_decide.mpr (by omega)
          · rw [h.2 (by omega)]
      · have ec : en_cp (a :: xs) (b :: ys) = 0 := by simp [en_cp, e]
        have el : en_lx (a :: xs) (b :: ys) = decide (a < b) := by simp [en_lx, e]
        rw [ec, el]
        refine ⟨fun _ _ => ⟨rfl, fun he => e (List.cons.inj he).1⟩, fun p => absurd ⟨?_, ?_⟩ p⟩
        · simp
        · simp
def en_bf (w : Nat → List Nat) (a b : Nat) : Bool := en_lx (w a) (w b) || (decide (w a = w b) && decide (a < b))
theorem en_bf_irr (w : Nat → List Nat) (a : Nat) : en_bf w a a = false := by simp [en_bf, en_lx_irr]
theorem en_bf_tr {w : Nat → List Nat} {a b c : Nat} (h1 : en_bf w a b = true) (h2 : en_bf w b c = true) : en_bf w a c = true := by
  simp only [en_bf, Bool.or_eq_true, Bool.and_eq_true, decide_eq_true_eq] at h1 h2 ⊢
  rcases h1 with h1 | ⟨e1, l1⟩
  · rcases h2 with h2 | ⟨e2, l2⟩
    · exact Or.inl (en_lx_tr _ _ _ h1 h2)
    · exact Or.inl (by rw [← e2]; exact h1)
  · rcases h2 with h2 | ⟨e2, l2⟩
    · exact Or.inl (by rw [e1]; exact h2)
    · exact Or.inr ⟨e1.trans e2, by omega⟩
theorem en_bf_as {w : Nat → List Nat} {a b : Nat} (h : en_bf w a b = true) : en_bf w b a = false := by
  cases e : en_bf w b a with
  | false => rfl
  | true =>
    have h2 := en_bf_tr h e
    rw [en_bf_irr] at h2
    cases h2
theorem en_bf_tot {w : Nat → List Nat} {a b : Nat} (h : a ≠ b) (hn : en_bf w a b = false) : en_bf w b a = true := by
  simp only [en_bf, Bool.or_eq_false_iff, Bool.and_eq_false_iff, decide_eq_false_iff_not] at hn
  simp only [en_bf, Bool.or_eq_true, Bool.and_eq_true, decide_eq_true_eq]
  rcases en_lx_tot (w a) (w b) with h1 | h1 | h1
  · rw [hn.1] at h1; cases h1
  · refine Or.inr ⟨h1.symm, ?_⟩
    rcases hn.2 with h2 | h2
    · exact absurd h1 h2
    · omega
  · exact Or.inl h1
theorem en_bf_le {w : Nat → List Nat} {a b : Nat} (h : en_bf w a b = true) : en_lx (w a) (w b) = true ∨ w a = w b := by
  simp only [en_bf, Bool.or_eq_true, Bool.and_eq_true, decide_eq_true_eq] at h
  rcases h with h | ⟨h, _⟩
  · exact Or.inl h
  · exact Or.inr h
/-- sorted -/
def en_so (w : Nat → List Nat) (l : List Nat) : Prop := l.Pairwise (fun a b => en_bf w a b = true)
theorem en_nd {w : Nat → List Nat} {l : List Nat} (hs : en_so w l) : l.Nodup := by
  refine List.Pairwise.imp ?_ hs
  intro a b h e
  subst e
  rw [en_bf_irr] at h
  cases h
theorem en_rk {w : Nat → List Nat} {l : List Nat} (hs : en_so w l) {p q : List Nat} {a : Nat} (e : l = p ++ a :: q) : l.countP (fun x => en_bf w x a) = p.length := by
  subst e
  unfold en_so at hs
  rw [List.pairwise_append] at hs
  obtain ⟨_, h2, h3⟩ := hs
  rw [List.pairwise_cons] at h2
  have e1 : p.countP (fun x => en_bf w x a) = p.length := List.countP_eq_length.mpr (fun x hx => h3 x hx a (by simp))
  have e2 : q.countP (fun x => en_bf w x a) = 0 := List.countP_eq_zero.mpr (fun x hx => by rw [en_bf_as (h2.1 x hx)]; decide)
  rw [List.countP_append, List.countP_cons, e1, e2, en_bf_irr]
  simp
theorem en_cnt {w : Nat → List Nat} {P : Nat → Bool} {l : List Nat} (hs : en_so w l) (hp : l.Perm ((List.range 96).filter P)) {n : Nat} (hn : n < 96) (hP : P n = true) :
    ∃ p q, l = p ++ n :: q ∧ (List.range 96).countP (fun x => P x && en_bf w x n) = p.length := by
  have hm : n ∈ l := hp.mem_iff.mpr (List.mem_filter.mpr ⟨List.mem_range.mpr hn, hP⟩)
  obtain ⟨p, q, e⟩ := List.append_of_mem hm
  refine ⟨p, q, e, ?_⟩
  rw [← en_rk hs e, hp.countP_eq, List.countP_filter]
  congr 1
  funext x
  exact Bool.and_comm _ _
theorem en_perm {w : Nat → List Nat} {P : Nat → Bool} {l : List Nat} (hs : en_so w l) (hm : ∀ n, n ∈ l ↔ n < 96 ∧ P n = true) : l.Perm ((List.range 96).filter P) :=
  (List.perm_ext_iff_of_nodup (en_nd hs) (List.Pairwise.filter _ List.nodup_range)).mpr (fun n => by rw [hm, List.mem_filter, List.mem_range])
theorem en_fil {w : Nat → List Nat} {l : List Nat} (Q : Nat → Bool) (hs : en_so w l) : en_so w (l.filter Q) := List.Pairwise.filter _ hs
