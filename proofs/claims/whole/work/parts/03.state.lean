/-! the endings of a state: lengths L by slot, letters t by number -/
def en_wd (t : Nat → Nat) : Nat → Nat → List Nat
  | _, 0 => []
  | n, k + 1 => t n :: en_wd t (n + 1) k
def en_ln (L : Nat → Nat) (n : Nat) : Nat := L (n / 16) - n % 16
def en_w (L t : Nat → Nat) (n : Nat) : List Nat := en_wd t n (en_ln L n)
def en_E (L : Nat → Nat) (n : Nat) : Bool := decide (n < 96) && (decide (0 < L (n / 16)) && decide (n % 16 ≤ L (n / 16)))
theorem en_wd_len (t : Nat → Nat) : ∀ k n, (en_wd t n k).length = k := by
  intro k
  induction k with
  | zero => intro n; rfl
  | succ k ih => intro n; simp only [en_wd, List.length_cons, ih]
theorem en_wd_get (t : Nat → Nat) : ∀ k n j, j < k → (en_wd t n k).getD j 0 = t (n + j) := by
  intro k
  induction k with
  | zero => intro n j h; omega
  | succ k ih =>
    intro n j h
    cases j with
    | zero => rfl
    | succ j =>
      simp only [en_wd, List.getD_cons_succ]
      rw [ih (n + 1) j (by omega)]
      congr 1
      omega
theorem en_w_len (L t : Nat → Nat) (n : Nat) : (en_w L t n).length = en_ln L n := en_wd_len t _ _
theorem en_wd_ext {t t' : Nat → Nat} : ∀ k n, (∀ i, i < k → t (n + i) = t' (n + i)) → en_wd t n k = en_wd t' n k := by
  intro k
  induction k with
  | zero => intro n _; rfl
  | succ k ih =>
    intro n h
    simp only [en_wd]
    have h0 := h 0 (by omega)
    rw [Nat.add_zero] at h0
    rw [h0, ih (n + 1) (fun i hi => by
      have := h (i + 1) (by omega)
      rw [show n + 1 + i = n + (i + 1) from by omega]
      exact this)]
theorem en_E_iff {L : Nat → Nat} {n : Nat} : en_E L n = true ↔ n < 96 ∧ 0 < L (n / 16) ∧ n % 16 ≤ L (n / 16) := by
  simp only [en_E, Bool.and_eq_true, decide_eq_true_eq]
def en_sm (L : Nat → Nat) : Nat → Nat
  | 0 => 0
  | s + 1 => if 0 < L s then en_sm L s + L s + 1 else en_sm L s
theorem en_blk : ∀ m, m < 10 → (List.range 16).countP (fun i => decide (0 < m) && decide (i ≤ m)) = if 0 < m then m + 1 else 0 := by decide
theorem en_sm_eq {L : Nat → Nat} (hL : ∀ s, L s ≤ 9) : ∀ s, s ≤ 6 → (List.range (16 * s)).countP (en_E L) = en_sm L s := by
  intro s
  induction s with
  | zero => intro _; rfl
  | succ s ih =>
    intro hs
    rw [show 16 * (s + 1) = 16 * s + 16 from by omega, List.range_add, List.countP_append, ih (by omega), List.countP_map]
    have e : (List.range 16).countP (en_E L ∘ (16 * s + ·)) = (List.range 16).countP (fun i => decide (0 < L s) && decide (i ≤ L s)) := by
      apply List.countP_congr
      intro i hi
      rw [List.mem_range] at hi
      have e1 : (16 * s + i) / 16 = s := by omega
      have e2 : (16 * s + i) % 16 = i := by omega
      have e3 : 16 * s + i < 96 := by omega
      simp only [Function.comp, en_E, e1, e2, e3, decide_true, Bool.true_and]
    rw [e, en_blk _ (by have := hL s; omega)]
    simp only [en_sm]
    split <;> omega
theorem en_sm_le {L : Nat → Nat} (hL : ∀ s, L s ≤ 9) : ∀ s, en_sm L s ≤ 10 * s := by
  intro s
  induction s with
  | zero => exact Nat.le_refl _
  | succ s ih =>
    have := hL s
    simp only [en_sm]
    split <;> omega
theorem en_tot {L : Nat → Nat} (hL : ∀ s, L s ≤ 9) {l : List Nat} (hp : l.Perm ((List.range 96).filter (en_E L))) : l.length = en_sm L 6 := by
  rw [hp.length_eq, ← List.countP_eq_length_filter]
  exact en_sm_eq hL 6 (by decide)
theorem en_room {L : Nat → Nat} (hL : ∀ s, L s ≤ 9) {l : List Nat} (hs : l.Nodup) (hm : ∀ n, n ∈ l → en_E L n = true) : l.length ≤ 60 := by
  have hp : l.Perm ((List.range 96).filter (fun n => decide (n ∈ l))) := by
    refine (List.perm_ext_iff_of_nodup hs (List.Pairwise.filter _ List.nodup_range)).mpr ?_
    intro n
    rw [List.mem_filter, List.mem_range]
    constructor
    · intro h
      exact ⟨(en_E_iff.mp (hm n h)).1, by simp [h]⟩
    · intro h
      exact of_decide_eq_true h.2
  rw [hp.length_eq, ← List.countP_eq_length_filter]
  have h1 : (List.range 96).countP (fun n => decide (n ∈ l)) ≤ (List.range 96).countP (en_E L) := by
    apply List.countP_mono_left
    intro x _ hx
    exact hm x (of_decide_eq_true hx)
  have h2 := en_sm_eq hL 6 (by decide)
  have h3 := en_sm_le hL 6
  rw [show 16 * 6 = 96 from rfl] at h2
  omega
def en_sb (L t pd : Nat → Nat) (sz n : Nat) : Bool := en_E L n && (decide (sz ≤ en_ln L n) && decide (∀ i, i < sz → t (n + i) = pd i))
theorem en_sb_iff {L t pd : Nat → Nat} {sz n : Nat} : en_sb L t pd sz n = true ↔ en_E L n = true ∧ sz ≤ en_ln L n ∧ ∀ i, i < sz → t (n + i) = pd i := by
  simp only [en_sb, Bool.and_eq_true, decide_eq_true_eq]
def en_bg (t : Nat → Nat) (n : Nat) : Nat → Nat
  | 0 => 1
  | j + 1 => en_bg t n j * 4 + t (n + j)
def en_pd (q sz i : Nat) : Nat := q / 4 ^ (sz - 1 - i) % 4
theorem en_bg_iff {t : Nat → Nat} (ht : ∀ n, t n < 4) {q sz : Nat} (hq : q / 4 ^ sz = 1) (n : Nat) : ∀ j, j ≤ sz → (en_bg t n j = q / 4 ^ (sz - j) ↔ ∀ i, i < j → t (n + i) = en_pd q sz i) := by
  intro j
  induction j with
  | zero => intro _; simp [en_bg, hq]
  | succ j ih =>
    intro hj
    have e1 : q / 4 ^ (sz - j) = q / 4 ^ (sz - (j + 1)) / 4 := by
      rw [show sz - j = sz - (j + 1) + 1 from by omega, Nat.pow_succ, ← Nat.div_div_eq_div_mul]
    have e2 : en_pd q sz j = q / 4 ^ (sz - (j + 1)) % 4 := by
      unfold en_pd
      rw [show sz - 1 - j = sz - (j + 1) from by omega]
    have h := ih (by omega)
    rw [e1] at h
    have h4 := ht (n + j)
    simp only [en_bg]
    generalize q / 4 ^ (sz - (j + 1)) = Q at *
    constructor
    · intro he i hi
      by_cases hij : i = j
      · rw [hij, e2]; omega
      · exact h.mp (by omega) i (by omega)
    · intro hall
      have h1 := h.mpr (fun i hi => hall i (by omega))
      have h2 := hall j (by omega)
      rw [e2] at h2
      omega
theorem en_bg_lt {t : Nat → Nat} (ht : ∀ n, t n < 4) (n : Nat) : ∀ j, en_bg t n j < 2 * 4 ^ j := by
  intro j
  induction j with
  | zero => simp [en_bg]
  | succ j ih =>
    have h4 := ht (n + j)
    rw [Nat.pow_succ]
    simp only [en_bg]
    omega
theorem en_p6 {s : Nat} (h : s ≤ 6) : 4 ^ s ≤ 4096 := Nat.pow_le_pow_right (n := 4) (by decide) h
theorem en_pre {q sz s : Nat} (hq : q / 4 ^ sz = 1) (h : s < sz) : 4 ≤ q / 4 ^ s := by
  apply Nat.le_of_not_lt
  intro hlt
  have e : 4 ^ sz = 4 ^ s * 4 ^ (sz - s) := by rw [← Nat.pow_add]; congr 1; omega
  have h4 : 4 ≤ 4 ^ (sz - s) := by
    have := Nat.pow_le_pow_right (n := 4) (by decide) (show 1 ≤ sz - s from by omega)
    omega
  rw [e, ← Nat.div_div_eq_div_mul, Nat.div_eq_of_lt (by omega)] at hq
  omega
def en_At (a : Nat → Int32) : Nat → List Nat → Prop
  | _, [] => True
  | i, x :: m => a i = nI x ∧ en_At a (i + 1) m
theorem en_At_app {a : Nat → Int32} : ∀ (p : List Nat) (i : Nat) (q : List Nat), en_At a i (p ++ q) ↔ en_At a i p ∧ en_At a (i + p.length) q := by
  intro p
  induction p with
  | nil => intro i q; simp [en_At]
  | cons x p ih =>
    intro i q
    simp only [List.cons_append, en_At, ih, List.length_cons]
    rw [show i + 1 + p.length = i + (p.length + 1) from by omega, and_assoc]
theorem en_At_lo {a : Nat → Int32} {k : Nat} {v : Int32} : ∀ (p : List Nat) (i : Nat), i + p.length ≤ k → en_At a i p → en_At (upd a k v) i p := by
  intro p
  induction p with
  | nil => intro i _ _; exact trivial
  | cons x p ih =>
    intro i h ha
    simp only [List.length_cons] at h
    refine ⟨?_, ih (i + 1) (by omega) ha.2⟩
    have e : upd a k v i = a i := if_neg (by omega)
    rw [e]
    exact ha.1
theorem en_At_hi {a : Nat → Int32} {k : Nat} {v : Int32} : ∀ (p : List Nat) (i : Nat), k < i → en_At a i p → en_At (upd a k v) i p := by
  intro p
  induction p with
  | nil => intro i _ _; exact trivial
  | cons x p ih =>
    intro i h ha
    refine ⟨?_, ih (i + 1) (by omega) ha.2⟩
    have e : upd a k v i = a i := if_neg (by omega)
    rw [e]
    exact ha.1
theorem en_At_get {a : Nat → Int32} : ∀ (p : List Nat) (i j : Nat) (h : j < p.length), en_At a i p → a (i + j) = nI p[j] := by
  intro p
  induction p with
  | nil => intro i j h _; simp at h
  | cons x p ih =>
    intro i j h ha
    cases j with
    | zero => exact ha.1
    | succ j =>
      rw [show i + (j + 1) = i + 1 + j from by omega]
      exact ih (i + 1) j (by simpa using h) ha.2
theorem en_ins {w : Nat → List Nat} {p q : List Nat} {n : Nat} (hs : en_so w (p ++ q)) (h1 : ∀ x, x ∈ p → en_bf w x n = true) (h2 : ∀ x, x ∈ q → en_bf w n x = true) : en_so w (p ++ n :: q) := by
  unfold en_so at hs ⊢
  rw [List.pairwise_append] at hs ⊢
  refine ⟨hs.1, List.pairwise_cons.mpr ⟨h2, hs.2.1⟩, fun a ha b hb => ?_⟩
  rcases List.mem_cons.mp hb with h | h
  · rw [h]; exact h1 a ha
  · exact hs.2.2 a ha b h
def en_up (L : Nat → Nat) (s v : Nat) : Nat → Nat := fun x => if x = s then v else L x
theorem en_up_s {L : Nat → Nat} {s v : Nat} : en_up L s v s = v := if_pos rfl
theorem en_up_n {L : Nat → Nat} {s v x : Nat} (h : x ≠ s) : en_up L s v x = L x := if_neg h
theorem en_up_I (L : Nat → Nat) (s v : Nat) : upd (fun x => nI (L x)) s (nI v) = fun x => nI (en_up L s v x) := by
  funext x
  unfold upd en_up
  by_cases h : x = s
  · rw [if_pos h, if_pos h]
  · rw [if_neg h, if_neg h]
/-- words of the other slots stay -/
theorem en_w_keep {L L' t t' : Nat → Nat} {n : Nat} (hL : ∀ s, L s ≤ 9) (h1 : L' (n / 16) = L (n / 16)) (h2 : ∀ m, m / 16 = n / 16 → t' m = t m) : en_w L' t' n = en_w L t n := by
  unfold en_w en_ln
  rw [h1]
  apply en_wd_ext
  intro i hi
  apply h2
  have := hL (n / 16)
  omega
theorem en_so_keep {w w' : Nat → List Nat} {l : List Nat} (hs : en_so w l) (h : ∀ n, n ∈ l → w' n = w n) : en_so w' l := by
  unfold en_so at hs ⊢
  refine List.Pairwise.imp_of_mem ?_ hs
  intro a b ha hb hab
  unfold en_bf at hab ⊢
  rw [h a ha, h b hb]
  exact hab
