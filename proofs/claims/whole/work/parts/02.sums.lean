/-! what an ending shares with those before it: sums and the greatest, in any order -/
def en_K (w : Nat → List Nat) : List Nat → Nat → Nat
  | [], _ => 0
  | v :: S, a => max (en_cp (w v) (w a)) (en_K w S a)
theorem en_K_perm (w : Nat → List Nat) (a : Nat) {S S' : List Nat} (p : S.Perm S') : en_K w S a = en_K w S' a := by
  induction p with
  | nil => rfl
  | cons x _ ih => simp only [en_K, ih]
  | swap x y l => simp only [en_K]; omega
  | trans _ _ h1 h2 => exact h1.trans h2
theorem en_K_ge (w : Nat → List Nat) (a : Nat) : ∀ {S : List Nat} {v : Nat}, v ∈ S → en_cp (w v) (w a) ≤ en_K w S a := by
  intro S
  induction S with
  | nil => intro v hv; cases hv
  | cons x S ih =>
    intro v hv
    simp only [en_K]
    rcases List.mem_cons.mp hv with h | h
    · subst h; omega
    · have := ih h; omega
theorem en_K_at (w : Nat → List Nat) (a : Nat) : ∀ S : List Nat, en_K w S a = 0 ∨ ∃ v, v ∈ S ∧ en_K w S a = en_cp (w v) (w a) := by
  intro S
  induction S with
  | nil => exact Or.inl rfl
  | cons x S ih =>
    simp only [en_K]
    by_cases h : en_K w S a ≤ en_cp (w x) (w a)
    · exact Or.inr ⟨x, by simp, by omega⟩
    · rcases ih with h2 | ⟨v, hv, h2⟩
      · omega
      · exact Or.inr ⟨v, by simp [hv], by omega⟩
theorem en_F (w : Nat → List Nat) (S : List Nat) (a b : Nat) : en_K w S a ≤ en_K w S b ∨ en_cp (w a) (w b) ≤ en_K w S b := by
  rcases en_K_at w a S with h | ⟨v, hv, h⟩
  · left; omega
  · have h3 := en_K_ge w b hv
    rcases en_cp_ul (w v) (w a) (w b) with h2 | h2
    · left; omega
    · right; omega
theorem en_swap (w : Nat → List Nat) (S : List Nat) (a b : Nat) : en_K w S b + en_K w (b :: S) a = en_K w S a + en_K w (a :: S) b := by
  have h1 := en_F w S a b
  have h2 := en_F w S b a
  have h3 := en_cp_sym (w a) (w b)
  simp only [en_K]
  omega
def en_Dr (w : Nat → List Nat) : List Nat → Int32
  | [] => 0
  | a :: S => en_Dr w S + nI (w a).length - nI (en_K w S a)
theorem en_Dr_perm (w : Nat → List Nat) {S S' : List Nat} (p : S.Perm S') : en_Dr w S = en_Dr w S' := by
  induction p with
  | nil => rfl
  | cons x p ih => simp only [en_Dr]; rw [ih, en_K_perm w x p]
  | swap x y l =>
    simp only [en_Dr]
    have h : nI (en_K w l x) + nI (en_K w (x :: l) y) = nI (en_K w l y) + nI (en_K w (y :: l) x) := by
      rw [nI_add, nI_add]
      exact congrArg nI (en_swap w l y x)
    generalize nI (en_K w l x) = A at h ⊢
    generalize nI (en_K w (x :: l) y) = B at h ⊢
    generalize nI (en_K w l y) = C at h ⊢
    generalize nI (en_K w (y :: l) x) = D at h ⊢
    grind
  | trans _ _ h1 h2 => exact h1.trans h2
def en_Rr (w : Nat → List Nat) : List Nat → Nat
  | [] => 0
  | a :: S => max (en_K w S a) (en_Rr w S)
theorem en_Rr_perm (w : Nat → List Nat) {S S' : List Nat} (p : S.Perm S') : en_Rr w S = en_Rr w S' := by
  induction p with
  | nil => rfl
  | cons x p ih => simp only [en_Rr]; rw [ih, en_K_perm w x p]
  | swap x y l =>
    have h3 := en_cp_sym (w x) (w y)
    simp only [en_Rr, en_K]
    omega
  | trans _ _ h1 h2 => exact h1.trans h2
theorem en_K_srt {w : Nat → List Nat} {y a : Nat} {S : List Nat} (h : ∀ v, v ∈ S → en_bf w v y = true) (hy : en_bf w y a = true) : en_K w (y :: S) a = en_cp (w y) (w a) := by
  have h2 : en_K w S a ≤ en_cp (w y) (w a) := by
    rcases en_K_at w a S with h1 | ⟨v, hv, h1⟩
    · omega
    · rw [h1]
      exact en_cp_srt _ _ _ (en_bf_le (h v hv)) (en_bf_le hy)
  simp only [en_K]
  omega
/-- the endings below n, the last first -/
def en_S (P : Nat → Bool) : Nat → List Nat
  | 0 => []
  | n + 1 => if P n = true then n :: en_S P n else en_S P n
theorem en_S_eq (P : Nat → Bool) : ∀ n, en_S P n = ((List.range n).filter P).reverse := by
  intro n
  induction n with
  | zero => rfl
  | succ n ih =>
    rw [List.range_succ, List.filter_append, List.reverse_append, ← ih]
    by_cases h : P n = true
    · simp [en_S, h]
    · simp [en_S, h]
theorem en_S_perm {P : Nat → Bool} {l : List Nat} (hp : l.Perm ((List.range 96).filter P)) : l.reverse.Perm (en_S P 96) := by
  rw [en_S_eq]
  exact ((List.reverse_perm l).trans hp).trans (List.reverse_perm _).symm
/-- how many of those below n -/
def en_ct (Q : Nat → Bool) : Nat → Nat
  | 0 => 0
  | n + 1 => if Q n = true then en_ct Q n + 1 else en_ct Q n
theorem en_ct_eq (Q : Nat → Bool) : ∀ n, en_ct Q n = (List.range n).countP Q := by
  intro n
  induction n with
  | zero => rfl
  | succ n ih =>
    rw [List.range_succ, List.countP_append, ← ih]
    by_cases h : Q n = true
    · simp [en_ct, h]
    · simp [en_ct, h]
theorem en_ct_le (Q : Nat → Bool) : ∀ n, en_ct Q n ≤ n := by
  intro n
  induction n with
  | zero => exact Nat.le_refl _
  | succ n ih =>
    simp only [en_ct]
    split <;> omega
def en_or (Q : Nat → Bool) (f : Nat → Int32) : Nat → Int32
  | 0 => 0
  | n + 1 => if Q n = true then en_or Q f n ||| f n else en_or Q f n
def en_fo (Q : Nat → Bool) (f : Nat → Int32) (s : Int32) (l : List Nat) : Int32 := l.foldl (fun s n => if Q n = true then s ||| f n else s) s
theorem en_or_eq (Q : Nat → Bool) (f : Nat → Int32) : ∀ n, en_or Q f n = en_fo Q f 0 (List.range n) := by
  intro n
  induction n with
  | zero => rfl
  | succ n ih =>
    rw [List.range_succ]
    simp only [en_or, ih, en_fo, List.foldl_append, List.foldl_cons, List.foldl_nil]
theorem en_fo_perm (Q : Nat → Bool) (f : Nat → Int32) {l l' : List Nat} (p : l.Perm l') : en_fo Q f 0 l = en_fo Q f 0 l' := by
  unfold en_fo
  refine List.Perm.foldl_eq' p ?_ _
  intro x _ y _ z
  by_cases hx : Q x = true
  · by_cases hy : Q y = true
    · simp only [hx, hy, if_true]
      rw [Int32.or_assoc, Int32.or_assoc, Int32.or_comm (f x)]
    · simp [hx, hy]
  · by_cases hy : Q y = true
    · simp [hx, hy]
    · simp [hx, hy]
theorem en_fo_fil (Q P : Nat → Bool) (f : Nat → Int32) (h : ∀ n, Q n = true → P n = true) : ∀ (l : List Nat) (s : Int32), en_fo Q f s (l.filter P) = en_fo Q f s l := by
  intro l
  induction l with
  | nil => intro s; rfl
  | cons a l ih =>
    intro s
    by_cases hP : P a = true
    · rw [List.filter_cons_of_pos hP]
      exact ih _
    · rw [List.filter_cons_of_neg hP, ih]
      have hQ : ¬ Q a = true := fun z => hP (h a z)
      unfold en_fo
      rw [List.foldl_cons, if_neg hQ]
def en_sh (k : Nat) : Int32 := (1 : Int32) <<< (nI k &&& 31)
def en_Y (b : Nat → Bool) : Nat → Int32
  | 0 => 0
  | k + 1 => if b k = true then en_Y b k ||| en_sh k else en_Y b k
theorem en_Y4_b : ∀ (b0 b1 b2 b3 : Bool) (g : Fin 4),
    en_Y (fun k => (g.val == k) || (if k = 0 then b0 else if k = 1 then b1 else if k = 2 then b2 else b3)) 4
      = en_sh g.val ||| en_Y (fun k => if k = 0 then b0 else if k = 1 then b1 else if k = 2 then b2 else b3) 4 := by decide +kernel
theorem en_Y4_ext {b b' : Nat → Bool} (h : ∀ k, k < 4 → b k = b' k) : en_Y b 4 = en_Y b' 4 := by
  simp only [en_Y, h 0 (by decide), h 1 (by decide), h 2 (by decide), h 3 (by decide)]
theorem en_Y4 (b : Nat → Bool) {g : Nat} (hg : g < 4) : en_Y (fun k => (g == k) || b k) 4 = en_sh g ||| en_Y b 4 := by
  have e := en_Y4_b (b 0) (b 1) (b 2) (b 3) ⟨g, hg⟩
  have e1 : en_Y b 4 = en_Y (fun k => if k = 0 then b 0 else if k = 1 then b 1 else if k = 2 then b 2 else b 3) 4 := rfl
  have e2 : en_Y (fun k => (g == k) || b k) 4 = en_Y (fun k => (g == k) || (if k = 0 then b 0 else if k = 1 then b 1 else if k = 2 then b 2 else b 3)) 4 := rfl
  rw [e1, e2]
  exact e
theorem en_fo_Y (Q : Nat → Bool) (g : Nat → Nat) (hg : ∀ n, g n < 4) : ∀ (l : List Nat) (s : Int32),
    en_fo Q (fun n => en_sh (g n)) s l = s ||| en_Y (fun k => l.any (fun n => Q n && (g n == k))) 4 := by
  intro l
  induction l with
  | nil =>
    intro s
    show s = s ||| en_Y (fun _ => false) 4
    have e : en_Y (fun _ => false) 4 = 0 := rfl
    rw [e, Int32.or_zero]
  | cons a l ih =>
    intro s
    by_cases h : Q a = true
    · have e : en_fo Q (fun n => en_sh (g n)) s (a :: l) = en_fo Q (fun n => en_sh (g n)) (s ||| en_sh (g a)) l := by
        unfold en_fo
        rw [List.foldl_cons, if_pos h]
      rw [e, ih, Int32.or_assoc, ← en_Y4 _ (hg a)]
      congr 1
      apply en_Y4_ext
      intro k _
      simp [h]
    · have e : en_fo Q (fun n => en_sh (g n)) s (a :: l) = en_fo Q (fun n => en_sh (g n)) s l := by
        unfold en_fo
        rw [List.foldl_cons, if_neg h]
      rw [e, ih]
      congr 1
      apply en_Y4_ext
      intro k _
      simp [h]
