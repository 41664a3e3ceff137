/-! the component's reading methods against the pure picture -/
abbrev en_X (fd fc : Int32) (t L : Nat → Nat) (dr rk : Nat → Int32) : SX := (fd, fc, fun n => nI (t n), fun s => nI (L s), dr, rk)
def en_b (b : Bool) : Int32 := if b = true then 1 else 0
theorem en_p0 {post : Int32 → Prop} {b : Bool} (h : post (en_b b)) (e : b = false) : post 0 := by subst e; exact h
theorem en_p1 {post : Int32 → Prop} {b : Bool} (h : post (en_b b)) (e : b = true) : post 1 := by subst e; exact h
theorem en_d16 {n : Nat} (h : n < 2 ^ 31) : nI n / 16 = nI (n / 16) := pk_div (d := 16) h (by decide) (by decide)
theorem en_m16 {n : Nat} (h : n < 2 ^ 31) : nI n - nI n / 16 * 16 = nI (n % 16) := pk_rem (d := 16) h (by decide) (by decide)
theorem en_n16 : ¬ (16 : Int32) = 0 := by decide
theorem en_E_b {L : Nat → Nat} (hL : ∀ s, L s ≤ 9) {n : Nat} (h : en_E L n = true) : n < 96 ∧ n % 16 ≤ L (n / 16) ∧ en_ln L n ≤ 9 ∧ n + en_ln L n ≤ 96 ∧ n % 16 + en_ln L n ≤ 9 := by
  have h1 := en_E_iff.mp h
  have h2 := hL (n / 16)
  unfold en_ln
  omega
theorem en_cp_step (t : Nat → Nat) (a b : Nat) {la lb j : Nat} (ha : j < la) (hb : j < lb) : en_cp (en_wd t (a + j) (la - j)) (en_wd t (b + j) (lb - j)) = if t (a + j) = t (b + j) then en_cp (en_wd t (a + (j + 1)) (la - (j + 1))) (en_wd t (b + (j + 1)) (lb - (j + 1))) + 1 else 0 := by
  obtain ⟨x, hx⟩ : ∃ x, la - j = x + 1 := ⟨la - (j + 1), by omega⟩
  obtain ⟨y, hy⟩ : ∃ y, lb - j = y + 1 := ⟨lb - (j + 1), by omega⟩
  have hx2 : la - (j + 1) = x := by omega
  have hy2 : lb - (j + 1) = y := by omega
  rw [hx, hy, hx2, hy2]
  simp only [en_wd, en_cp]
  rfl
theorem en_cp_end (t : Nat → Nat) (a b : Nat) {la lb j : Nat} (h : la ≤ j ∨ lb ≤ j) : en_cp (en_wd t (a + j) (la - j)) (en_wd t (b + j) (lb - j)) = 0 := by
  rcases h with h | h
  · rw [show la - j = 0 from by omega]
    simp only [en_wd, en_cp]
  · rw [show lb - j = 0 from by omega]
    cases h2 : en_wd t (a + j) (la - j) with
    | nil => simp only [en_cp]
    | cons x xs => simp only [en_wd, en_cp]
section
variable {fd fc : Int32} {t L : Nat → Nat} {dr rk : Nat → Int32}
theorem xw_el (post : Int32 → Prop) {n : Nat} (hn : n < 96) (hE : n % 16 ≤ L (n / 16)) (h : post (nI (en_ln L n))) : wpX_endingLength post (en_X fd fc t L dr rk) (nI n) := by
  have e1 := en_d16 (n := n) (by omega)
  have e2 := en_m16 (n := n) (by omega)
  refine ⟨en_n16, ?_, en_n16, ?_⟩
  · rw [e1]
    exact vp_in_nI (by omega) (by decide)
  · rw [e2, e1, nI_clamp (by omega)]
    show post (nI (L (n / 16)) - nI (n % 16))
    rw [pk_sub hE]
    exact h
theorem xw_cl (post : Int32 → Prop) {ln : Nat → Int32} (a b la lb m : Nat) (hm : m = la ∧ la ≤ lb ∨ m = lb ∧ lb ≤ la) (h1 : a + m ≤ 96) (h2 : b + m ≤ 96) (ht : ∀ n, t n < 4) : ∀ (d j : Nat), j + d = m →
    post (nI (j + en_cp (en_wd t (a + j) (la - j)) (en_wd t (b + j) (lb - j)))) → wX_commonLetters_30 post (nI a) (nI b) (nI m) fd fc (fun n => nI (t n)) ln dr rk (d + 1) (nI j) := by
  intro d
  induction d with
  | zero =>
    intro j hj hp
    rw [en_cp_end t a b (by omega)] at hp
    exact br_t (nI_le (by omega) (by omega)) hp
  | succ d ih =>
    intro j hj hp
    have e := en_cp_step t a b (la := la) (lb := lb) (j := j) (by omega) (by omega)
    rw [e] at hp
    refine br_f (nI_ge (by omega) (by omega)) ⟨?_, ?_, ?_⟩
    · rw [nI_add]; exact vp_in_nI (by omega) (by decide)
    · rw [nI_add]; exact vp_in_nI (by omega) (by decide)
    · rw [nI_add, nI_add, nI_clamp (by omega), nI_clamp (by omega)]
      have ha := ht (a + j)
      have hb := ht (b + j)
      by_cases z : t (a + j) = t (b + j)
      · rw [if_pos z] at hp
        refine br_t (show nI (t (a + j)) = nI (t (b + j)) from by rw [z]) (nm_r (nI_1 j) (ih (j + 1) (by omega) ?_))
        rw [show j + 1 + en_cp (en_wd t (a + (j + 1)) (la - (j + 1))) (en_wd t (b + (j + 1)) (lb - (j + 1))) = j + (en_cp (en_wd t (a + (j + 1)) (la - (j + 1))) (en_wd t (b + (j + 1)) (lb - (j + 1))) + 1) from by omega]
        exact hp
      · rw [if_neg z] at hp
        refine br_f (show ¬ nI (t (a + j)) = nI (t (b + j)) from fun y => z ((nI_eq (by omega) (by omega)).mp y)) hp
theorem xw_common (post : Int32 → Prop) (ht : ∀ n, t n < 4) (hL : ∀ s, L s ≤ 9) {a b : Nat} (ha : en_E L a = true) (hb : en_E L b = true) (h : post (nI (en_cp (en_w L t a) (en_w L t b)))) : wpX_commonLetters post (en_X fd fc t L dr rk) (nI a) (nI b) := by
  have ba := en_E_b hL ha
  have bb := en_E_b hL hb
  have h' : post (nI (0 + en_cp (en_wd t (a + 0) (en_ln L a - 0)) (en_wd t (b + 0) (en_ln L b - 0)))) := by
    rw [Nat.zero_add]
    exact h
  unfold wpX_commonLetters
  dsimp only
  refine xw_el _ ba.1 ba.2.1 ?_
  refine xw_el _ bb.1 bb.2.1 ?_
  refine pk_le (en_ln L b) (en_ln L a) (fun hle => ⟨en_ln L b + 1, ?_⟩) (fun hlt => ⟨en_ln L a + 1, ?_⟩)
  · exact xw_cl post a b (en_ln L a) (en_ln L b) (en_ln L b) (by omega) (by omega) (by omega) ht (en_ln L b) 0 (by omega) h'
  · exact xw_cl post a b (en_ln L a) (en_ln L b) (en_ln L a) (by omega) (by omega) (by omega) ht (en_ln L a) 0 (by omega) h'
theorem en_bf_k (L t : Nat → Nat) (a b : Nat) :
    (en_cp (en_w L t a) (en_w L t b) < en_ln L a → en_cp (en_w L t a) (en_w L t b) < en_ln L b → en_bf (en_w L t) a b = decide (t (a + en_cp (en_w L t a) (en_w L t b)) < t (b + en_cp (en_w L t a) (en_w L t b))))
    ∧ (¬ (en_cp (en_w L t a) (en_w L t b) < en_ln L a ∧ en_cp (en_w L t a) (en_w L t b) < en_ln L b) → (en_ln L a = en_ln L b → en_bf (en_w L t) a b = decide (a < b)) ∧ (en_ln L a ≠ en_ln L b → en_bf (en_w L t) a b = decide (en_ln L a < en_ln L b))) := by
  obtain ⟨h1, h2⟩ := en_lx_k (en_w L t a) (en_w L t b)
  rw [en_w_len, en_w_len] at h1 h2
  refine ⟨fun p q => ?_, fun p => ⟨fun e => ?_, fun e => ?_⟩⟩
  · obtain ⟨g1, g2⟩ := h1 p q
    have ga : (en_w L t a).getD (en_cp (en_w L t a) (en_w L t b)) 0 = t (a + en_cp (en_w L t a) (en_w L t b)) := en_wd_get t _ _ _ p
    have gb : (en_w L t b).getD (en_cp (en_w L t a) (en_w L t b)) 0 = t (b + en_cp (en_w L t a) (en_w L t b)) := en_wd_get t _ _ _ q
    rw [ga, gb] at g1
    unfold en_bf
    rw [g1, decide_eq_false g2, Bool.false_and, Bool.or_false]
  · obtain ⟨g1, g2⟩ := h2 p
    unfold en_bf
    rw [g1, decide_eq_true (g2 e), Bool.true_and, decide_eq_false (by omega), Bool.false_or]
  · obtain ⟨g1, g2⟩ := h2 p
    have hne : ¬ en_w L t a = en_w L t b := fun z => e (by rw [← en_w_len L t a, ← en_w_len L t b, z])
    unfold en_bf
    rw [g1, decide_eq_false hne, Bool.false_and, Bool.or_false]
theorem xw_before (post : Int32 → Prop) (ht : ∀ n, t n < 4) (hL : ∀ s, L s ≤ 9) {a b : Nat} (ha : en_E L a = true) (hb : en_E L b = true) (h : post (en_b (en_bf (en_w L t) a b))) : wpX_comesBefore post (en_X fd fc t L dr rk) (nI a) (nI b) := by
  have ba := en_E_b hL ha
  have bb := en_E_b hL hb
  obtain ⟨k1, k2⟩ := en_bf_k L t a b
  unfold wpX_comesBefore
  dsimp only
  refine xw_el _ ba.1 ba.2.1 ?_
  refine xw_el _ bb.1 bb.2.1 ?_
  refine xw_common _ ht hL ha hb ?_
  have hk := en_cp_le (en_w L t a) (en_w L t b)
  rw [en_w_len, en_w_len] at hk
  generalize en_cp (en_w L t a) (en_w L t b) = k at *
  have h61 : ¬ (k < en_ln L a ∧ k < en_ln L b) → wX_comesBefore_61 post (nI a) (nI b) (nI (en_ln L a)) (nI (en_ln L b)) fd fc (fun n => nI (t n)) (fun s => nI (L s)) dr rk := by
    intro p
    obtain ⟨g1, g2⟩ := k2 p
    refine pk_eq (en_ln L a) (en_ln L b) (fun e => ?_) (fun e => ?_)
    · rw [g1 e] at h
      exact pk_le b a (fun z => en_p0 h (decide_eq_false (by omega))) (fun z => en_p1 h (decide_eq_true (by omega)))
    · rw [g2 e] at h
      exact pk_le (en_ln L b) (en_ln L a) (fun z => en_p0 h (decide_eq_false (by omega))) (fun z => en_p1 h (decide_eq_true (by omega)))
  refine pk_le (en_ln L a) k (fun z => h61 (by omega)) (fun z1 => ?_)
  refine pk_le (en_ln L b) k (fun z => h61 (by omega)) (fun z2 => ⟨?_, ?_, ?_⟩)
  · rw [nI_add]; exact vp_in_nI (by omega) (by decide)
  · rw [nI_add]; exact vp_in_nI (by omega) (by decide)
  · rw [nI_add, nI_add, nI_clamp (by omega), nI_clamp (by omega)]
    rw [k1 z1 z2] at h
    have h4 := ht (a + k)
    have h5 := ht (b + k)
    exact pk_le (t (b + k)) (t (a + k)) (fun z => en_p0 h (decide_eq_false (by omega))) (fun z => en_p1 h (decide_eq_true (by omega)))
end
