/-! a text comes, a text goes -/
def en_mv (t D : Nat → Nat) (s i : Nat) : Nat → Nat := fun n => if n / 16 = s ∧ n % 16 < i then D (n % 16) else t n
theorem en_mv_0 (t D : Nat → Nat) (s : Nat) : en_mv t D s 0 = t := by
  funext n
  exact if_neg (fun z => by omega)
theorem en_mv_lt {t D : Nat → Nat} {s i : Nat} (ht : ∀ n, t n < 4) (hD : ∀ n, D n < 4) : ∀ n, en_mv t D s i n < 4 := by
  intro n
  unfold en_mv
  split
  · exact hD _
  · exact ht _
theorem en_mv_step (t D : Nat → Nat) (s : Nat) {i : Nat} (hi : i < 16) : upd (fun n => nI (en_mv t D s i n)) (16 * s + i) (nI (D i)) = fun n => nI (en_mv t D s (i + 1) n) := by
  funext n
  unfold upd
  by_cases h : n = 16 * s + i
  · rw [if_pos h]
    unfold en_mv
    have h1 : n / 16 = s ∧ n % 16 < i + 1 := by omega
    have h2 : n % 16 = i := by omega
    rw [if_pos h1, h2]
  · rw [if_neg h]
    unfold en_mv
    dsimp only
    by_cases h1 : n / 16 = s ∧ n % 16 < i
    · rw [if_pos h1, if_pos (by omega)]
    · rw [if_neg h1, if_neg (by omega)]
/-- the reference's letters, by slot -/
def en_Ls (le : Nat → Int32) (t : Nat → Nat) : Prop := ∀ s, s < 6 → ∀ i, i < 9 → le (9 * s + i) = nI (t (16 * s + i))
def en_Ld (le : Nat → Int32) (D : Nat → Nat) : Prop := ∀ i, i < 9 → le (54 + i) = nI (D i)
def en_Ln (ln : Nat → Int32) (L : Nat → Nat) : Prop := ∀ s, s < 6 → ln s = nI (L s)
theorem en_Ls_step {le : Nat → Int32} {t D : Nat → Nat} {s i : Nat} (hs : s < 6) (hi : i < 9) (h : en_Ls le (en_mv t D s i)) : en_Ls (upd le (9 * s + i) (nI (D i))) (en_mv t D s (i + 1)) := by
  intro s' hs' j hj
  have e := congrFun (en_mv_step t D s (i := i) (by omega)) (16 * s' + j)
  rw [← e]
  unfold upd
  by_cases h1 : 9 * s' + j = 9 * s + i
  · rw [if_pos h1, if_pos (by omega)]
  · rw [if_neg h1, if_neg (by omega)]
    exact h s' hs' j hj
theorem en_Ld_step {le : Nat → Int32} {D : Nat → Nat} {k : Nat} {v : Int32} (hk : k < 54) (h : en_Ld le D) : en_Ld (upd le k v) D := by
  intro i hi
  unfold upd
  rw [if_neg (by omega)]
  exact h i hi
theorem en_Ln_up {ln : Nat → Int32} {L : Nat → Nat} {s v : Nat} (h : en_Ln ln L) : en_Ln (upd ln s (nI v)) (en_up L s v) := by
  intro x hx
  unfold upd en_up
  by_cases e : x = s
  · rw [if_pos e, if_pos e]
  · rw [if_neg e, if_neg e]
    exact h x hx
theorem en_Ln_hi {ln : Nat → Int32} {L : Nat → Nat} {k : Nat} {v : Int32} (hk : 6 ≤ k) (h : en_Ln ln L) : en_Ln (upd ln k v) L := by
  intro x hx
  unfold upd
  rw [if_neg (by omega)]
  exact h x hx
theorem en_up_le {L : Nat → Nat} {s v : Nat} (hL : ∀ x, L x ≤ 9) (hv : v ≤ 9) : ∀ x, en_up L s v x ≤ 9 := by
  intro x
  unfold en_up
  split
  · exact hv
  · exact hL x
/-- the invariant of the ranks -/
def en_In (L t : Nat → Nat) (l : List Nat) : Prop := (∀ n, t n < 4) ∧ (∀ s, L s ≤ 9) ∧ en_so (en_w L t) l ∧ ∀ n, n ∈ l ↔ n < 96 ∧ en_E L n = true
theorem en_In_perm {L t : Nat → Nat} {l : List Nat} (h : en_In L t l) : l.Perm ((List.range 96).filter (en_E L)) := en_perm h.2.2.1 h.2.2.2
theorem en_In_len {L t : Nat → Nat} {l : List Nat} (h : en_In L t l) : l.length = en_sm L 6 := en_tot h.2.1 (en_In_perm h)
theorem en_In_60 {L t : Nat → Nat} {l : List Nat} (h : en_In L t l) : l.length ≤ 60 := by
  rw [en_In_len h]
  exact en_sm_le h.2.1 6
theorem en_rem {L t : Nat → Nat} {l : List Nat} (h : en_In L t l) (s : Nat) : en_In (en_up L s 0) t (l.filter (fun n => !decide (n / 16 = s))) := by
  obtain ⟨h1, h2, h3, h4⟩ := h
  refine ⟨h1, en_up_le h2 (by decide), ?_, ?_⟩
  · refine en_so_keep (en_fil _ h3) ?_
    intro n hn
    rw [List.mem_filter] at hn
    have hne : n / 16 ≠ s := by simpa using hn.2
    exact en_w_keep h2 (en_up_n hne) (fun m _ => rfl)
  · intro n
    rw [List.mem_filter, h4 n, en_E_iff, en_E_iff]
    by_cases e : n / 16 = s
    · rw [e, en_up_s]
      simp
    · rw [en_up_n e]
      simp [e]
/-- while the endings of slot s come in: i of them are there -/
def en_Ad (L t : Nat → Nat) (s i : Nat) (l : List Nat) : Prop := (∀ n, t n < 4) ∧ (∀ x, L x ≤ 9) ∧ s < 6 ∧ 0 < L s ∧ en_so (en_w L t) l ∧ ∀ n, n ∈ l ↔ n < 96 ∧ en_E L n = true ∧ (n / 16 = s → n % 16 < i)
theorem en_Ad_0 {L t D : Nat → Nat} {l : List Nat} {s dl : Nat} (h : en_In L t l) (hs : s < 6) (h0 : L s = 0) (hd : 0 < dl) (hd9 : dl ≤ 9) (hD : ∀ n, D n < 4) : en_Ad (en_up L s dl) (en_mv t D s dl) s 0 l := by
  obtain ⟨h1, h2, h3, h4⟩ := h
  refine ⟨en_mv_lt h1 hD, en_up_le h2 hd9, hs, by rw [en_up_s]; exact hd, ?_, ?_⟩
  · refine en_so_keep h3 ?_
    intro n hn
    have hE := en_E_iff.mp ((h4 n).mp hn).2
    have hne : n / 16 ≠ s := by
      intro e
      rw [e, h0] at hE
      omega
    refine en_w_keep h2 (en_up_n hne) ?_
    intro m hm
    unfold en_mv
    rw [if_neg (by omega)]
  · intro n
    rw [h4 n, en_E_iff, en_E_iff]
    by_cases e : n / 16 = s
    · rw [e, en_up_s, h0]
      omega
    · rw [en_up_n e]
      constructor
      · intro z
        exact ⟨z.1, z.2, fun z2 => absurd z2 e⟩
      · intro z
        exact ⟨z.1, z.2.1⟩
theorem en_Ad_E {L t : Nat → Nat} {l : List Nat} {s i n : Nat} (h : en_Ad L t s i l) (hn : n ∈ l) : en_E L n = true := ((h.2.2.2.2.2 n).mp hn).2.1
theorem en_Ad_new {L t : Nat → Nat} {l : List Nat} {s i : Nat} (h : en_Ad L t s i l) (hi : i ≤ L s) : en_E L (16 * s + i) = true ∧ 16 * s + i ∉ l := by
  obtain ⟨_, h2, h3, h4, _, h6⟩ := h
  have hL := h2 s
  have d : (16 * s + i) / 16 = s := by omega
  have m : (16 * s + i) % 16 = i := by omega
  constructor
  · rw [en_E_iff, d, m]; omega
  · intro hn
    have := ((h6 _).mp hn).2.2 d
    omega
theorem en_Ad_step {L t : Nat → Nat} {p q : List Nat} {s i : Nat} (h : en_Ad L t s i (p ++ q)) (hi : i ≤ L s) (h1 : ∀ x, x ∈ p → en_bf (en_w L t) x (16 * s + i) = true) (h2 : ∀ x, x ∈ q → en_bf (en_w L t) (16 * s + i) x = true) : en_Ad L t s (i + 1) (p ++ (16 * s + i) :: q) := by
  have hnew := en_Ad_new h hi
  obtain ⟨a1, a2, a3, a4, a5, a6⟩ := h
  have hL := a2 s
  refine ⟨a1, a2, a3, a4, en_ins a5 h1 h2, ?_⟩
  intro n
  have h6 := a6 n
  rw [List.mem_append] at h6
  rw [List.mem_append, List.mem_cons]
  have d : (16 * s + i) / 16 = s := by omega
  have m : (16 * s + i) % 16 = i := by omega
  by_cases e : n = 16 * s + i
  · constructor
    · intro _
      rw [e]
      exact ⟨by omega, hnew.1, by omega⟩
    · intro _
      exact Or.inr (Or.inl e)
  · have e2 : n / 16 = s → n % 16 ≠ i := by omega
    constructor
    · intro z
      have hz : n ∈ p ∨ n ∈ q := by
        rcases z with z | z | z
        · exact Or.inl z
        · exact absurd z e
        · exact Or.inr z
      have := h6.mp hz
      exact ⟨this.1, this.2.1, fun y => by have := this.2.2 y; omega⟩
    · intro z
      have : n ∈ p ∨ n ∈ q := h6.mpr ⟨z.1, z.2.1, fun y => by have := z.2.2 y; have := e2 y; omega⟩
      rcases this with y | y
      · exact Or.inl y
      · exact Or.inr (Or.inr y)
theorem en_Ad_end {L t : Nat → Nat} {l : List Nat} {s : Nat} (h : en_Ad L t s (L s + 1) l) : en_In L t l := by
  obtain ⟨a1, a2, a3, a4, a5, a6⟩ := h
  refine ⟨a1, a2, a5, ?_⟩
  intro n
  rw [a6 n]
  constructor
  · intro z; exact ⟨z.1, z.2.1⟩
  · intro z
    refine ⟨z.1, z.2, fun e => ?_⟩
    have := en_E_iff.mp z.2
    rw [e] at this
    omega
theorem en_Ad_60 {L t : Nat → Nat} {l : List Nat} {s i : Nat} (h : en_Ad L t s i l) : l.length ≤ 60 := en_room h.2.1 (en_nd h.2.2.2.2.1) (fun _ hn => en_Ad_E h hn)
theorem en_Ad_59 {L t : Nat → Nat} {l : List Nat} {s i : Nat} (h : en_Ad L t s i l) (hi : i ≤ L s) : l.length < 60 := by
  have hnew := en_Ad_new h hi
  have h1 : ((16 * s + i) :: l).Nodup := List.nodup_cons.mpr ⟨hnew.2, en_nd h.2.2.2.2.1⟩
  have h2 := en_room h.2.1 h1 (fun n hn => by
    rcases List.mem_cons.mp hn with z | z
    · rw [z]; exact hnew.1
    · exact en_Ad_E h z)
  simp only [List.length_cons] at h2
  omega
