/-! the answers, as both sides give them -/
/-- the element at place k - f, or -4 -/
def en_pk : List Nat → Nat → Int32 → Int32
  | [], _, _ => -4
  | x :: m, f, k => if nI f = k then nI x else en_pk m (f + 1) k
theorem en_pk_hit : ∀ (p : List Nat) (j : Nat) (q : List Nat) (f : Nat) (k : Int32), f + p.length < 2 ^ 31 → nI (f + p.length) = k → en_pk (p ++ j :: q) f k = nI j := by
  intro p
  induction p with
  | nil =>
    intro j q f k _ h
    exact if_pos h
  | cons x p ih =>
    intro j q f k hl h
    simp only [List.length_cons] at hl h
    have hn : ¬ nI f = k := by
      rw [← h, nI_eq (by omega) (by omega)]
      omega
    show (if nI f = k then nI x else en_pk (p ++ j :: q) (f + 1) k) = nI j
    rw [if_neg hn]
    refine ih j q (f + 1) k (by omega) ?_
    rw [← h]
    congr 1
    omega
theorem en_pk_miss : ∀ (m : List Nat) (f : Nat) (k : Int32), (∀ i, i < m.length → nI (f + i) ≠ k) → en_pk m f k = -4 := by
  intro m
  induction m with
  | nil => intro f k _; rfl
  | cons x m ih =>
    intro f k h
    have h0 : ¬ nI f = k := h 0 (by simp)
    show (if nI f = k then nI x else en_pk m (f + 1) k) = -4
    rw [if_neg h0]
    apply ih
    intro i hi
    have := h (i + 1) (by simpa using hi)
    rw [show f + 1 + i = f + (i + 1) from by omega]
    exact this
theorem en_split {l : List Nat} {i : Nat} (h : i < l.length) : l = l.take i ++ l[i] :: l.drop (i + 1) ∧ (l.take i).length = i := by
  constructor
  · rw [List.getElem_cons_drop, List.take_append_drop]
  · rw [List.length_take]; omega
theorem en_pk_at {l : List Nat} {i : Nat} (h : i < l.length) (hl : l.length < 2 ^ 31) : en_pk l 0 (nI i) = nI l[i] := by
  obtain ⟨e, e2⟩ := en_split h
  have := en_pk_hit (l.take i) l[i] (l.drop (i + 1)) 0 (nI i) (by omega) (by rw [e2, Nat.zero_add])
  rw [← e] at this
  exact this
/-- how many stand before j -/
def en_cb (w : Nat → List Nat) (P : Nat → Bool) (j : Nat) : Nat := en_ct (fun x => P x && en_bf w x j) 96
theorem en_cb_eq (w : Nat → List Nat) (P : Nat → Bool) (j : Nat) : en_cb w P j = (List.range 96).countP (fun x => P x && en_bf w x j) := en_ct_eq _ 96
theorem en_cb_le (w : Nat → List Nat) (P : Nat → Bool) (j : Nat) : en_cb w P j ≤ 96 := en_ct_le _ 96
theorem en_Yend {w : Nat → List Nat} {P : Nat → Bool} {m : List Nat} (hs : en_so w m) (hp : m.Perm ((List.range 96).filter P)) (hl : m.length < 2 ^ 31) (r : Int32) :
    (∀ j, j < 96 → P j = true → nI (en_cb w P j) = r → nI j = en_pk m 0 r) ∧ ((∀ j, j < 96 → P j = true → nI (en_cb w P j) ≠ r) → -4 = en_pk m 0 r) := by
  constructor
  · intro j hj hP hr
    obtain ⟨p, q, e, hc⟩ := en_cnt hs hp hj hP
    rw [← en_cb_eq] at hc
    rw [hc] at hr
    have hlen : p.length < m.length := by rw [e]; simp
    have := en_pk_hit p j q 0 r (by omega) (by rw [Nat.zero_add]; exact hr)
    rw [← e] at this
    exact this.symm
  · intro h
    refine (en_pk_miss m 0 r ?_).symm
    intro i hi
    have hmem : m[i] ∈ m := List.getElem_mem hi
    have hf := hp.mem_iff.mp hmem
    rw [List.mem_filter, List.mem_range] at hf
    obtain ⟨p, q, e, hc⟩ := en_cnt hs hp hf.1 hf.2
    rw [← en_cb_eq] at hc
    obtain ⟨e1, e2⟩ := en_split hi
    have hk := en_rk hs e
    rw [en_rk hs e1, e2] at hk
    have := h m[i] hf.1 hf.2
    rw [hc, ← hk] at this
    rw [Nat.zero_add]
    exact this
theorem en_pk_lo {m : List Nat} {r : Int32} (hl : m.length < 2 ^ 31) (h : r < 0 ∨ nI m.length ≤ r) : en_pk m 0 r = -4 := by
  apply en_pk_miss
  intro i hi he
  rw [Nat.zero_add] at he
  subst he
  rcases h with h | h
  · exact nI_pos (by omega) h
  · exact nI_ge hi hl h
/-- the place of a number in the list, or -4 -/
def en_ix : List Nat → Nat → Int32 → Int32
  | [], _, _ => -4
  | x :: m, i, k => if nI x = k then nI i else en_ix m (i + 1) k
theorem en_ix_hit : ∀ (p : List Nat) (n : Nat) (q : List Nat) (i : Nat), (∀ x, x ∈ p → nI x ≠ nI n) → en_ix (p ++ n :: q) i (nI n) = nI (i + p.length) := by
  intro p
  induction p with
  | nil => intro n q i _; exact if_pos rfl
  | cons x p ih =>
    intro n q i h
    show (if nI x = nI n then nI i else en_ix (p ++ n :: q) (i + 1) (nI n)) = _
    rw [if_neg (h x (by simp)), ih n q (i + 1) (fun y hy => h y (by simp [hy]))]
    simp only [List.length_cons]
    congr 1
    omega
theorem en_ix_miss : ∀ (m : List Nat) (i : Nat) (k : Int32), (∀ x, x ∈ m → nI x ≠ k) → en_ix m i k = -4 := by
  intro m
  induction m with
  | nil => intro i k _; rfl
  | cons x m ih =>
    intro i k h
    show (if nI x = k then nI i else en_ix m (i + 1) k) = -4
    rw [if_neg (h x (by simp))]
    exact ih (i + 1) k (fun y hy => h y (by simp [hy]))
theorem en_Yrank {w : Nat → List Nat} {P : Nat → Bool} {l : List Nat} (hs : en_so w l) (hp : l.Perm ((List.range 96).filter P)) :
    (∀ n, n < 96 → P n = true → nI (en_cb w P n) = en_ix l 0 (nI n)) ∧ (∀ k : Int32, (∀ n, n < 96 → P n = true → nI n ≠ k) → -4 = en_ix l 0 k) := by
  constructor
  · intro n hn hP
    obtain ⟨p, q, e, hc⟩ := en_cnt hs hp hn hP
    rw [← en_cb_eq] at hc
    have hnd := en_nd hs
    have hm : ∀ x, x ∈ p → nI x ≠ nI n := by
      intro x hx he
      have hx2 : x ∈ l := by rw [e]; simp [hx]
      have hf := hp.mem_iff.mp hx2
      rw [List.mem_filter, List.mem_range] at hf
      rw [nI_eq (by omega) (by omega)] at he
      subst he
      rw [e] at hnd
      have := (List.pairwise_append.mp hnd).2.2 x hx x (by simp)
      exact this rfl
    have := en_ix_hit p n q 0 hm
    rw [← e, Nat.zero_add] at this
    rw [this, hc]
  · intro k h
    refine (en_ix_miss l 0 k ?_).symm
    intro x hx
    have hf := hp.mem_iff.mp hx
    rw [List.mem_filter, List.mem_range] at hf
    exact h x hf.1 hf.2
theorem en_fp {E S : Nat → Bool} {l : List Nat} (h : ∀ n, S n = true → E n = true) (hp : l.Perm ((List.range 96).filter E)) : (l.filter S).Perm ((List.range 96).filter S) := by
  have h1 := hp.filter S
  rw [List.filter_filter] at h1
  have e : (fun a => S a && E a) = S := by
    funext a
    cases hS : S a with
    | false => rfl
    | true => rw [h a hS]; rfl
  rw [e] at h1
  exact h1
theorem en_cS {E S : Nat → Bool} {l : List Nat} (h : ∀ n, S n = true → E n = true) (hp : l.Perm ((List.range 96).filter E)) : l.countP S = en_ct S 96 := by
  rw [en_ct_eq, List.countP_eq_length_filter, List.countP_eq_length_filter]
  exact (en_fp h hp).length_eq
theorem en_foS {E S : Nat → Bool} {l : List Nat} (f : Nat → Int32) (h : ∀ n, S n = true → E n = true) (hp : l.Perm ((List.range 96).filter E)) : en_fo S f 0 l = en_or S f 96 := by
  rw [en_fo_perm S f hp, en_fo_fil S E f h, en_or_eq]
theorem en_sb_E {L t pd : Nat → Nat} {sz n : Nat} (h : en_sb L t pd sz n = true) : en_E L n = true := (en_sb_iff.mp h).1
theorem en_sb_ext {L t pd pd' : Nat → Nat} {sz : Nat} (h : ∀ i, i < sz → pd i = pd' i) (n : Nat) : en_sb L t pd sz n = en_sb L t pd' sz n := by
  have e : (∀ i, i < sz → t (n + i) = pd i) ↔ (∀ i, i < sz → t (n + i) = pd' i) :=
    ⟨fun g i hi => (g i hi).trans (h i hi), fun g i hi => (g i hi).trans (h i hi).symm⟩
  unfold en_sb
  rw [decide_eq_decide.mpr e]
theorem en_ct_ext {Q Q' : Nat → Bool} (h : ∀ n, Q n = Q' n) (k : Nat) : en_ct Q k = en_ct Q' k := by
  rw [show Q = Q' from funext h]
theorem en_any {E : Nat → Bool} {l : List Nat} (hp : l.Perm ((List.range 96).filter E)) {Q S : Nat → Bool} (h : (∃ n, n < 96 ∧ E n = true ∧ Q n = true) ↔ ∃ n, n < 96 ∧ S n = true) : l.any Q = decide (0 < en_ct S 96) := by
  rw [Bool.eq_iff_iff, List.any_eq_true, decide_eq_true_eq, en_ct_eq, List.countP_pos_iff]
  constructor
  · rintro ⟨n, hn, hq⟩
    have hf := hp.mem_iff.mp hn
    rw [List.mem_filter, List.mem_range] at hf
    obtain ⟨m, hm, hS⟩ := h.mp ⟨n, hf.1, hf.2, hq⟩
    exact ⟨m, List.mem_range.mpr hm, hS⟩
  · rintro ⟨m, hm, hS⟩
    obtain ⟨n, h1, h2, h3⟩ := h.mpr ⟨m, List.mem_range.mp hm, hS⟩
    exact ⟨n, hp.mem_iff.mpr (List.mem_filter.mpr ⟨List.mem_range.mpr h1, h2⟩), h3⟩
/-- the pattern with a letter behind it, or ahead of it -/
def en_pa (pd : Nat → Nat) (sz k : Nat) : Nat → Nat := fun i => if i = sz then k else pd i
def en_pb (pd : Nat → Nat) (k : Nat) : Nat → Nat := fun i => if i = 0 then k else pd (i - 1)
theorem en_after {L t pd : Nat → Nat} {sz : Nat} {l : List Nat} (ht : ∀ n, t n < 4) (hp : l.Perm ((List.range 96).filter (en_E L))) :
    en_fo (fun n => en_sb L t pd sz n && decide (sz < en_ln L n)) (fun n => en_sh (t (n + sz))) 0 l = en_Y (fun k => decide (0 < en_ct (en_sb L t (en_pa pd sz k) (sz + 1)) 96)) 4 := by
  rw [en_fo_Y _ _ (fun n => ht (n + sz)), Int32.or_comm, Int32.or_zero]
  apply en_Y4_ext
  intro k _
  apply en_any hp
  constructor
  · rintro ⟨n, hn, hE, hq⟩
    refine ⟨n, hn, ?_⟩
    simp only [Bool.and_eq_true, decide_eq_true_eq, beq_iff_eq, en_sb_iff] at hq ⊢
    refine ⟨hE, by omega, fun i hi => ?_⟩
    unfold en_pa
    by_cases h : i = sz
    · rw [if_pos h, h]; exact hq.2
    · rw [if_neg h]; exact hq.1.1.2.2 i (by omega)
  · rintro ⟨n, hn, hq⟩
    refine ⟨n, hn, en_sb_E hq, ?_⟩
    simp only [Bool.and_eq_true, decide_eq_true_eq, beq_iff_eq, en_sb_iff] at hq ⊢
    refine ⟨⟨⟨hq.1, by omega, fun i hi => ?_⟩, by omega⟩, ?_⟩
    · have := hq.2.2 i (by omega)
      unfold en_pa at this
      rw [if_neg (by omega)] at this
      exact this
    · have := hq.2.2 sz (by omega)
      unfold en_pa at this
      rw [if_pos rfl] at this
      exact this
theorem en_before {L t pd : Nat → Nat} {sz : Nat} {l : List Nat} (ht : ∀ n, t n < 4) (hL : ∀ s, L s ≤ 9) (hp : l.Perm ((List.range 96).filter (en_E L))) :
    en_fo (fun n => en_sb L t pd sz n && decide (0 < n % 16)) (fun n => en_sh (t (n - 1))) 0 l = en_Y (fun k => decide (0 < en_ct (en_sb L t (en_pb pd k) (sz + 1)) 96)) 4 := by
  rw [en_fo_Y _ _ (fun n => ht (n - 1)), Int32.or_comm, Int32.or_zero]
  apply en_Y4_ext
  intro k _
  apply en_any hp
  constructor
  · rintro ⟨n, hn, hE, hq⟩
    simp only [Bool.and_eq_true, decide_eq_true_eq, beq_iff_eq, en_sb_iff] at hq
    obtain ⟨⟨⟨_, h1, h2⟩, h3⟩, h4⟩ := hq
    have d : (n - 1) / 16 = n / 16 := by omega
    have m : (n - 1) % 16 = n % 16 - 1 := by omega
    have hE' := en_E_iff.mp hE
    refine ⟨n - 1, by omega, en_sb_iff.mpr ⟨en_E_iff.mpr ?_, ?_, fun i hi => ?_⟩⟩
    · rw [d, m]; omega
    · unfold en_ln at h1 ⊢
      rw [d, m]; omega
    · unfold en_pb
      by_cases h : i = 0
      · rw [if_pos h, h]; exact h4
      · rw [if_neg h, show n - 1 + i = n + (i - 1) from by omega]; exact h2 (i - 1) (by omega)
  · rintro ⟨n, hn, hq⟩
    have hq' := en_sb_iff.mp hq
    obtain ⟨hE, h1, h2⟩ := hq'
    have hE' := en_E_iff.mp hE
    have hb := hL (n / 16)
    unfold en_ln at h1
    have d : (n + 1) / 16 = n / 16 := by omega
    have m : (n + 1) % 16 = n % 16 + 1 := by omega
    have hE2 : en_E L (n + 1) = true := en_E_iff.mpr (by rw [d, m]; omega)
    refine ⟨n + 1, by omega, hE2, ?_⟩
    simp only [Bool.and_eq_true, decide_eq_true_eq, beq_iff_eq, en_sb_iff]
    refine ⟨⟨⟨hE2, ?_, fun i hi => ?_⟩, by omega⟩, ?_⟩
    · unfold en_ln
      rw [d, m]; omega
    · have := h2 (i + 1) (by omega)
      unfold en_pb at this
      rw [if_neg (by omega), Nat.add_sub_cancel] at this
      rw [show n + 1 + i = n + (i + 1) from by omega]
      exact this
    · have := h2 0 (by omega)
      unfold en_pb at this
      rw [if_pos rfl] at this
      exact this
/-- sums over the rank's order -/
theorem en_K_pre {w : Nat → List Nat} {p q : List Nat} {y a : Nat} (hs : en_so w (p ++ y :: a :: q)) : en_K w (y :: p.reverse) a = en_cp (w y) (w a) := by
  unfold en_so at hs
  rw [List.pairwise_append] at hs
  apply en_K_srt
  · intro v hv
    exact hs.2.2 v (List.mem_reverse.mp hv) y (by simp)
  · exact (List.pairwise_cons.mp hs.2.1).1 a (by simp)
