/-! the reference's reading methods -/
theorem en_ct_t {Q : Nat → Bool} {i : Nat} (h : Q i = true) : en_ct Q (i + 1) = en_ct Q i + 1 := if_pos h
theorem en_ct_f {Q : Nat → Bool} {i : Nat} (h : Q i = false) : en_ct Q (i + 1) = en_ct Q i := if_neg (by rw [h]; decide)
theorem en_S_t {P : Nat → Bool} {i : Nat} (h : P i = true) : en_S P (i + 1) = i :: en_S P i := if_pos h
theorem en_S_f {P : Nat → Bool} {i : Nat} (h : P i = false) : en_S P (i + 1) = en_S P i := if_neg (by rw [h]; decide)
theorem en_S_mem {P : Nat → Bool} {i x : Nat} (h : x ∈ en_S P i) : x < i ∧ P x = true := by
  rw [en_S_eq, List.mem_reverse, List.mem_filter, List.mem_range] at h
  exact h
section
variable {fz : Int32} {t L : Nat → Nat} {le ln pa : Nat → Int32}
theorem yw_isE (hln : en_Ln ln L) (hL : ∀ s, L s ≤ 9) (post : Int32 → Prop) {n : Nat} (hn : n < 96) (h : post (en_b (en_E L n))) : wpY_isEnding post (fz, le, ln, pa) (nI n) := by
  have e1 := en_d16 (n := n) (by omega)
  have e2 := en_m16 (n := n) (by omega)
  have e3 : (nI (n / 16)).toNatClampNeg = n / 16 := nI_clamp (by omega)
  have e4 : ln (n / 16) = nI (L (n / 16)) := hln (n / 16) (by omega)
  have hb := hL (n / 16)
  have hin : vp_in (nI (n / 16)) 7 := vp_in_nI (by omega) (by decide)
  refine br_f (nI_pos (by omega)) (br_f (nI_ge (b := 96) hn (by decide)) ?_)
  rw [e2, e1, e3, e4]
  refine ⟨en_n16, hin, ?_⟩
  refine pk_le (L (n / 16)) 0 (fun z => en_p0 h ?_) (fun z => ⟨en_n16, en_n16, hin, ?_⟩)
  · rw [Bool.eq_false_iff]
    intro y
    have := en_E_iff.mp y
    omega
  · refine pk_lt (L (n / 16)) (n % 16) (fun y => en_p0 h ?_) (fun y => en_p1 h (en_E_iff.mpr ⟨hn, z, y⟩))
    rw [Bool.eq_false_iff]
    intro x
    have := en_E_iff.mp x
    omega
theorem yw_isEnding (hln : en_Ln ln L) (hL : ∀ s, L s ≤ 9) (post : Int32 → Prop) (v : Int32) (h0 : (∀ n, n < 96 → en_E L n = true → nI n ≠ v) → post 0) (h1 : ∀ n, n < 96 → en_E L n = true → v = nI n → post 1) : wpY_isEnding post (fz, le, ln, pa) v := by
  rcases pk_ix v (n := 96) (by decide) with h | h | ⟨n, hn, h⟩
  · refine br_t h (h0 ?_)
    intro n hn _ e
    rw [← e] at h
    exact nI_pos (by omega) h
  · have h0' : post 0 := by
      apply h0
      intro n hn _ e
      rw [← e] at h
      exact nI_ge hn (by decide) h
    exact br_c (fun _ => h0') (fun _ => br_t h h0')
  · subst h
    refine yw_isE hln hL post hn ?_
    cases hE : en_E L n with
    | true => exact h1 n hn hE rfl
    | false =>
      refine h0 ?_
      intro m hm hEm e
      rw [nI_eq (by omega) (by omega)] at e
      rw [e, hE] at hEm
      cases hEm
theorem yw_size (hln : en_Ln ln L) (post : Int32 → Prop) {n : Nat} (hn : n < 96) (hE : n % 16 ≤ L (n / 16)) (h : post (nI (en_ln L n))) : wpY_sizeOf post (fz, le, ln, pa) (nI n) := by
  have e1 := en_d16 (n := n) (by omega)
  have e2 := en_m16 (n := n) (by omega)
  have e3 : (nI (n / 16)).toNatClampNeg = n / 16 := nI_clamp (by omega)
  have e4 : ln (n / 16) = nI (L (n / 16)) := hln (n / 16) (by omega)
  refine ⟨en_n16, ?_, en_n16, ?_⟩
  · rw [e1]
    exact vp_in_nI (by omega) (by decide)
  · rw [e2, e1, e3, e4, pk_sub hE]
    exact h
theorem yw_let (hls : en_Ls le t) (post : Int32 → Prop) {n i : Nat} (hn : n < 96) (hi : n % 16 + i < 9) (h : post (nI (t (n + i)))) : wpY_letterOf post (fz, le, ln, pa) (nI n) (nI i) := by
  have e1 := en_d16 (n := n) (by omega)
  have e2 := en_m16 (n := n) (by omega)
  have e3 : (9 : Int32) * nI (n / 16) + nI (n % 16) + nI i = nI (9 * (n / 16) + (n % 16 + i)) := by
    rw [show (9 : Int32) = nI 9 from rfl, pk_mul, nI_add, nI_add, Nat.add_assoc]
  have e4 := hls (n / 16) (by omega) (n % 16 + i) hi
  rw [show 16 * (n / 16) + (n % 16 + i) = n + i from by omega] at e4
  refine ⟨en_n16, en_n16, ?_, ?_⟩
  · rw [e2, e1, e3]
    exact vp_in_nI (by omega) (by decide)
  · rw [e2, e1, e3, nI_clamp (by omega), e4]
    exact h
theorem yw_sh (hls : en_Ls le t) (post : Int32 → Prop) (a b la lb m : Nat) (hm : m = la ∧ la ≤ lb ∨ m = lb ∧ lb ≤ la) (ha : a < 96) (hb : b < 96) (h1 : a % 16 + m ≤ 9) (h2 : b % 16 + m ≤ 9) (ht : ∀ n, t n < 4) : ∀ (d j : Nat), j + d = m →
    post (nI (j + en_cp (en_wd t (a + j) (la - j)) (en_wd t (b + j) (lb - j)))) → wY_shared_30 post (nI a) (nI b) (nI m) fz le ln pa (d + 1) (nI j) := by
  intro d
  induction d with
  | zero =>
    intro j hj hp
    rw [en_cp_end t a b (by omega)] at hp
    have hj' : j = m := by omega
    subst hj'
    exact br_t (nI_le (by omega) (by omega)) hp
  | succ d ih =>
    intro j hj hp
    have e := en_cp_step t a b (la := la) (lb := lb) (j := j) (by omega) (by omega)
    rw [e] at hp
    have h4 := ht (a + j)
    have h5 := ht (b + j)
    refine br_f (nI_ge (by omega) (by omega)) ?_
    refine yw_let hls _ ha (by omega) ?_
    refine yw_let hls _ hb (by omega) ?_
    refine pk_eq (t (a + j)) (t (b + j)) (fun z => ?_) (fun z => ?_)
    · rw [if_pos z] at hp
      refine nm_r (nI_1 j) (ih (j + 1) (by omega) ?_)
      rw [show j + 1 + en_cp (en_wd t (a + (j + 1)) (la - (j + 1))) (en_wd t (b + (j + 1)) (lb - (j + 1))) = j + (en_cp (en_wd t (a + (j + 1)) (la - (j + 1))) (en_wd t (b + (j + 1)) (lb - (j + 1))) + 1) from by omega]
      exact hp
    · rw [if_neg z] at hp
      exact hp
theorem yw_shared (hls : en_Ls le t) (hln : en_Ln ln L) (ht : ∀ n, t n < 4) (hL : ∀ s, L s ≤ 9) (post : Int32 → Prop) {a b : Nat} (ha : en_E L a = true) (hb : en_E L b = true) (h : post (nI (en_cp (en_w L t a) (en_w L t b)))) : wpY_shared post (fz, le, ln, pa) (nI a) (nI b) := by
  have ba := en_E_b hL ha
  have bb := en_E_b hL hb
  have h' : post (nI (0 + en_cp (en_wd t (a + 0) (en_ln L a - 0)) (en_wd t (b + 0) (en_ln L b - 0)))) := by
    rw [Nat.zero_add]
    exact h
  unfold wpY_shared
  dsimp only
  refine yw_size hln _ ba.1 ba.2.1 ?_
  refine yw_size hln _ bb.1 bb.2.1 ?_
  refine pk_le (en_ln L b) (en_ln L a) (fun hle => ?_) (fun hlt => ?_)
  · refine yw_size hln _ bb.1 bb.2.1 ⟨en_ln L b + 1, ?_⟩
    exact yw_sh hls post a b (en_ln L a) (en_ln L b) (en_ln L b) (by omega) ba.1 bb.1 (by omega) (by omega) ht (en_ln L b) 0 (by omega) h'
  · refine yw_size hln _ ba.1 ba.2.1 ⟨en_ln L a + 1, ?_⟩
    exact yw_sh hls post a b (en_ln L a) (en_ln L b) (en_ln L a) (by omega) ba.1 bb.1 (by omega) (by omega) ht (en_ln L a) 0 (by omega) h'
theorem yw_before (hls : en_Ls le t) (hln : en_Ln ln L) (ht : ∀ n, t n < 4) (hL : ∀ s, L s ≤ 9) (post : Int32 → Prop) {a b : Nat} (ha : en_E L a = true) (hb : en_E L b = true) (h : post (en_b (en_bf (en_w L t) a b))) : wpY_comesBefore post (fz, le, ln, pa) (nI a) (nI b) := by
  have ba := en_E_b hL ha
  have bb := en_E_b hL hb
  obtain ⟨k1, k2⟩ := en_bf_k L t a b
  unfold wpY_comesBefore
  dsimp only
  refine yw_shared hls hln ht hL _ ha hb ?_
  have hk := en_cp_le (en_w L t a) (en_w L t b)
  rw [en_w_len, en_w_len] at hk
  generalize en_cp (en_w L t a) (en_w L t b) = k at *
  have h36 : ¬ (k = en_ln L a ∧ k = en_ln L b) → wY_comesBefore_36 post (nI a) (nI b) (nI k) fz le ln pa := by
    intro p
    unfold wY_comesBefore_36
    refine yw_size hln _ ba.1 ba.2.1 ?_
    refine pk_eq k (en_ln L a) (fun z => ?_) (fun z => ?_)
    · unfold wY_comesBefore_54
      refine yw_size hln _ ba.1 ba.2.1 ?_
      refine pk_eq k (en_ln L a) (fun _ => en_p1 h ?_) (fun y => absurd z y)
      rw [(k2 (by omega)).2 (by omega)]
      exact decide_eq_true (by omega)
    · refine yw_size hln _ bb.1 bb.2.1 ?_
      refine pk_eq k (en_ln L b) (fun y => ?_) (fun y => ?_)
      · unfold wY_comesBefore_54
        refine yw_size hln _ ba.1 ba.2.1 ?_
        refine pk_eq k (en_ln L a) (fun x => absurd x z) (fun _ => en_p0 h ?_)
        rw [(k2 (by omega)).2 (by omega)]
        exact decide_eq_false (by omega)
      · refine yw_let hls _ ba.1 (by omega) ?_
        refine yw_let hls _ bb.1 (by omega) ?_
        have h4 := ht (a + k)
        have h5 := ht (b + k)
        have e := k1 (by omega) (by omega)
        exact pk_le (t (b + k)) (t (a + k)) (fun x => en_p0 h (by rw [e]; exact decide_eq_false (by omega))) (fun x => en_p1 h (by rw [e]; exact decide_eq_true (by omega)))
  refine yw_size hln _ ba.1 ba.2.1 ?_
  refine pk_eq k (en_ln L a) (fun z => ?_) (fun z => h36 (by omega))
  refine yw_size hln _ bb.1 bb.2.1 ?_
  refine pk_eq k (en_ln L b) (fun y => ?_) (fun y => h36 (by omega))
  have e := (k2 (by omega)).1 (by omega)
  exact pk_le b a (fun x => en_p0 h (by rw [e]; exact decide_eq_false (by omega))) (fun x => en_p1 h (by rw [e]; exact decide_eq_true (by omega)))
theorem yw_rankOf (hls : en_Ls le t) (hln : en_Ln ln L) (ht : ∀ n, t n < 4) (hL : ∀ s, L s ≤ 9) (post : Int32 → Prop) {N : Nat} (hN : en_E L N = true) (hp : post (nI (en_cb (en_w L t) (en_E L) N))) : wpY_rankOf post (fz, le, ln, pa) (nI N) := by
  have key : ∀ (d i : Nat), i + d = 96 → wY_rankOf_4 post (nI N) fz le ln pa (d + 1) (nI (en_ct (fun x => en_E L x && en_bf (en_w L t) x N) i)) (nI i) := by
    intro d
    induction d with
    | zero =>
      intro i hi
      have hi' : i = 96 := by omega
      subst hi'
      exact br_t (nI_le (a := 96) (by decide) (by decide)) hp
    | succ d ih =>
      intro i hi
      refine br_f (nI_ge (b := 96) (by omega) (by decide)) ?_
      refine yw_isE hln hL _ (by omega) ?_
      have IH := ih (i + 1) (by omega)
      cases hE : en_E L i with
      | false =>
        rw [en_ct_f (by simp only [hE, Bool.false_and])] at IH
        exact br_t (show en_b false = 0 by decide) (nm_r (nI_1 i) IH)
      | true =>
        refine br_f (show ¬ en_b true = 0 by decide) ?_
        refine yw_before hls hln ht hL _ hE hN ?_
        cases hb : en_bf (en_w L t) i N with
        | false =>
          rw [en_ct_f (by simp only [hE, hb, Bool.and_false])] at IH
          exact br_t (show en_b false = 0 by decide) (nm_r (nI_1 i) IH)
        | true =>
          rw [en_ct_t (by simp only [hE, hb, Bool.and_true])] at IH
          exact br_f (show ¬ en_b true = 0 by decide) (nm_r (nI_1 _) (nm_r (nI_1 i) IH))
  exact ⟨97, key 96 0 (by omega)⟩
theorem yw_ending (hls : en_Ls le t) (hln : en_Ln ln L) {l : List Nat} (hI : en_In L t l) (post : Int32 → Prop) (r : Int32) (hp : post (en_pk l 0 r)) : wpY_ending post (fz, le, ln, pa) r := by
  have h60 := en_In_60 hI
  obtain ⟨y1, y2⟩ := en_Yend hI.2.2.1 (en_In_perm hI) (by omega) r
  have key : ∀ (d i : Nat), i + d = 96 → (∀ j, j < i → en_E L j = true → nI (en_cb (en_w L t) (en_E L) j) ≠ r) → wY_ending_2 post r fz le ln pa (d + 1) (nI i) := by
    intro d
    induction d with
    | zero =>
      intro i hi hno
      have hi' : i = 96 := by omega
      subst hi'
      rw [← y2 hno] at hp
      exact br_t (nI_le (a := 96) (by decide) (by decide)) hp
    | succ d ih =>
      intro i hi hno
      refine br_f (nI_ge (b := 96) (by omega) (by decide)) ?_
      refine yw_isE hln hI.2.1 _ (by omega) ?_
      cases hE : en_E L i with
      | false =>
        refine br_t (show en_b false = 0 by decide) (nm_r (nI_1 i) (ih (i + 1) (by omega) ?_))
        intro j hj hEj
        by_cases e : j = i
        · rw [e, hE] at hEj; cases hEj
        · exact hno j (by omega) hEj
      | true =>
        refine br_f (show ¬ en_b true = 0 by decide) ?_
        refine yw_rankOf hls hln hI.1 hI.2.1 _ hE ?_
        by_cases z : nI (en_cb (en_w L t) (en_E L) i) = r
        · rw [← y1 i (by omega) hE z] at hp
          exact br_t z hp
        · refine br_f z (nm_r (nI_1 i) (ih (i + 1) (by omega) ?_))
          intro j hj hEj
          by_cases e : j = i
          · rw [e]; exact z
          · exact hno j (by omega) hEj
  exact ⟨97, key 96 0 (by omega) (fun j hj => by omega)⟩
theorem yw_rank (hls : en_Ls le t) (hln : en_Ln ln L) {l : List Nat} (hI : en_In L t l) (post : Int32 → Prop) (v : Int32) (hp : post (en_ix l 0 v)) : wpY_rank post (fz, le, ln, pa) v := by
  obtain ⟨y1, y2⟩ := en_Yrank hI.2.2.1 (en_In_perm hI)
  unfold wpY_rank
  dsimp only
  refine yw_isEnding hln hI.2.1 _ v (fun h => ?_) (fun n hn hE e => ?_)
  · rw [← y2 v h] at hp
    exact br_t rfl hp
  · subst e
    rw [← y1 n hn hE] at hp
    refine br_f (by decide) ?_
    exact yw_rankOf hls hln hI.1 hI.2.1 _ hE hp
theorem yw_known (hls : en_Ls le t) (hln : en_Ln ln L) (ht : ∀ n, t n < 4) (hL : ∀ s, L s ≤ 9) (post : Int32 → Prop) {N : Nat} (hN : en_E L N = true) (hp : post (nI (en_K (en_w L t) (en_S (en_E L) N) N))) : wpY_known post (fz, le, ln, pa) (nI N) := by
  have bN := en_E_b hL hN
  have hwN : (en_w L t N).length ≤ 9 := by rw [en_w_len]; exact bN.2.2.1
  have key : ∀ (d i : Nat), i + d = N → wY_known_4 post (nI N) fz le ln pa (d + 1) (nI (en_K (en_w L t) (en_S (en_E L) i) N)) (nI i) := by
    intro d
    induction d with
    | zero =>
      intro i hi
      have hi' : i = N := by omega
      subst hi'
      exact br_t (nI_le (Nat.le_refl _) (by omega)) hp
    | succ d ih =>
      intro i hi
      refine br_f (nI_ge (by omega) (by omega)) ?_
      refine yw_isE hln hL _ (by omega) ?_
      have IH := ih (i + 1) (by omega)
      cases hE : en_E L i with
      | false =>
        rw [en_S_f hE] at IH
        exact br_t (show en_b false = 0 by decide) (nm_r (nI_1 i) IH)
      | true =>
        rw [en_S_t hE] at IH
        refine br_f (show ¬ en_b true = 0 by decide) ?_
        refine yw_shared hls hln ht hL _ hE hN ?_
        have ed : en_K (en_w L t) (i :: en_S (en_E L) i) N = max (en_cp (en_w L t i) (en_w L t N)) (en_K (en_w L t) (en_S (en_E L) i) N) := rfl
        have h1 := (en_cp_le (en_w L t i) (en_w L t N)).2
        have h2 := en_K_le (w := en_w L t) (S := en_S (en_E L) i) hwN
        generalize en_cp (en_w L t i) (en_w L t N) = cp at *
        refine pk_le cp (en_K (en_w L t) (en_S (en_E L) i) N) (fun z => ?_) (fun z => ?_)
        · refine nm_r (nI_1 i) ?_
          rw [show en_K (en_w L t) (i :: en_S (en_E L) i) N = en_K (en_w L t) (en_S (en_E L) i) N from by omega] at IH
          exact IH
        · refine nm_r (nI_1 i) ?_
          rw [show en_K (en_w L t) (i :: en_S (en_E L) i) N = cp from by omega] at IH
          exact IH
  exact ⟨N + 1, key N 0 (by omega)⟩
theorem yw_distinct (hls : en_Ls le t) (hln : en_Ln ln L) (ht : ∀ n, t n < 4) (hL : ∀ s, L s ≤ 9) (post : Int32 → Prop) (hp : post (en_Dr (en_w L t) (en_S (en_E L) 96))) : wpY_distinct post (fz, le, ln, pa) := by
  have key : ∀ (d i : Nat), i + d = 96 → wY_distinct_4 post fz le ln pa (d + 1) (en_Dr (en_w L t) (en_S (en_E L) i)) (nI i) := by
    intro d
    induction d with
    | zero =>
      intro i hi
      have hi' : i = 96 := by omega
      subst hi'
      exact br_t (nI_le (a := 96) (by decide) (by decide)) hp
    | succ d ih =>
      intro i hi
      refine br_f (nI_ge (b := 96) (by omega) (by decide)) ?_
      refine yw_isE hln hL _ (by omega) ?_
      have IH := ih (i + 1) (by omega)
      cases hE : en_E L i with
      | false =>
        rw [en_S_f hE] at IH
        exact br_t (show en_b false = 0 by decide) (nm_r (nI_1 i) IH)
      | true =>
        rw [en_S_t hE] at IH
        have bi := en_E_b hL hE
        have ed : en_Dr (en_w L t) (i :: en_S (en_E L) i) = en_Dr (en_w L t) (en_S (en_E L) i) + nI (en_w L t i).length - nI (en_K (en_w L t) (en_S (en_E L) i) i) := rfl
        rw [en_w_len] at ed
        rw [ed] at IH
        refine br_f (show ¬ en_b true = 0 by decide) ?_
        refine yw_size hln _ bi.1 bi.2.1 ?_
        refine yw_known hls hln ht hL _ hE ?_
        exact nm_e (nm_r (nI_1 i) IH)
  exact ⟨97, key 96 0 (by omega)⟩
theorem yw_repeated (hls : en_Ls le t) (hln : en_Ln ln L) (ht : ∀ n, t n < 4) (hL : ∀ s, L s ≤ 9) (post : Int32 → Prop) (hp : post (nI (en_Rr (en_w L t) (en_S (en_E L) 96)))) : wpY_repeated post (fz, le, ln, pa) := by
  have key : ∀ (d i : Nat), i + d = 96 → wY_repeated_4 post fz le ln pa (d + 1) (nI (en_Rr (en_w L t) (en_S (en_E L) i))) (nI i) := by
    intro d
    induction d with
    | zero =>
      intro i hi
      have hi' : i = 96 := by omega
      subst hi'
      exact br_t (nI_le (a := 96) (by decide) (by decide)) hp
    | succ d ih =>
      intro i hi
      refine br_f (nI_ge (b := 96) (by omega) (by decide)) ?_
      refine yw_isE hln hL _ (by omega) ?_
      have IH := ih (i + 1) (by omega)
      cases hE : en_E L i with
      | false =>
        rw [en_S_f hE] at IH
        exact br_t (show en_b false = 0 by decide) (nm_r (nI_1 i) IH)
      | true =>
        rw [en_S_t hE] at IH
        have bi := en_E_b hL hE
        have ed : en_Rr (en_w L t) (i :: en_S (en_E L) i) = max (en_K (en_w L t) (en_S (en_E L) i) i) (en_Rr (en_w L t) (en_S (en_E L) i)) := rfl
        have h1 : en_K (en_w L t) (en_S (en_E L) i) i ≤ 9 := en_K_le (by rw [en_w_len]; exact bi.2.2.1)
        have h2 : en_Rr (en_w L t) (en_S (en_E L) i) ≤ 9 := by
          apply en_Rr_le
          intro v hv
          rw [en_w_len]
          exact (en_E_b hL (en_S_mem hv).2).2.2.1
        refine br_f (show ¬ en_b true = 0 by decide) ?_
        refine yw_known hls hln ht hL _ hE ?_
        refine pk_le (en_K (en_w L t) (en_S (en_E L) i) i) (en_Rr (en_w L t) (en_S (en_E L) i)) (fun z => ?_) (fun z => ?_)
        · refine nm_r (nI_1 i) ?_
          rw [show en_Rr (en_w L t) (i :: en_S (en_E L) i) = en_Rr (en_w L t) (en_S (en_E L) i) from by omega] at IH
          exact IH
        · refine nm_r (nI_1 i) ?_
          rw [show en_Rr (en_w L t) (i :: en_S (en_E L) i) = en_K (en_w L t) (en_S (en_E L) i) i from by omega] at IH
          exact IH
  exact ⟨97, key 96 0 (by omega)⟩
theorem yw_endings (hln : en_Ln ln L) (hL : ∀ s, L s ≤ 9) (post : Int32 → Prop) (hp : post (nI (en_sm L 6))) : wpY_endings post (fz, le, ln, pa) := by
  have key : ∀ (d i : Nat), i + d = 6 → wY_endings_4 post fz le ln pa (d + 1) (nI (en_sm L i)) (nI i) := by
    intro d
    induction d with
    | zero =>
      intro i hi
      have hi' : i = 6 := by omega
      subst hi'
      exact br_t (nI_le (a := 6) (by decide) (by decide)) hp
    | succ d ih =>
      intro i hi
      have hin : vp_in (nI i) 7 := vp_in_nI (by omega) (by decide)
      have ec : (nI i).toNatClampNeg = i := nI_clamp (by omega)
      have e4 : ln i = nI (L i) := hln i (by omega)
      have hb := hL i
      have IH := ih (i + 1) (by omega)
      refine br_f (nI_ge (b := 6) (by omega) (by decide)) ⟨hin, ?_⟩
      rw [ec, e4]
      refine pk_le (L i) 0 (fun z => ?_) (fun z => ⟨hin, ?_⟩)
      · refine nm_r (nI_1 i) ?_
        rw [show en_sm L (i + 1) = en_sm L i from if_neg (by omega)] at IH
        exact IH
      · refine nm_r ?_ (nm_r (nI_1 i) IH)
        rw [show en_sm L (i + 1) = en_sm L i + L i + 1 from if_pos z, nI_add, nI_1]
  exact ⟨7, key 6 0 (by omega)⟩
end
