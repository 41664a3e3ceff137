/-! the reference's pattern -/
theorem en_kx (q : Nat) : ∃ k, q / 4 ^ k ≤ 1 ∧ ∀ i, i < k → 1 < q / 4 ^ i := by
  have hex : ∃ k, q / 4 ^ k ≤ 1 := ⟨q, by
    have : q < 4 ^ q := Nat.lt_pow_self (by decide)
    rw [Nat.div_eq_of_lt this]
    exact Nat.zero_le _⟩
  obtain ⟨n, hn⟩ := hex
  induction n using Nat.strongRecOn with
  | ind n ih =>
    by_cases h : ∃ j, j < n ∧ q / 4 ^ j ≤ 1
    · obtain ⟨j, hj, hq⟩ := h
      exact ih j hj hq
    · refine ⟨n, hn, fun i hi => ?_⟩
      apply Nat.lt_of_not_le
      intro z
      exact h ⟨i, hi, z⟩
theorem en_d4 {n : Nat} (h : n < 2 ^ 31) : nI n / 4 = nI (n / 4) := pk_div (d := 4) h (by decide) (by decide)
theorem en_m4 {n : Nat} (h : n < 2 ^ 31) : nI n - nI n / 4 * 4 = nI (n % 4) := pk_rem (d := 4) h (by decide) (by decide)
theorem en_n4 : ¬ (4 : Int32) = 0 := by decide
theorem en_pd_lt (q sz i : Nat) : en_pd q sz i < 4 := Nat.mod_lt _ (by decide)
section
variable {fz : Int32} {t L : Nat → Nat} {le ln pa : Nat → Int32}
theorem yw_t52 (post : Int32 → SY → Prop) {q k : Nat} (hq : q < 2 ^ 31) (hk : k ≤ 8)
    (hp : ∀ pa', (∀ i, i < k → pa' i = nI (en_pd q k i)) → (nI (q / 4 ^ k) = 1 → post 1 (nI k, le, ln, pa')) ∧ (¬ nI (q / 4 ^ k) = 1 → post 0 (nI k, le, ln, pa'))) :
    ∀ (j : Nat) (pa : Nat → Int32), j ≤ k → (∀ i, j ≤ i → i < k → pa i = nI (en_pd q k i)) → wY_take_52 post (nI k) (j + 1) (nI (q / 4 ^ (k - j))) (nI j - 1) le ln pa := by
  intro j
  induction j with
  | zero =>
    intro pa hj hpa
    refine br_t (by decide) ?_
    exact hp pa (fun i hi => hpa i (by omega) hi)
  | succ j ih =>
    intro pa hj hpa
    have h1 : q / 4 ^ (k - (j + 1)) ≤ q := Nat.div_le_self _ _
    have e1 : q / 4 ^ (k - j) = q / 4 ^ (k - (j + 1)) / 4 := by
      rw [show k - j = k - (j + 1) + 1 from by omega, Nat.pow_succ, ← Nat.div_div_eq_div_mul]
    have e2 : en_pd q k j = q / 4 ^ (k - (j + 1)) % 4 := by
      unfold en_pd
      rw [show k - 1 - j = k - (j + 1) from by omega]
    rw [nI_pred]
    refine br_f (nI_pos (by omega)) ⟨en_n4, vp_in_nI (by omega) (by decide), nm_e ⟨en_n4, nm_r (en_d4 (by omega)) (nm_r (Int32.sub_eq_add_neg _ _).symm ?_)⟩⟩
    rw [en_m4 (by omega), ← e2, ← e1, nI_clamp (by omega)]
    refine ih _ (by omega) ?_
    intro i hi1 hi2
    by_cases e : i = j
    · rw [e]; exact if_pos rfl
    · exact (if_neg e).trans (hpa i (by omega) hi2)
theorem yw_t7 (post : Int32 → SY → Prop) {q k : Nat} (hq : q < 2 ^ 31) (hk1 : q / 4 ^ k ≤ 1) (hk2 : ∀ i, i < k → 1 < q / 4 ^ i)
    (hfin : wY_take_7 post (nI q) le ln pa 1 (nI (q / 4 ^ k)) (nI k)) :
    ∀ (d i : Nat), i + d = k → wY_take_7 post (nI q) le ln pa (d + 1) (nI (q / 4 ^ i)) (nI i) := by
  intro d
  induction d with
  | zero =>
    intro i hi
    have hi' : i = k := by omega
    subst hi'
    exact hfin
  | succ d ih =>
    intro i hi
    have h1 : q / 4 ^ i ≤ q := Nat.div_le_self _ _
    have h2 := hk2 i (by omega)
    refine br_f (nI_ge (a := 1) h2 (by omega)) (nm_r (nI_1 i) ⟨en_n4, nm_r (en_d4 (by omega)) ?_⟩)
    rw [Nat.div_div_eq_div_mul, ← Nat.pow_succ]
    exact ih (i + 1) (by omega)
theorem yw_take (post : Int32 → SY → Prop) {p : Int32} (hy : ∀ q sz, en_V p q sz → ∀ pa', (∀ i, i < sz → pa' i = nI (en_pd q sz i)) → post 1 (nI sz, le, ln, pa'))
    (hn : (∀ q sz, sz ≤ 6 → p = nI q → q < 2 ^ 31 → q / 4 ^ sz ≠ 1) → ∀ fz' pa', post 0 (fz', le, ln, pa')) : wpY_take post (fz, le, ln, pa) p := by
  by_cases hp : p < 0
  · have h0 : ∀ q sz, sz ≤ 6 → p = nI q → q < 2 ^ 31 → q / 4 ^ sz ≠ 1 := by
      intro q sz _ e hq _
      rw [e] at hp
      exact nI_pos hq hp
    have h1 : p ≤ 1 := Int32.le_of_lt (Int32.lt_trans hp (by decide))
    have h2 : p < 1 := Int32.lt_trans hp (by decide)
    exact ⟨1, br_t h1 (br_t h2 (hn h0 _ _))⟩
  · obtain ⟨q, hq, e⟩ := nI_of hp
    subst e
    obtain ⟨k, hk1, hk2⟩ := en_kx q
    have hkle : q / 4 ^ k ≤ q := Nat.div_le_self _ _
    refine ⟨k + 1, ?_⟩
    have e0 : nI q = nI (q / 4 ^ 0) := by rw [Nat.pow_zero, Nat.div_one]
    have main : wY_take_7 post (nI q) le ln pa (k + 1) (nI (q / 4 ^ 0)) (nI 0) := by
      refine yw_t7 post hq hk1 hk2 ?_ k 0 (by omega)
      refine br_t (nI_le (b := 1) hk1 (by decide)) ?_
      refine pk_lt q 1 (fun z => ?_) (fun z => ?_)
      · refine hn ?_ _ _
        intro q' sz _ e hq' h1
        rw [nI_eq hq hq'] at e
        rw [← e, show q = 0 from by omega, Nat.zero_div] at h1
        omega
      · refine pk_le q 8191 (fun y => ?_) (fun y => ?_)
        · have hk6 : k ≤ 6 := by
            apply Nat.le_of_not_lt
            intro x
            have := hk2 6 x
            have h3 : q / 4 ^ 6 = q / 4096 := rfl
            omega
          refine nm_e ⟨k + 1, ?_⟩
          have h52 := yw_t52 (le := le) (ln := ln) post hq (k := k) (by omega) (fun pa' hpa => ?_) k pa (Nat.le_refl _) (fun i h1 h2 => by omega)
          · rw [Nat.sub_self, Nat.pow_zero, Nat.div_one] at h52
            exact h52
          · refine pk_eq (q / 4 ^ k) 1 (fun x => hy q k ⟨hk6, x, rfl⟩ pa' hpa) (fun x => hn ?_ _ _)
            intro q' sz h6 e hq' h1
            rw [nI_eq hq hq'] at e
            subst e
            have hlt : ¬ sz < k := by
              intro y
              have := hk2 sz y
              omega
            have hgt : ¬ k < sz := by
              intro y
              have := en_pre h1 y
              omega
            have : sz = k := by omega
            rw [this] at h1
            exact x h1
        · refine hn ?_ _ _
          intro q' sz h6 e hq' h1
          rw [nI_eq hq hq'] at e
          subst e
          have := en_V_lt h6 h1
          omega
    rw [← e0] at main
    exact main
theorem yw_stands (hls : en_Ls le t) (hln : en_Ln ln L) (ht : ∀ n, t n < 4) (hL : ∀ s, L s ≤ 9) {pd : Nat → Nat} {sz : Nat} (h8 : sz ≤ 8) (hpa : ∀ i, i < sz → pa i = nI (pd i)) (hpd : ∀ i, pd i < 4) (post : Int32 → Prop) {n : Nat} (hn : n < 96) (h : post (en_b (en_sb L t pd sz n))) : wpY_stands post (nI sz, le, ln, pa) (nI n) := by
  unfold wpY_stands
  dsimp only
  refine yw_isE hln hL _ hn ?_
  cases hE : en_E L n with
  | false =>
    refine br_t (show en_b false = 0 by decide) (en_p0 h ?_)
    rw [Bool.eq_false_iff]
    intro z
    have := en_sb_E z
    rw [hE] at this
    cases this
  | true =>
    have bn := en_E_b hL hE
    refine br_f (show ¬ en_b true = 0 by decide) ?_
    refine yw_size hln _ bn.1 bn.2.1 ?_
    refine pk_le sz (en_ln L n) (fun z => ⟨sz + 1, ?_⟩) (fun z => ?_)
    · have key : ∀ (d j : Nat), j + d = sz → (∀ i, i < j → t (n + i) = pd i) → wY_stands_24 post (nI n) (nI sz) le ln pa (d + 1) (nI j) := by
        intro d
        induction d with
        | zero =>
          intro j hj hall
          have hj' : j = sz := by omega
          subst hj'
          exact br_t (nI_le (Nat.le_refl _) (by omega)) (en_p1 h (en_sb_iff.mpr ⟨hE, z, hall⟩))
        | succ d ih =>
          intro j hj hall
          have ec : (nI j).toNatClampNeg = j := nI_clamp (by omega)
          refine br_f (nI_ge (by omega) (by omega)) ?_
          refine yw_let hls _ hn (by omega) ?_
          refine ⟨vp_in_nI (by omega) (by decide), ?_⟩
          rw [ec, hpa j (by omega)]
          have h4 := ht (n + j)
          have h5 := hpd j
          refine pk_eq (t (n + j)) (pd j) (fun y => ?_) (fun y => en_p0 h ?_)
          · refine nm_r (nI_1 j) (ih (j + 1) (by omega) ?_)
            intro i hi
            by_cases e : i = j
            · rw [e]; exact y
            · exact hall i (by omega)
          · rw [Bool.eq_false_iff]
            intro x
            exact y ((en_sb_iff.mp x).2.2 j (by omega))
      exact key sz 0 (by omega) (fun i hi => by omega)
    · refine en_p0 h ?_
      rw [Bool.eq_false_iff]
      intro x
      have := (en_sb_iff.mp x).2.1
      omega
theorem yw_countNow (hls : en_Ls le t) (hln : en_Ln ln L) (ht : ∀ n, t n < 4) (hL : ∀ s, L s ≤ 9) {pd : Nat → Nat} {sz : Nat} (h8 : sz ≤ 8) (hpa : ∀ i, i < sz → pa i = nI (pd i)) (hpd : ∀ i, pd i < 4) (post : Int32 → Prop) (hp : post (nI (en_ct (en_sb L t pd sz) 96))) : wpY_countNow post (nI sz, le, ln, pa) := by
  have key : ∀ (d i : Nat), i + d = 96 → wY_countNow_4 post (nI sz) le ln pa (d + 1) (nI (en_ct (en_sb L t pd sz) i)) (nI i) := by
    intro d
    induction d with
    | zero =>
      intro i hi
      have hi' : i = 96 := by omega
      subst hi'
      exact br_t (nI_le (a := 96) (by decide) (by decide)) hp
    | succ d ih =>
      intro i hi
      refine br_f (nI_ge (b := 96) (by omega) (by decide)) ?_
      refine yw_stands hls hln ht hL h8 hpa hpd _ (by omega) ?_
      have IH := ih (i + 1) (by omega)
      cases hS : en_sb L t pd sz i with
      | false =>
        rw [en_ct_f hS] at IH
        exact br_t (show en_b false = 0 by decide) (nm_r (nI_1 i) IH)
      | true =>
        rw [en_ct_t hS] at IH
        exact br_f (show ¬ en_b true = 0 by decide) (nm_r (nI_1 _) (nm_r (nI_1 i) IH))
  exact ⟨97, key 96 0 (by omega)⟩
theorem yw_slots (hls : en_Ls le t) (hln : en_Ln ln L) (ht : ∀ n, t n < 4) (hL : ∀ s, L s ≤ 9) {pd : Nat → Nat} {sz : Nat} (h8 : sz ≤ 8) (hpa : ∀ i, i < sz → pa i = nI (pd i)) (hpd : ∀ i, pd i < 4) (post : Int32 → SY → Prop) (hp : post (en_or (en_sb L t pd sz) (fun n => en_sh (n / 16)) 96) (nI sz, le, ln, pa)) :
    ∀ (d i : Nat), i + d = 96 → wY_slots_14 post (nI sz) le ln pa (d + 1) (en_or (en_sb L t pd sz) (fun n => en_sh (n / 16)) i) (nI i) := by
  intro d
  induction d with
  | zero =>
    intro i hi
    have hi' : i = 96 := by omega
    subst hi'
    exact br_t (nI_le (a := 96) (by decide) (by decide)) hp
  | succ d ih =>
    intro i hi
    refine br_f (nI_ge (b := 96) (by omega) (by decide)) ?_
    refine yw_stands hls hln ht hL h8 hpa hpd _ (by omega) ?_
    have IH := ih (i + 1) (by omega)
    cases hS : en_sb L t pd sz i with
    | false =>
      rw [show en_or (en_sb L t pd sz) (fun n => en_sh (n / 16)) (i + 1) = en_or (en_sb L t pd sz) (fun n => en_sh (n / 16)) i from if_neg (by rw [hS]; decide)] at IH
      exact br_t (show en_b false = 0 by decide) (nm_r (nI_1 i) IH)
    | true =>
      rw [show en_or (en_sb L t pd sz) (fun n => en_sh (n / 16)) (i + 1) = en_or (en_sb L t pd sz) (fun n => en_sh (n / 16)) i ||| en_sh (i / 16) from if_pos hS] at IH
      refine br_f (show ¬ en_b true = 0 by decide) ⟨en_n16, nm_r ?_ (nm_r (nI_1 i) IH)⟩
      rw [en_d16 (by omega)]
      rfl
theorem yw_p32 (hls : en_Ls le t) (hln : en_Ln ln L) (ht : ∀ n, t n < 4) (hL : ∀ s, L s ≤ 9) {pd : Nat → Nat} {sz : Nat} (h8 : sz ≤ 8) (hpa : ∀ i, i < sz → pa i = nI (pd i)) (hpd : ∀ i, pd i < 4) (post : Int32 → SY → Prop) (J : Int32 → Prop) (k : Int32) {N : Nat} (hN : en_E L N = true)
    (h1 : nI (en_cb (en_w L t) (en_sb L t pd sz) N) = k → post (nI N) (nI sz, le, ln, pa)) (h2 : ¬ nI (en_cb (en_w L t) (en_sb L t pd sz) N) = k → J (nI (N + 1))) :
    ∀ (d i : Nat), i + d = 96 → wY_place_32 post J k (nI N) (nI sz) le ln pa (d + 1) (nI (en_ct (fun x => en_sb L t pd sz x && en_bf (en_w L t) x N) i)) (nI i) := by
  intro d
  induction d with
  | zero =>
    intro i hi
    have hi' : i = 96 := by omega
    subst hi'
    exact br_t (nI_le (a := 96) (by decide) (by decide)) ⟨h1, fun z => nm_r (nI_1 N) (h2 z)⟩
  | succ d ih =>
    intro i hi
    refine br_f (nI_ge (b := 96) (by omega) (by decide)) ?_
    refine yw_stands hls hln ht hL h8 hpa hpd _ (by omega) ?_
    have IH := ih (i + 1) (by omega)
    cases hS : en_sb L t pd sz i with
    | false =>
      rw [en_ct_f (by simp only [hS, Bool.false_and])] at IH
      exact br_t (show en_b false = 0 by decide) (nm_r (nI_1 i) IH)
    | true =>
      refine br_f (show ¬ en_b true = 0 by decide) ?_
      refine yw_before hls hln ht hL _ (en_sb_E hS) hN ?_
      cases hb : en_bf (en_w L t) i N with
      | false =>
        rw [en_ct_f (by simp only [hS, hb, Bool.and_false])] at IH
        exact br_t (show en_b false = 0 by decide) (nm_r (nI_1 i) IH)
      | true =>
        rw [en_ct_t (by simp only [hS, hb, Bool.and_true])] at IH
        exact br_f (show ¬ en_b true = 0 by decide) (nm_r (nI_1 _) (nm_r (nI_1 i) IH))
theorem yw_p12 (hls : en_Ls le t) (hln : en_Ln ln L) (ht : ∀ n, t n < 4) (hL : ∀ s, L s ≤ 9) {pd : Nat → Nat} {sz : Nat} (h8 : sz ≤ 8) (hpa : ∀ i, i < sz → pa i = nI (pd i)) (hpd : ∀ i, pd i < 4) (post : Int32 → SY → Prop) (k : Int32)
    (h1 : ∀ j, j < 96 → en_sb L t pd sz j = true → nI (en_cb (en_w L t) (en_sb L t pd sz) j) = k → post (nI j) (nI sz, le, ln, pa)) (h2 : (∀ j, j < 96 → en_sb L t pd sz j = true → nI (en_cb (en_w L t) (en_sb L t pd sz) j) ≠ k) → post (-4) (nI sz, le, ln, pa)) :
    ∀ (d i : Nat), i + d = 96 → (∀ j, j < i → en_sb L t pd sz j = true → nI (en_cb (en_w L t) (en_sb L t pd sz) j) ≠ k) → wY_place_12 post k (nI sz) le ln pa (d + 1) (nI i) := by
  intro d
  induction d with
  | zero =>
    intro i hi hno
    have hi' : i = 96 := by omega
    subst hi'
    exact br_t (nI_le (a := 96) (by decide) (by decide)) (h2 hno)
  | succ d ih =>
    intro i hi hno
    refine br_f (nI_ge (b := 96) (by omega) (by decide)) ?_
    refine yw_stands hls hln ht hL h8 hpa hpd _ (by omega) ?_
    cases hS : en_sb L t pd sz i with
    | false =>
      refine br_t (show en_b false = 0 by decide) (nm_r (nI_1 i) (ih (i + 1) (by omega) ?_))
      intro j hj hSj
      by_cases e : j = i
      · rw [e, hS] at hSj; cases hSj
      · exact hno j (by omega) hSj
    | true =>
      refine br_f (show ¬ en_b true = 0 by decide) ⟨97, ?_⟩
      refine yw_p32 hls hln ht hL h8 hpa hpd post _ k (en_sb_E hS) (fun z => h1 i (by omega) hS z) (fun z => ih (i + 1) (by omega) ?_) 96 0 (by omega)
      intro j hj hSj
      by_cases e : j = i
      · rw [e]; exact z
      · exact hno j (by omega) hSj
theorem en_Y_t {b : Nat → Bool} {k : Nat} (h : b k = true) : en_Y b (k + 1) = en_Y b k ||| en_sh k := if_pos h
theorem en_Y_f {b : Nat → Bool} {k : Nat} (h : b k = false) : en_Y b (k + 1) = en_Y b k := if_neg (by rw [h]; decide)
theorem yw_after (hls : en_Ls le t) (hln : en_Ln ln L) (ht : ∀ n, t n < 4) (hL : ∀ s, L s ≤ 9) {pd : Nat → Nat} {sz : Nat} (h6 : sz ≤ 6) (hpd : ∀ i, pd i < 4) (post : Int32 → SY → Prop) (hp : ∀ pa', post (en_Y (fun k => decide (0 < en_ct (en_sb L t (en_pa pd sz k) (sz + 1)) 96)) 4) (nI (sz + 1), le, ln, pa')) :
    ∀ (d k : Nat) (pa : Nat → Int32), k + d = 4 → (∀ i, i < sz → pa i = nI (pd i)) → wY_after_24 post (nI (sz + 1)) (d + 1) (en_Y (fun k => decide (0 < en_ct (en_sb L t (en_pa pd sz k) (sz + 1)) 96)) k) (nI k) le ln pa := by
  intro d
  induction d with
  | zero =>
    intro k pa hk _
    have hk' : k = 4 := by omega
    subst hk'
    exact br_t (nI_le (a := 4) (by decide) (by decide)) (hp pa)
  | succ d ih =>
    intro k pa hk hpa
    have e1 : nI (sz + 1) - 1 = nI sz := nI_pred sz
    refine br_f (nI_ge (b := 4) (by omega) (by decide)) ?_
    rw [e1]
    refine ⟨vp_in_nI (by omega) (by decide), nm_e ?_⟩
    rw [nI_clamp (by omega)]
    have hpa2 : ∀ i, i < sz → upd pa sz (nI k) i = nI (pd i) := fun i hi => (if_neg (by omega)).trans (hpa i hi)
    have hpa3 : ∀ i, i < sz + 1 → upd pa sz (nI k) i = nI (en_pa pd sz k i) := by
      intro i hi
      unfold upd en_pa
      by_cases e : i = sz
      · rw [if_pos e, if_pos e]
      · rw [if_neg e, if_neg e]; exact hpa i (by omega)
    have hpd3 : ∀ i, en_pa pd sz k i < 4 := by
      intro i
      unfold en_pa
      split
      · omega
      · exact hpd i
    have IH := ih (k + 1) (upd pa sz (nI k)) (by omega) hpa2
    have hct := en_ct_le (en_sb L t (en_pa pd sz k) (sz + 1)) 96
    refine yw_countNow hls hln ht hL (by omega) hpa3 hpd3 _ ?_
    refine pk_le (en_ct (en_sb L t (en_pa pd sz k) (sz + 1)) 96) 0 (fun z => ?_) (fun z => ?_)
    · rw [en_Y_f (decide_eq_false (by omega))] at IH
      exact nm_r (nI_1 k) IH
    · rw [en_Y_t (decide_eq_true z)] at IH
      exact nm_e (nm_r (nI_1 k) IH)
theorem yw_b53 (hls : en_Ls le t) (hln : en_Ln ln L) (ht : ∀ n, t n < 4) (hL : ∀ s, L s ≤ 9) {pd : Nat → Nat} {sz : Nat} (h6 : sz ≤ 6) (hpd : ∀ i, pd i < 4) (post : Int32 → SY → Prop) (hp : ∀ pa', post (en_Y (fun k => decide (0 < en_ct (en_sb L t (en_pb pd k) (sz + 1)) 96)) 4) (nI (sz + 1), le, ln, pa')) :
    ∀ (d k : Nat) (pa : Nat → Int32), k + d = 4 → (∀ i, i < sz → pa (i + 1) = nI (pd i)) → wY_before_53 post (nI (sz + 1)) (d + 1) (en_Y (fun k => decide (0 < en_ct (en_sb L t (en_pb pd k) (sz + 1)) 96)) k) (nI k) le ln pa := by
  intro d
  induction d with
  | zero =>
    intro k pa hk _
    have hk' : k = 4 := by omega
    subst hk'
    exact br_t (nI_le (a := 4) (by decide) (by decide)) (hp pa)
  | succ d ih =>
    intro k pa hk hpa
    refine br_f (nI_ge (b := 4) (by omega) (by decide)) (nm_e ?_)
    have hpa2 : ∀ i, i < sz → upd pa 0 (nI k) (i + 1) = nI (pd i) := fun i hi => (if_neg (by omega)).trans (hpa i hi)
    have hpa3 : ∀ i, i < sz + 1 → upd pa 0 (nI k) i = nI (en_pb pd k i) := by
      intro i hi
      unfold upd en_pb
      by_cases e : i = 0
      · rw [if_pos e, if_pos e]
      · rw [if_neg e, if_neg e]
        have := hpa (i - 1) (by omega)
        rw [show i - 1 + 1 = i from by omega] at this
        exact this
    have hpd3 : ∀ i, en_pb pd k i < 4 := by
      intro i
      unfold en_pb
      split
      · omega
      · exact hpd (i - 1)
    have IH := ih (k + 1) (upd pa 0 (nI k)) (by omega) hpa2
    have hct := en_ct_le (en_sb L t (en_pb pd k) (sz + 1)) 96
    refine yw_countNow hls hln ht hL (by omega) hpa3 hpd3 _ ?_
    refine pk_le (en_ct (en_sb L t (en_pb pd k) (sz + 1)) 96) 0 (fun z => ?_) (fun z => ?_)
    · rw [en_Y_f (decide_eq_false (by omega))] at IH
      exact nm_r (nI_1 k) IH
    · rw [en_Y_t (decide_eq_true z)] at IH
      exact nm_e (nm_r (nI_1 k) IH)
theorem yw_b15 (hls : en_Ls le t) (hln : en_Ln ln L) (ht : ∀ n, t n < 4) (hL : ∀ s, L s ≤ 9) {pd : Nat → Nat} {sz : Nat} (h6 : sz ≤ 6) (hpd : ∀ i, pd i < 4) (post : Int32 → SY → Prop) (hp : ∀ pa', post (en_Y (fun k => decide (0 < en_ct (en_sb L t (en_pb pd k) (sz + 1)) 96)) 4) (nI (sz + 1), le, ln, pa')) :
    ∀ (j : Nat) (pa : Nat → Int32), j ≤ sz → (∀ i, i < j → pa i = nI (pd i)) → (∀ i, j ≤ i → i < sz → pa (i + 1) = nI (pd i)) → wY_before_15 post (nI sz) (j + 1) (nI j) le ln pa := by
  intro j
  induction j with
  | zero =>
    intro pa _ _ h2
    refine br_t (by decide) (nm_r (nI_1 sz) ⟨5, ?_⟩)
    exact yw_b53 hls hln ht hL h6 hpd post hp 4 0 pa (by omega) (fun i hi => h2 i (by omega) hi)
  | succ j ih =>
    intro pa hj h1 h2
    have e1 : nI (j + 1) - 1 = nI j := nI_pred j
    have ec : (nI j).toNatClampNeg = j := nI_clamp (by omega)
    have ec2 : (nI (j + 1)).toNatClampNeg = j + 1 := nI_clamp (by omega)
    refine br_f (nI_nle (by omega) (by omega)) ?_
    rw [e1, ec, ec2, h1 j (by omega)]
    refine ⟨vp_in_nI (by omega) (by decide), vp_in_nI (by omega) (by decide), nm_e (nm_r (pk_m1 j) ?_)⟩
    refine ih _ (by omega) ?_ ?_
    · intro i hi
      exact (if_neg (by omega)).trans (h1 i (by omega))
    · intro i hi1 hi2
      by_cases e : i = j
      · rw [e]; exact if_pos rfl
      · exact (if_neg (by omega)).trans (h2 i (by omega) hi2)
end
