/-! the component's changing methods -/
theorem en_last (p : List Nat) : p = [] ∨ ∃ p' x, p = p' ++ [x] := by
  rcases List.eq_nil_or_concat p with h | ⟨p', x, h⟩
  · exact Or.inl h
  · exact Or.inr ⟨p', x, by rw [h, List.concat_eq_append]⟩
section
variable {fd fc : Int32} {t L : Nat → Nat} {dr rk : Nat → Int32}
theorem xw_put (post : SX → Prop) {p q : List Nat} {n c : Nat} (hc : c < 60) (hpq : p.length + q.length = c) (a1 : en_At rk 0 p) (a2 : en_At rk (p.length + 1) q)
    (hp : ∀ rk', en_At rk' 0 (p ++ n :: q) → post (en_X fd (nI (c + 1)) t L dr rk')) :
    wX_rankEnding_45 post (nI n) (nI p.length) fd (nI c) (fun n => nI (t n)) (fun s => nI (L s)) dr rk := by
  refine ⟨vp_in_nI (by omega) (by decide), nm_e (nm_r (nI_1 c) ?_)⟩
  apply hp
  rw [nI_clamp (by omega), en_At_app, Nat.zero_add]
  refine ⟨en_At_lo p 0 (by omega) a1, if_pos rfl, en_At_hi q _ (by omega) a2⟩
theorem xw_rank5 (post : SX → Prop) (ht : ∀ n, t n < 4) (hL : ∀ s, L s ≤ 9) {l : List Nat} {n : Nat} (hn : en_E L n = true) (hnl : n ∉ l) (hl : ∀ x, x ∈ l → en_E L x = true) (hs : en_so (en_w L t) l) (hc : l.length < 60)
    (hp : ∀ p q rk', l = p ++ q → (∀ x, x ∈ p → en_bf (en_w L t) x n = true) → (∀ x, x ∈ q → en_bf (en_w L t) n x = true) → en_At rk' 0 (p ++ n :: q) → post (en_X fd (nI (l.length + 1)) t L dr rk')) :
    ∀ (m : Nat) (p q : List Nat) (rk : Nat → Int32), p.length = m → l = p ++ q → (∀ x, x ∈ q → en_bf (en_w L t) n x = true) → en_At rk 0 p → en_At rk (p.length + 1) q →
      wX_rankEnding_5 post (nI n) fd (nI l.length) (m + 1) (nI p.length) (fun n => nI (t n)) (fun s => nI (L s)) dr rk := by
  intro m
  induction m with
  | zero =>
    intro p q rk hm e hq a1 a2
    have e0 : p = [] := List.length_eq_zero_iff.mp hm
    subst e0
    refine br_t (by decide) ?_
    have hlen : ([] : List Nat).length + q.length = l.length := by rw [e]; simp
    exact xw_put post hc hlen a1 a2 (fun rk' h => hp [] q rk' e (fun x hx => by cases hx) hq h)
  | succ m ih =>
    intro p q rk hm e hq a1 a2
    rcases en_last p with h0 | ⟨p', x, h0⟩
    · rw [h0] at hm; cases hm
    · subst h0
      have hm' : p'.length = m := by simpa using hm
      have hlen : (p' ++ [x]).length + q.length = l.length := by rw [e]; exact (List.length_append).symm
      have hlen2 : (p' ++ [x]).length = p'.length + 1 := by simp
      have hx : x ∈ l := by rw [e]; simp
      rw [en_At_app, Nat.zero_add] at a1
      have hrx : rk p'.length = nI x := a1.2.1
      have hne : n ≠ x := fun z => hnl (by rw [z]; exact hx)
      have key : wX_rankEnding_5 post (nI n) fd (nI l.length) (m + 1 + 1) (nI (p'.length + 1)) (fun n => nI (t n)) (fun s => nI (L s)) dr rk := by
        refine br_f (nI_nle (by omega) (by omega)) ⟨?_, ?_⟩
        · rw [nI_pred]; exact vp_in_nI (by omega) (by decide)
        · have ec : (nI p'.length).toNatClampNeg = p'.length := nI_clamp (by omega)
          rw [nI_pred, ec, hrx]
          refine xw_before _ ht hL hn (hl x hx) ?_
          cases hb : en_bf (en_w L t) n x with
          | true =>
            refine br_f (show ¬ en_b true = 0 by decide) ⟨vp_in_nI (by omega) (by decide), vp_in_nI (by omega) (by decide), nm_e (nm_r (pk_m1 p'.length) ?_)⟩
            rw [nI_clamp (by omega)]
            refine ih p' (x :: q) _ hm' (by rw [e]; simp) ?_ (en_At_lo p' 0 (by omega) a1.1) ⟨if_pos rfl, ?_⟩
            · intro y hy
              rcases List.mem_cons.mp hy with z | z
              · rw [z]; exact hb
              · exact hq y z
            · refine en_At_hi q _ (by omega) ?_
              rw [hlen2] at a2
              exact a2
          | false =>
            refine br_t (show en_b false = 0 by decide) ?_
            rw [← hlen2]
            refine xw_put post hc hlen (en_At_app _ _ _ |>.mpr ⟨a1.1, by rw [Nat.zero_add]; exact a1.2⟩) a2 (fun rk' h => hp (p' ++ [x]) q rk' e ?_ hq h)
            have hxn : en_bf (en_w L t) x n = true := en_bf_tot hne hb
            intro y hy
            rw [List.mem_append] at hy
            rcases hy with hy | hy
            · have hs' := hs
              unfold en_so at hs'
              rw [e, List.append_assoc, List.pairwise_append] at hs'
              exact en_bf_tr (hs'.2.2 y hy x (by simp)) hxn
            · rw [List.mem_singleton] at hy
              rw [hy]; exact hxn
      rw [hlen2]
      exact key
theorem xw_ranks (post : SX → Prop) {s : Nat} (hp : ∀ l rk, en_In L t l → en_At rk 0 l → post (en_X fd (nI l.length) t L dr rk)) :
    ∀ (d i : Nat) (l : List Nat) (rk : Nat → Int32), i + d = L s + 1 → en_Ad L t s i l → en_At rk 0 l →
      wX_rankEndingsOf_9 post (nI s) (nI (L s)) (d + 1) (nI i) fd (nI l.length) (fun n => nI (t n)) (fun s => nI (L s)) dr rk := by
  intro d
  induction d with
  | zero =>
    intro i l rk hi hA a
    have hi' : i = L s + 1 := by omega
    subst hi'
    have := hA.2.1 s
    exact br_t (nI_lt (by omega) (by omega)) (hp l rk (en_Ad_end hA) a)
  | succ d ih =>
    intro i l rk hi hA a
    have h9 := hA.2.1 s
    have hnew := en_Ad_new hA (by omega)
    have h59 := en_Ad_59 hA (by omega)
    have h6 := hA.2.2.1
    refine br_f (nI_nlt (by omega) (by omega)) ?_
    have e : (16 : Int32) * nI s + nI i = nI (16 * s + i) := by
      rw [show (16 : Int32) = nI 16 from rfl, pk_mul, nI_add]
    rw [e]
    refine ⟨l.length + 1, ?_⟩
    refine xw_rank5 _ hA.1 hA.2.1 hnew.1 hnew.2 (fun x hx => en_Ad_E hA hx) hA.2.2.2.2.1 h59 ?_ l.length l [] rk rfl (by simp) (fun x hx => by cases hx) a trivial
    intro p q rk' el h1 h2 a'
    refine nm_r (nI_1 i) ?_
    have hlen : l.length + 1 = (p ++ (16 * s + i) :: q).length := by rw [el]; simp; omega
    rw [hlen]
    refine ih (i + 1) (p ++ (16 * s + i) :: q) rk' (by omega) ?_ a'
    rw [el] at hA
    exact en_Ad_step hA (by omega) h1 h2
theorem xw_move (post : SX → Prop) {D : Nat → Nat} {s dl : Nat} (hs : s < 6) (hd : dl ≤ 9) (hp : post (en_X (nI 0) fc (en_mv t D s dl) (en_up L s dl) (fun i => nI (D i)) rk)) :
    ∀ (d i : Nat), i + d = dl → wX_moveDraftTo_2 post (nI s) (nI dl) fc (d + 1) (nI i) (fun n => nI (en_mv t D s i n)) (fun s => nI (L s)) (fun i => nI (D i)) rk := by
  intro d
  induction d with
  | zero =>
    intro i hi
    have hi' : i = dl := by omega
    subst hi'
    refine br_t (nI_le (by omega) (by omega)) ⟨vp_in_nI (by omega) (by decide), nm_r ?_ hp⟩
    rw [nI_clamp (by omega)]
    exact en_up_I L s i
  | succ d ih =>
    intro i hi
    have e : (16 : Int32) * nI s + nI i = nI (16 * s + i) := by
      rw [show (16 : Int32) = nI 16 from rfl, pk_mul, nI_add]
    refine br_f (nI_ge (by omega) (by omega)) ⟨vp_in_nI (by omega) (by decide), ?_, nm_r ?_ (nm_r (nI_1 i) (ih (i + 1) (by omega)))⟩
    · rw [e]; exact vp_in_nI (by omega) (by decide)
    · rw [e, nI_clamp (by omega), nI_clamp (by omega)]
      exact en_mv_step t D s (by omega)
theorem xw_slot (post : Int32 → Prop) {u : SX} {n : Nat} (hn : n < 2 ^ 31) (h : post (nI (n / 16))) : wpX_slotOf post u (nI n) := by
  obtain ⟨a, b, c, d, e, f⟩ := u
  refine ⟨en_n16, ?_⟩
  rw [en_d16 hn]
  exact h
theorem xw_isSlot (post : Int32 → Prop) {u : SX} (v : Int32) (h0 : (v < 0 ∨ nI 6 ≤ v) → post 0) (h1 : ∀ s, s < 6 → v = nI s → post 1) : wpX_isSlot post u v := by
  obtain ⟨a, b, c, d, e, f⟩ := u
  rcases pk_ix v (n := 6) (by decide) with h | h | ⟨s, hs, h⟩
  · exact br_t h (h0 (Or.inl h))
  · refine br_c (fun _ => h0 (Or.inr h)) (fun _ => br_t h (h0 (Or.inr h)))
  · subst h
    exact br_f (nI_pos (by omega)) (br_f (nI_ge (b := 6) hs (by decide)) (h1 s hs rfl))
theorem xw_unrank (post : SX → Prop) {s : Nat} (hs : s < 6) {l : List Nat} (hl : l.length ≤ 60) (hE : ∀ x, x ∈ l → x < 96)
    (hp : ∀ rk', en_At rk' 0 (l.filter (fun n => !decide (n / 16 = s))) → post (en_X fd (nI (l.filter (fun n => !decide (n / 16 = s))).length) t L dr rk')) :
    ∀ (m p : List Nat) (rk : Nat → Int32), l = p ++ m → en_At rk 0 (p.filter (fun n => !decide (n / 16 = s))) → en_At rk p.length m →
      wX_unrankEndingsOf_4 post (nI s) fd (nI l.length) (m.length + 1) (nI (p.filter (fun n => !decide (n / 16 = s))).length) (nI p.length) (fun n => nI (t n)) (fun s => nI (L s)) dr rk := by
  intro m
  induction m with
  | nil =>
    intro p rk e a1 _
    rw [List.append_nil] at e
    subst e
    exact br_t (nI_le (Nat.le_refl _) (by omega)) (hp rk a1)
  | cons x m ih =>
    intro p rk e a1 a2
    have hlen : p.length + (m.length + 1) = l.length := by rw [e]; simp
    have hx : x < 96 := hE x (by rw [e]; simp)
    have hk : (p.filter (fun n => !decide (n / 16 = s))).length ≤ p.length := List.length_filter_le _ _
    have e' : l = (p ++ [x]) ++ m := by rw [e]; simp
    have hlp : (p ++ [x]).length = p.length + 1 := by simp
    have hin : vp_in (nI p.length) 60 := vp_in_nI (by omega) (by decide)
    refine br_f (nI_ge (by omega) (by omega)) ⟨hin, ?_⟩
    have ec : (nI p.length).toNatClampNeg = p.length := nI_clamp (by omega)
    rw [ec, a2.1]
    refine xw_slot _ (by omega) ?_
    refine pk_eq (x / 16) s (fun z => ?_) (fun z => ?_)
    · refine nm_r (nI_1 p.length) ?_
      have ef : (p ++ [x]).filter (fun n => !decide (n / 16 = s)) = p.filter (fun n => !decide (n / 16 = s)) := by
        rw [List.filter_append]; simp [z]
      have := ih (p ++ [x]) rk e' (by rw [ef]; exact a1) (by rw [hlp]; exact a2.2)
      rw [ef, hlp] at this
      exact this
    · have ef : (p ++ [x]).filter (fun n => !decide (n / 16 = s)) = p.filter (fun n => !decide (n / 16 = s)) ++ [x] := by
        rw [List.filter_append]; simp [z]
      have efl : ((p ++ [x]).filter (fun n => !decide (n / 16 = s))).length = (p.filter (fun n => !decide (n / 16 = s))).length + 1 := by rw [ef]; simp
      refine ⟨hin, vp_in_nI (by omega) (by decide), nm_e (nm_r (nI_1 _) (nm_r (nI_1 p.length) ?_))⟩
      rw [nI_clamp (by omega)]
      have := ih (p ++ [x]) (upd rk (p.filter (fun n => !decide (n / 16 = s))).length (nI x)) e' (by
        rw [ef, en_At_app, Nat.zero_add]
        exact ⟨en_At_lo _ 0 (by omega) a1, if_pos rfl, trivial⟩) (by rw [hlp]; exact en_At_hi m _ (by omega) a2.2)
      rw [efl, hlp] at this
      exact this
end
