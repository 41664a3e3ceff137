/-- the relation: one pure picture of texts, draft and ranks for both -/
def i_Rel (k : Nat) (u : SX) (v : SY) : Prop := ∃ (t L D : Nat → Nat) (dl : Nat) (l : List Nat) (rk : Nat → Int32) (fz : Int32) (le ln pa : Nat → Int32),
  u = (nI dl, nI l.length, fun n => nI (t n), fun s => nI (L s), fun i => nI (D i), rk) ∧ v = (fz, le, ln, pa) ∧ en_In L t l ∧ en_At rk 0 l ∧ (∀ i, D i < 4) ∧ dl ≤ 9 ∧ en_Ls le t ∧ en_Ld le D ∧ en_Ln ln L ∧ ln 6 = nI dl
theorem i_up {k : Nat} {u : SX} {v : SY} (h : i_Rel k u v) : i_Rel (k + 3) u v := h
theorem i_vc0 : wpX_init (fun u => wpY_init (fun v => i_Rel 0 u v)) := by
  refine ⟨fun _ => 0, fun _ => 0, fun _ => 0, 0, [], fun _ => 0, 0, fun _ => 0, fun _ => 0, fun _ => 0, rfl, rfl, ⟨fun _ => (by decide : (0 : Nat) < 4), fun _ => (by decide : (0 : Nat) ≤ 9), List.Pairwise.nil, fun n => ?_⟩, trivial, fun _ => (by decide : (0 : Nat) < 4), by decide, fun _ _ _ _ => rfl, fun _ _ => rfl, fun _ _ => rfl, rfl⟩
  constructor
  · intro h; cases h
  · intro h
    have := en_E_iff.mp h.2
    omega
theorem i_vc_draft {k : Nat} {u : SX} {v : SY} (I : i_Rel k u v) (hk : k + 3 ≤ 1536) (v1 : Int32) : wpX_draft (fun r u' => wpY_draft (fun r' v' => r' = r ∧ i_Rel (k + 3) u' v') v v1) u v1 := by
  obtain ⟨t, L, D, dl, l, rk, fz, le, ln, pa, rfl, rfl, hI, hA, hD, hd, hls, hld, hln, h6⟩ := I
  have R : i_Rel (k + 3) (nI dl, nI l.length, fun n => nI (t n), fun s => nI (L s), fun i => nI (D i), rk) (fz, le, ln, pa) := ⟨t, L, D, dl, l, rk, fz, le, ln, pa, rfl, rfl, hI, hA, hD, hd, hls, hld, hln, h6⟩
  by_cases hneg : v1 < 0
  · exact br_t hneg (br_t hneg ⟨rfl, R⟩)
  · obtain ⟨j, hj, rfl⟩ := nI_of hneg
    by_cases h4 : j < 4
    · by_cases h9 : dl < 9
      · refine br_f hneg (br_t (nI_lt (b := 4) h4 (by decide)) (br_t (nI_lt (b := 9) h9 (by decide)) ⟨vp_in_nI h9 (by decide), nm_r (e' := fun i => nI (en_up D dl j i)) ?_ (nm_r (nI_1 dl) ?_)⟩))
        · rw [nI_clamp (by omega)]
          exact en_up_I D dl j
        · refine br_f hneg (br_t (nI_le (b := 3) (by omega) (by decide)) (br_f ?_ ?_))
          · rw [h6]
            intro z
            have := (nI_eq (b := 9) (by omega) (by decide)).mp z
            omega
          · have e1 : (54 : Int32) + nI dl = nI (54 + dl) := by rw [show (54 : Int32) = nI 54 from rfl, nI_add]
            have e2 : (nI (54 + dl)).toNatClampNeg = 54 + dl := nI_clamp (by omega)
            rw [h6, e1, e2, nI_1]
            refine ⟨vp_in_nI (by omega) (by decide), nm_e (nm_e ⟨if_pos rfl, ?_⟩)⟩
            refine ⟨t, L, en_up D dl j, dl + 1, l, rk, fz, upd le (54 + dl) (nI j), upd ln 6 (nI (dl + 1)), pa, rfl, rfl, hI, hA, ?_, by omega, ?_, ?_, en_Ln_hi (by decide) hln, if_pos rfl⟩
            · intro i
              unfold en_up
              split
              · exact h4
              · exact hD i
            · intro s hs i hi
              exact (if_neg (by omega)).trans (hls s hs i hi)
            · intro i hi
              unfold upd en_up
              by_cases e : i = dl
              · rw [if_pos e, if_pos (by omega)]
              · rw [if_neg e, if_neg (by omega)]
                exact hld i hi
      · have e9 : dl = 9 := by omega
        refine br_f hneg (br_t (nI_lt (b := 4) h4 (by decide)) (br_f (nI_nlt (b := 9) (by omega) (by omega)) ?_))
        refine br_f hneg (br_t (nI_le (b := 3) (by omega) (by decide)) (br_t ?_ ⟨rfl, R⟩))
        rw [h6, e9]
        rfl
    · exact br_f hneg (br_f (nI_nlt (b := 4) (by omega) hj) (br_f hneg (br_f (nI_ge (a := 3) (by omega) hj) ⟨rfl, R⟩)))
theorem i_vc_scrap {k : Nat} {u : SX} {v : SY} (I : i_Rel k u v) (hk : k + 3 ≤ 1536) : wpX_scrap (fun u' => wpY_scrap (fun v' => i_Rel (k + 3) u' v') v) u := by
  obtain ⟨t, L, D, dl, l, rk, fz, le, ln, pa, rfl, rfl, hI, hA, hD, hd, hls, hld, hln, h6⟩ := I
  exact nm_e ⟨t, L, D, 0, l, rk, fz, le, upd ln 6 0, pa, rfl, rfl, hI, hA, hD, by decide, hls, hld, en_Ln_hi (by decide) hln, if_pos rfl⟩
theorem i_vc_add {k : Nat} {u : SX} {v : SY} (I : i_Rel k u v) (hk : k + 3 ≤ 1536) (v1 : Int32) : wpX_add (fun r u' => wpY_add (fun r' v' => r' = r ∧ i_Rel (k + 3) u' v') v v1) u v1 := by
  obtain ⟨t, L, D, dl, l, rk, fz, le, ln, pa, rfl, rfl, hI, hA, hD, hd, hls, hld, hln, h6⟩ := I
  have R : i_Rel (k + 3) (nI dl, nI l.length, fun n => nI (t n), fun s => nI (L s), fun i => nI (D i), rk) (fz, le, ln, pa) := ⟨t, L, D, dl, l, rk, fz, le, ln, pa, rfl, rfl, hI, hA, hD, hd, hls, hld, hln, h6⟩
  have bad : ∀ (Z : Int32), ((Z < 0 ∨ nI 6 ≤ Z) → v1 = Z → wpX_add (fun r u' => wpY_add (fun r' v' => r' = r ∧ i_Rel (k + 3) u' v') (fz, le, ln, pa) v1) (nI dl, nI l.length, fun n => nI (t n), fun s => nI (L s), fun i => nI (D i), rk) v1) := by
    intro Z hZ e
    subst e
    unfold wpX_add
    dsimp only
    refine xw_isSlot _ v1 (fun _ => br_t rfl ?_) (fun s hs e => ?_)
    · unfold wpY_add
      dsimp only
      refine yw_isSlot _ v1 (fun _ => br_t rfl ⟨rfl, R⟩) (fun s hs e => ?_)
      subst e
      rcases hZ with h | h
      · exact absurd h (nI_pos (by omega))
      · exact absurd h (nI_ge hs (by decide))
    · subst e
      rcases hZ with h | h
      · exact absurd h (nI_pos (by omega))
      · exact absurd h (nI_ge hs (by decide))
  rcases pk_ix v1 (n := 6) (by decide) with h | h | ⟨s, hs, h⟩
  · exact bad v1 (Or.inl h) rfl
  · exact bad v1 (Or.inr h) rfl
  · subst h
    have ec : (nI s).toNatClampNeg = s := nI_clamp (by omega)
    have h9 := hI.2.1 s
    by_cases h0 : L s = 0
    · by_cases hd0 : dl = 0
      · unfold wpX_add
        dsimp only
        refine xw_isSlot _ (nI s) (fun hb => ?_) (fun _ _ _ => br_f (by decide) ⟨vp_in_nI hs (by decide), ?_⟩)
        · rcases hb with h | h
          · exact absurd h (nI_pos (by omega))
          · exact absurd h (nI_ge hs (by decide))
        · rw [ec, h0]
          refine br_t (by decide) (br_t (by rw [hd0]; rfl) ?_)
          unfold wpY_add
          dsimp only
          refine yw_isSlot _ (nI s) (fun hb => ?_) (fun _ _ _ => br_f (by decide) ⟨vp_in_nI (by omega) (by decide), ?_⟩)
          · rcases hb with h | h
            · exact absurd h (nI_pos (by omega))
            · exact absurd h (nI_ge hs (by decide))
          · rw [ec, hln s hs, h0]
            refine br_t (by decide) (br_t (by rw [h6, hd0]; rfl) ⟨rfl, R⟩)
      · refine xw_add _ hI hA hD hs h0 (by omega) hd ?_
        intro l' rk' hI' hA'
        refine yw_add _ hs h0 (by omega) hd hI.2.1 h6 hls hld hln ?_
        intro le' ln' hls' hld' hln' h6'
        exact ⟨by rw [en_In_len hI'], en_mv t D s dl, en_up L s dl, D, 0, l', rk', fz, le', ln', pa, rfl, rfl, hI', hA', hD, by decide, hls', hld', hln', h6'⟩
    · unfold wpX_add
      dsimp only
      refine xw_isSlot _ (nI s) (fun hb => ?_) (fun _ _ _ => br_f (by decide) ⟨vp_in_nI hs (by decide), ?_⟩)
      · rcases hb with h | h
        · exact absurd h (nI_pos (by omega))
        · exact absurd h (nI_ge hs (by decide))
      · rw [ec]
        refine br_f (nI_nle (by omega) (by omega)) ?_
        unfold wpY_add
        dsimp only
        refine yw_isSlot _ (nI s) (fun hb => ?_) (fun _ _ _ => br_f (by decide) ⟨vp_in_nI (by omega) (by decide), ?_⟩)
        · rcases hb with h | h
          · exact absurd h (nI_pos (by omega))
          · exact absurd h (nI_ge hs (by decide))
        · rw [ec, hln s hs]
          exact br_f (nI_nle (by omega) (by omega)) ⟨rfl, R⟩
theorem i_vc_remove {k : Nat} {u : SX} {v : SY} (I : i_Rel k u v) (hk : k + 3 ≤ 1536) (v1 : Int32) : wpX_remove (fun r u' => wpY_remove (fun r' v' => r' = r ∧ i_Rel (k + 3) u' v') v v1) u v1 := by
  obtain ⟨t, L, D, dl, l, rk, fz, le, ln, pa, rfl, rfl, hI, hA, hD, hd, hls, hld, hln, h6⟩ := I
  have R : i_Rel (k + 3) (nI dl, nI l.length, fun n => nI (t n), fun s => nI (L s), fun i => nI (D i), rk) (fz, le, ln, pa) := ⟨t, L, D, dl, l, rk, fz, le, ln, pa, rfl, rfl, hI, hA, hD, hd, hls, hld, hln, h6⟩
  have bad : ∀ (Z : Int32), ((Z < 0 ∨ nI 6 ≤ Z) → v1 = Z → wpX_remove (fun r u' => wpY_remove (fun r' v' => r' = r ∧ i_Rel (k + 3) u' v') (fz, le, ln, pa) v1) (nI dl, nI l.length, fun n => nI (t n), fun s => nI (L s), fun i => nI (D i), rk) v1) := by
    intro Z hZ e
    subst e
    unfold wpX_remove
    dsimp only
    refine xw_isSlot _ v1 (fun _ => br_t rfl ?_) (fun s hs e => ?_)
    · unfold wpY_remove
      dsimp only
      refine yw_isSlot _ v1 (fun _ => br_t rfl ⟨rfl, R⟩) (fun s hs e => ?_)
      subst e
      rcases hZ with h | h
      · exact absurd h (nI_pos (by omega))
      · exact absurd h (nI_ge hs (by decide))
    · subst e
      rcases hZ with h | h
      · exact absurd h (nI_pos (by omega))
      · exact absurd h (nI_ge hs (by decide))
  rcases pk_ix v1 (n := 6) (by decide) with h | h | ⟨s, hs, h⟩
  · exact bad v1 (Or.inl h) rfl
  · exact bad v1 (Or.inr h) rfl
  · subst h
    have ec : (nI s).toNatClampNeg = s := nI_clamp (by omega)
    have h9 := hI.2.1 s
    by_cases h0 : L s = 0
    · unfold wpX_remove
      dsimp only
      refine xw_isSlot _ (nI s) (fun hb => ?_) (fun _ _ _ => br_f (by decide) ⟨vp_in_nI hs (by decide), ?_⟩)
      · rcases hb with h | h
        · exact absurd h (nI_pos (by omega))
        · exact absurd h (nI_ge hs (by decide))
      · rw [ec, h0]
        refine br_t (by decide) ?_
        unfold wpY_remove
        dsimp only
        refine yw_isSlot _ (nI s) (fun hb => ?_) (fun _ _ _ => br_f (by decide) ⟨vp_in_nI (by omega) (by decide), ?_⟩)
        · rcases hb with h | h
          · exact absurd h (nI_pos (by omega))
          · exact absurd h (nI_ge hs (by decide))
        · rw [ec, hln s hs, h0]
          exact br_t (by decide) ⟨rfl, R⟩
    · refine xw_remove _ hI hA hs (by omega) ?_
      intro l' rk' hI' hA'
      refine yw_remove _ hs (by omega) hI.2.1 hln ?_
      intro ln' hln' h6'
      exact ⟨by rw [en_In_len hI'], t, en_up L s 0, D, dl, l', rk', fz, le, ln', pa, rfl, rfl, hI', hA', hD, hd, hls, hld, hln', h6'.trans h6⟩
theorem i_vc_endings {k : Nat} {u : SX} {v : SY} (I : i_Rel k u v) (hk : k + 3 ≤ 1536) : wpX_endings (fun r => wpY_endings (fun r' => r' = r ∧ i_Rel (k + 3) u v) v) u := by
  have R : i_Rel (k + 3) u v := i_up I
  obtain ⟨t, L, D, dl, l, rk, fz, le, ln, pa, rfl, rfl, hI, hA, hD, hd, hls, hld, hln, h6⟩ := I
  exact yw_endings hln hI.2.1 _ ⟨by rw [en_In_len hI], R⟩
theorem i_vc_length {k : Nat} {u : SX} {v : SY} (I : i_Rel k u v) (hk : k + 3 ≤ 1536) (v1 : Int32) : wpX_length (fun r => wpY_length (fun r' => r' = r ∧ i_Rel (k + 3) u v) v v1) u v1 := by
  have R : i_Rel (k + 3) u v := i_up I
  obtain ⟨t, L, D, dl, l, rk, fz, le, ln, pa, rfl, rfl, hI, hA, hD, hd, hls, hld, hln, h6⟩ := I
  unfold wpX_length
  dsimp only
  refine xw_isSlot _ v1 (fun hb => br_t rfl ?_) (fun s hs e => br_f (by decide) ?_)
  · unfold wpY_length
    dsimp only
    refine yw_isSlot _ v1 (fun _ => br_t rfl ⟨rfl, R⟩) (fun s hs e => ?_)
    subst e
    rcases hb with h | h
    · exact absurd h (nI_pos (by omega))
    · exact absurd h (nI_ge hs (by decide))
  · subst e
    have ec : (nI s).toNatClampNeg = s := nI_clamp (by omega)
    refine ⟨vp_in_nI hs (by decide), ?_⟩
    unfold wpY_length
    dsimp only
    refine yw_isSlot _ (nI s) (fun hb => ?_) (fun _ _ _ => br_f (by decide) ⟨vp_in_nI (by omega) (by decide), ?_, R⟩)
    · rcases hb with h | h
      · exact absurd h (nI_pos (by omega))
      · exact absurd h (nI_ge hs (by decide))
    · rw [ec, hln s hs]
theorem i_vc_letter {k : Nat} {u : SX} {v : SY} (I : i_Rel k u v) (hk : k + 3 ≤ 1536) (v1 : Int32) (v2 : Int32) : wpX_letter (fun r => wpY_letter (fun r' => r' = r ∧ i_Rel (k + 3) u v) v v1 v2) u v1 v2 := by
  have R : i_Rel (k + 3) u v := i_up I
  obtain ⟨t, L, D, dl, l, rk, fz, le, ln, pa, rfl, rfl, hI, hA, hD, hd, hls, hld, hln, h6⟩ := I
  unfold wpX_letter
  dsimp only
  refine xw_isSlot _ v1 (fun hb => br_t rfl ?_) (fun s hs e => br_f (by decide) ?_)
  · unfold wpY_letter
    dsimp only
    refine yw_isSlot _ v1 (fun _ => br_t rfl ⟨rfl, R⟩) (fun s hs e => ?_)
    subst e
    rcases hb with h | h
    · exact absurd h (nI_pos (by omega))
    · exact absurd h (nI_ge hs (by decide))
  · subst e
    have ec : (nI s).toNatClampNeg = s := nI_clamp (by omega)
    have h9 := hI.2.1 s
    have noSlot : ∀ {P : Prop}, ((nI s < 0 ∨ nI 6 ≤ nI s) → P) := by
      intro P hb
      rcases hb with h | h
      · exact absurd h (nI_pos (by omega))
      · exact absurd h (nI_ge hs (by decide))
    by_cases hneg : v2 < 0
    · refine br_t hneg ?_
      unfold wpY_letter
      dsimp only
      exact yw_isSlot _ (nI s) noSlot (fun _ _ _ => br_f (by decide) (br_t hneg ⟨rfl, R⟩))
    · obtain ⟨j, hj, rfl⟩ := nI_of hneg
      refine br_f hneg ⟨vp_in_nI hs (by decide), ?_⟩
      rw [ec]
      have e1 : (16 : Int32) * nI s + nI j = nI (16 * s + j) := by rw [show (16 : Int32) = nI 16 from rfl, pk_mul, nI_add]
      have e2 : (9 : Int32) * nI s + nI j = nI (9 * s + j) := by rw [show (9 : Int32) = nI 9 from rfl, pk_mul, nI_add]
      refine pk_lt j (L s) (fun z => ?_) (fun z => ?_)
      · have e3 : (nI (16 * s + j)).toNatClampNeg = 16 * s + j := nI_clamp (by omega)
        have e4 : (nI (9 * s + j)).toNatClampNeg = 9 * s + j := nI_clamp (by omega)
        rw [e1, e3]
        refine ⟨vp_in_nI (by omega) (by decide), ?_⟩
        unfold wpY_letter
        dsimp only
        refine yw_isSlot _ (nI s) noSlot (fun _ _ _ => br_f (by decide) (br_f hneg ⟨vp_in_nI (by omega) (by decide), ?_⟩))
        rw [ec, hln s hs]
        refine br_f (nI_ge z (by omega)) ?_
        rw [e2, e4]
        exact ⟨vp_in_nI (by omega) (by decide), hls s hs j (by omega), R⟩
      · unfold wpY_letter
        dsimp only
        refine yw_isSlot _ (nI s) noSlot (fun _ _ _ => br_f (by decide) (br_f hneg ⟨vp_in_nI (by omega) (by decide), ?_⟩))
        rw [ec, hln s hs]
        exact br_t (nI_le z hj) ⟨rfl, R⟩
theorem i_vc_ending {k : Nat} {u : SX} {v : SY} (I : i_Rel k u v) (hk : k + 3 ≤ 1536) (v1 : Int32) : wpX_ending (fun r => wpY_ending (fun r' => r' = r ∧ i_Rel (k + 3) u v) v v1) u v1 := by
  have R : i_Rel (k + 3) u v := i_up I
  obtain ⟨t, L, D, dl, l, rk, fz, le, ln, pa, rfl, rfl, hI, hA, hD, hd, hls, hld, hln, h6⟩ := I
  have h60 := en_In_60 hI
  rcases pk_ix v1 (n := l.length) (by omega) with h | h | ⟨i, hi, h⟩
  · refine br_t h (yw_ending hls hln hI _ v1 ⟨en_pk_lo (by omega) (Or.inl h), R⟩)
  · have Y := yw_ending (fz := fz) (pa := pa) hls hln hI (fun r' => r' = -4 ∧ i_Rel (k + 3) (nI dl, nI l.length, fun n => nI (t n), fun s => nI (L s), fun i => nI (D i), rk) (fz, le, ln, pa)) v1 ⟨en_pk_lo (by omega) (Or.inr h), R⟩
    exact br_c (fun _ => Y) (fun _ => br_t h Y)
  · subst h
    have ec : (nI i).toNatClampNeg = i := nI_clamp (by omega)
    have ha := en_At_get l 0 i hi hA
    rw [Nat.zero_add] at ha
    refine br_f (nI_pos (by omega)) (br_f (nI_ge hi (by omega)) ⟨vp_in_nI (by omega) (by decide), ?_⟩)
    rw [ec, ha]
    exact yw_ending hls hln hI _ (nI i) ⟨en_pk_at hi (by omega), R⟩
theorem i_vc_rank {k : Nat} {u : SX} {v : SY} (I : i_Rel k u v) (hk : k + 3 ≤ 1536) (v1 : Int32) : wpX_rank (fun r => wpY_rank (fun r' => r' = r ∧ i_Rel (k + 3) u v) v v1) u v1 := by
  have R : i_Rel (k + 3) u v := i_up I
  obtain ⟨t, L, D, dl, l, rk, fz, le, ln, pa, rfl, rfl, hI, hA, hD, hd, hls, hld, hln, h6⟩ := I
  exact ⟨l.length + 1, xw_rank _ (en_In_60 hI) v1 l 0 hA (by omega) (yw_rank hls hln hI _ v1 ⟨rfl, R⟩)⟩
