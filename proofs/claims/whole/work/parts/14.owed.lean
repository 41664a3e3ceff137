theorem i_vc_count {k : Nat} {u : SX} {v : SY} (I : i_Rel k u v) (hk : k + 3 ≤ 1536) (v1 : Int32) : wpX_count (fun r => wpY_count (fun r' v' => r' = r ∧ i_Rel (k + 3) u v') v v1) u v1 := by
  obtain ⟨t, L, D, dl, l, rk, fz, le, ln, pa, rfl, rfl, hI, hA, hD, hd, hls, hld, hln, h6⟩ := I
  have R : ∀ fz pa, i_Rel (k + 3) (nI dl, nI l.length, fun n => nI (t n), fun s => nI (L s), fun i => nI (D i), rk) (fz, le, ln, pa) := fun fz pa => ⟨t, L, D, dl, l, rk, fz, le, ln, pa, rfl, rfl, hI, hA, hD, hd, hls, hld, hln, h6⟩
  have hE : ∀ x, x ∈ l → en_E L x = true := fun x hx => ((hI.2.2.2 x).mp hx).2
  unfold wpX_count
  dsimp only
  refine xw_ps _ (fun q sz hV => br_t (nI_pos' (by have := hV.1; omega)) ⟨l.length + 1, ?_⟩) (fun hno => br_f (by decide) ?_)
  · have hp := hV.2.2
    subst hp
    refine xw_count hI.1 hI.2.1 hV.1 hV.2.1 (en_In_60 hI) _ l 0 0 hA (by omega) hE ?_
    unfold wpY_count
    dsimp only
    refine yw_take _ (fun q' sz' hV' pa' hpa => ?_) (fun hn => (en_V_no hV hn).elim)
    obtain ⟨rfl, rfl⟩ := en_V_uq hV hV'
    refine br_f (by decide) ?_
    refine yw_countNow hls hln hI.1 hI.2.1 (by have := hV.1; omega) hpa (en_pd_lt _ _) _ ⟨?_, R _ _⟩
    rw [Nat.zero_add, en_cS (fun n h => en_sb_E h) (en_In_perm hI)]
  · unfold wpY_count
    dsimp only
    exact yw_take _ (fun q' sz' hV' => (en_V_no hV' hno).elim) (fun _ fz' pa' => br_t rfl ⟨rfl, R _ _⟩)
theorem i_vc_place {k : Nat} {u : SX} {v : SY} (I : i_Rel k u v) (hk : k + 3 ≤ 1536) (v1 : Int32) (v2 : Int32) : wpX_place (fun r => wpY_place (fun r' v' => r' = r ∧ i_Rel (k + 3) u v') v v1 v2) u v1 v2 := by
  obtain ⟨t, L, D, dl, l, rk, fz, le, ln, pa, rfl, rfl, hI, hA, hD, hd, hls, hld, hln, h6⟩ := I
  have R : ∀ fz pa, i_Rel (k + 3) (nI dl, nI l.length, fun n => nI (t n), fun s => nI (L s), fun i => nI (D i), rk) (fz, le, ln, pa) := fun fz pa => ⟨t, L, D, dl, l, rk, fz, le, ln, pa, rfl, rfl, hI, hA, hD, hd, hls, hld, hln, h6⟩
  have hE : ∀ x, x ∈ l → en_E L x = true := fun x hx => ((hI.2.2.2 x).mp hx).2
  have h60 := en_In_60 hI
  unfold wpX_place
  dsimp only
  refine xw_ps _ (fun q sz hV => br_t (nI_pos' (by have := hV.1; omega)) ⟨l.length + 1, ?_⟩) (fun hno => br_f (by decide) ?_)
  · have hp := hV.2.2
    subst hp
    refine xw_place hI.1 hI.2.1 hV.1 hV.2.1 h60 _ v2 l 0 0 hA (by omega) hE ?_
    unfold wpY_place
    dsimp only
    refine yw_take _ (fun q' sz' hV' pa' hpa => ?_) (fun hn => (en_V_no hV hn).elim)
    obtain ⟨rfl, rfl⟩ := en_V_uq hV hV'
    refine br_f (by decide) ⟨97, ?_⟩
    have hlen : (l.filter (en_sb L t (en_pd q' sz') sz')).length ≤ l.length := List.length_filter_le _ _
    obtain ⟨y1, y2⟩ := en_Yend (en_fil (en_sb L t (en_pd q' sz') sz') hI.2.2.1) (en_fp (fun n h => en_sb_E h) (en_In_perm hI)) (by omega) v2
    exact yw_p12 hls hln hI.1 hI.2.1 (by have := hV.1; omega) hpa (en_pd_lt _ _) _ v2 (fun j hj hS hc => ⟨y1 j hj hS hc, R _ _⟩) (fun hn => ⟨y2 hn, R _ _⟩) 96 0 (by omega) (fun j hj => by omega)
  · unfold wpY_place
    dsimp only
    exact yw_take _ (fun q' sz' hV' => (en_V_no hV' hno).elim) (fun _ fz' pa' => br_t rfl ⟨rfl, R _ _⟩)
theorem i_vc_slots {k : Nat} {u : SX} {v : SY} (I : i_Rel k u v) (hk : k + 3 ≤ 1536) (v1 : Int32) : wpX_slots (fun r => wpY_slots (fun r' v' => r' = r ∧ i_Rel (k + 3) u v') v v1) u v1 := by
  obtain ⟨t, L, D, dl, l, rk, fz, le, ln, pa, rfl, rfl, hI, hA, hD, hd, hls, hld, hln, h6⟩ := I
  have R : ∀ fz pa, i_Rel (k + 3) (nI dl, nI l.length, fun n => nI (t n), fun s => nI (L s), fun i => nI (D i), rk) (fz, le, ln, pa) := fun fz pa => ⟨t, L, D, dl, l, rk, fz, le, ln, pa, rfl, rfl, hI, hA, hD, hd, hls, hld, hln, h6⟩
  have hE : ∀ x, x ∈ l → en_E L x = true := fun x hx => ((hI.2.2.2 x).mp hx).2
  unfold wpX_slots
  dsimp only
  refine xw_ps _ (fun q sz hV => br_t (nI_pos' (by have := hV.1; omega)) ⟨l.length + 1, ?_⟩) (fun hno => br_f (by decide) ?_)
  · have hp := hV.2.2
    subst hp
    refine xw_slots hI.1 hI.2.1 hV.1 hV.2.1 (en_In_60 hI) _ l 0 0 hA (by omega) hE ?_
    unfold wpY_slots
    dsimp only
    refine yw_take _ (fun q' sz' hV' pa' hpa => ?_) (fun hn => (en_V_no hV hn).elim)
    obtain ⟨rfl, rfl⟩ := en_V_uq hV hV'
    refine br_f (by decide) ⟨97, ?_⟩
    refine yw_slots hls hln hI.1 hI.2.1 (by have := hV.1; omega) hpa (en_pd_lt _ _) _ ⟨?_, R _ _⟩ 96 0 (by omega)
    exact (en_foS _ (fun n h => en_sb_E h) (en_In_perm hI)).symm
  · unfold wpY_slots
    dsimp only
    exact yw_take _ (fun q' sz' hV' => (en_V_no hV' hno).elim) (fun _ fz' pa' => br_t rfl ⟨rfl, R _ _⟩)
theorem i_vc_after {k : Nat} {u : SX} {v : SY} (I : i_Rel k u v) (hk : k + 3 ≤ 1536) (v1 : Int32) : wpX_after (fun r => wpY_after (fun r' v' => r' = r ∧ i_Rel (k + 3) u v') v v1) u v1 := by
  obtain ⟨t, L, D, dl, l, rk, fz, le, ln, pa, rfl, rfl, hI, hA, hD, hd, hls, hld, hln, h6⟩ := I
  have R : ∀ fz pa, i_Rel (k + 3) (nI dl, nI l.length, fun n => nI (t n), fun s => nI (L s), fun i => nI (D i), rk) (fz, le, ln, pa) := fun fz pa => ⟨t, L, D, dl, l, rk, fz, le, ln, pa, rfl, rfl, hI, hA, hD, hd, hls, hld, hln, h6⟩
  have hE : ∀ x, x ∈ l → en_E L x = true := fun x hx => ((hI.2.2.2 x).mp hx).2
  unfold wpX_after
  dsimp only
  refine xw_ps _ (fun q sz hV => br_t (nI_pos' (by have := hV.1; omega)) ⟨l.length + 1, ?_⟩) (fun hno => br_f (by decide) ?_)
  · have hp := hV.2.2
    subst hp
    refine xw_after hI.1 hI.2.1 hV.1 hV.2.1 (en_In_60 hI) _ l 0 0 hA (by omega) hE ?_
    unfold wpY_after
    dsimp only
    refine yw_take _ (fun q' sz' hV' pa' hpa => ?_) (fun hn => (en_V_no hV hn).elim)
    obtain ⟨rfl, rfl⟩ := en_V_uq hV hV'
    refine br_f (by decide) (nm_r (nI_1 _) ⟨5, ?_⟩)
    refine yw_after hls hln hI.1 hI.2.1 hV.1 (en_pd_lt _ _) _ (fun pa'' => ⟨?_, R _ _⟩) 4 0 pa' (by omega) hpa
    exact (en_after hI.1 (en_In_perm hI)).symm
  · unfold wpY_after
    dsimp only
    exact yw_take _ (fun q' sz' hV' => (en_V_no hV' hno).elim) (fun _ fz' pa' => br_t rfl ⟨rfl, R _ _⟩)
theorem i_vc_before {k : Nat} {u : SX} {v : SY} (I : i_Rel k u v) (hk : k + 3 ≤ 1536) (v1 : Int32) : wpX_before (fun r => wpY_before (fun r' v' => r' = r ∧ i_Rel (k + 3) u v') v v1) u v1 := by
  obtain ⟨t, L, D, dl, l, rk, fz, le, ln, pa, rfl, rfl, hI, hA, hD, hd, hls, hld, hln, h6⟩ := I
  have R : ∀ fz pa, i_Rel (k + 3) (nI dl, nI l.length, fun n => nI (t n), fun s => nI (L s), fun i => nI (D i), rk) (fz, le, ln, pa) := fun fz pa => ⟨t, L, D, dl, l, rk, fz, le, ln, pa, rfl, rfl, hI, hA, hD, hd, hls, hld, hln, h6⟩
  have hE : ∀ x, x ∈ l → en_E L x = true := fun x hx => ((hI.2.2.2 x).mp hx).2
  unfold wpX_before
  dsimp only
  refine xw_ps _ (fun q sz hV => br_t (nI_pos' (by have := hV.1; omega)) ⟨l.length + 1, ?_⟩) (fun hno => br_f (by decide) ?_)
  · have hp := hV.2.2
    subst hp
    refine xw_bef hI.1 hI.2.1 hV.1 hV.2.1 (en_In_60 hI) _ l 0 0 hA (by omega) hE ?_
    unfold wpY_before
    dsimp only
    refine yw_take _ (fun q' sz' hV' pa' hpa => ?_) (fun hn => (en_V_no hV hn).elim)
    obtain ⟨rfl, rfl⟩ := en_V_uq hV hV'
    refine br_f (by decide) ⟨sz' + 1, ?_⟩
    refine yw_b15 hls hln hI.1 hI.2.1 hV.1 (en_pd_lt _ _) _ (fun pa'' => ⟨?_, R _ _⟩) sz' pa' (Nat.le_refl _) hpa (fun i h1 h2 => by omega)
    exact (en_before hI.1 hI.2.1 (en_In_perm hI)).symm
  · unfold wpY_before
    dsimp only
    exact yw_take _ (fun q' sz' hV' => (en_V_no hV' hno).elim) (fun _ fz' pa' => br_t rfl ⟨rfl, R _ _⟩)
theorem i_vc_common {k : Nat} {u : SX} {v : SY} (I : i_Rel k u v) (hk : k + 3 ≤ 1536) (v1 : Int32) : wpX_common (fun r => wpY_common (fun r' => r' = r ∧ i_Rel (k + 3) u v) v v1) u v1 := by
  have R : i_Rel (k + 3) u v := i_up I
  obtain ⟨t, L, D, dl, l, rk, fz, le, ln, pa, rfl, rfl, hI, hA, hD, hd, hls, hld, hln, h6⟩ := I
  have hE : ∀ x, x ∈ l → en_E L x = true := fun x hx => ((hI.2.2.2 x).mp hx).2
  have h60 := en_In_60 hI
  have none : ∀ (P : Int32 → Prop) (a : Int32), P (-4) → wY_common_25 P a (-4) fz le ln pa := by
    intro P a h
    exact br_c (fun _ => h) (fun _ => br_f (by decide) h)
  have none2 : ∀ (P : Int32 → Prop) (b : Int32), P (-4) → wY_common_25 P (-4) b fz le ln pa := by
    intro P b h
    exact br_t (by decide) h
  by_cases hneg : v1 < 0
  · refine br_t hneg ?_
    unfold wpY_common
    dsimp only
    refine yw_ending hls hln hI _ v1 ?_
    rw [en_pk_lo (by omega) (Or.inl hneg)]
    refine br_c (fun _ => none _ _ ⟨rfl, R⟩) (fun _ => ?_)
    exact yw_ending hls hln hI _ _ (none2 _ _ ⟨rfl, R⟩)
  · obtain ⟨j, hj, rfl⟩ := nI_of hneg
    by_cases hjl : j + 1 < l.length
    · have e1 : nI l.length - 1 = nI (l.length - 1) := pk_sub (b := 1) (by omega)
      have e2 : nI j + 1 = nI (j + 1) := nI_1 j
      have e3 : (nI j).toNatClampNeg = j := nI_clamp (by omega)
      have e4 : (nI (j + 1)).toNatClampNeg = j + 1 := nI_clamp (by omega)
      have a1 := en_At_get l 0 j (by omega) hA
      have a2 := en_At_get l 0 (j + 1) hjl hA
      rw [Nat.zero_add] at a1 a2
      have m1 : l[j]'(by omega) ∈ l := List.getElem_mem _
      have m2 : l[j + 1] ∈ l := List.getElem_mem _
      have b1 := en_E_b hI.2.1 (hE _ m1)
      have b2 := en_E_b hI.2.1 (hE _ m2)
      refine br_f hneg (br_t (by rw [e1]; exact nI_lt (by omega) (by omega)) ?_)
      rw [e2, e3, e4, a1, a2]
      refine ⟨vp_in_nI (by omega) (by decide), vp_in_nI (by omega) (by decide), ?_⟩
      refine xw_common _ hI.1 hI.2.1 (hE _ m1) (hE _ m2) ?_
      unfold wpY_common
      dsimp only
      refine yw_ending hls hln hI _ (nI j) ?_
      rw [en_pk_at (i := j) (by omega) (by omega)]
      refine br_f (nI_ge (b := 1000) (by omega) (by decide)) ?_
      rw [e2]
      refine yw_ending hls hln hI _ (nI (j + 1)) ?_
      rw [en_pk_at hjl (by omega)]
      refine br_f (nI_pos (by omega)) (br_t (nI_pos' (by omega)) ?_)
      exact yw_shared hls hln hI.1 hI.2.1 _ (hE _ m1) (hE _ m2) ⟨rfl, R⟩
    · have hx : ¬ nI j < nI l.length - 1 := by
        by_cases h0 : l.length = 0
        · rw [h0, Int32.lt_iff_toInt_lt, nI_toInt hj, show (nI 0 - 1).toInt = -1 from by decide]
          omega
        · rw [show nI l.length - 1 = nI (l.length - 1) from pk_sub (b := 1) (by omega)]
          exact nI_nlt (by omega) hj
      refine br_f hneg (br_f hx ?_)
      unfold wpY_common
      dsimp only
      refine yw_ending hls hln hI _ (nI j) ?_
      refine pk_le 1000 j (fun z => none _ _ ⟨rfl, R⟩) (fun z => ?_)
      rw [nI_1]
      refine yw_ending hls hln hI _ (nI (j + 1)) ?_
      rw [en_pk_lo (m := l) (r := nI (j + 1)) (by omega) (Or.inr (nI_le (by omega) (by omega)))]
      exact none _ _ ⟨rfl, R⟩
theorem i_vc_distinct {k : Nat} {u : SX} {v : SY} (I : i_Rel k u v) (hk : k + 3 ≤ 1536) : wpX_distinct (fun r => wpY_distinct (fun r' => r' = r ∧ i_Rel (k + 3) u v) v) u := by
  have R : i_Rel (k + 3) u v := i_up I
  obtain ⟨t, L, D, dl, l, rk, fz, le, ln, pa, rfl, rfl, hI, hA, hD, hd, hls, hld, hln, h6⟩ := I
  have hE : ∀ x, x ∈ l → en_E L x = true := fun x hx => ((hI.2.2.2 x).mp hx).2
  refine ⟨l.length + 1, xw_distinct hI.1 hI.2.1 _ (en_In_60 hI) hE hI.2.2.1 hA ?_ l [] rfl⟩
  exact yw_distinct hls hln hI.1 hI.2.1 _ ⟨en_Dr_perm _ (en_S_perm (en_In_perm hI)).symm, R⟩
theorem i_vc_repeated {k : Nat} {u : SX} {v : SY} (I : i_Rel k u v) (hk : k + 3 ≤ 1536) : wpX_repeated (fun r => wpY_repeated (fun r' => r' = r ∧ i_Rel (k + 3) u v) v) u := by
  have R : i_Rel (k + 3) u v := i_up I
  obtain ⟨t, L, D, dl, l, rk, fz, le, ln, pa, rfl, rfl, hI, hA, hD, hd, hls, hld, hln, h6⟩ := I
  have hE : ∀ x, x ∈ l → en_E L x = true := fun x hx => ((hI.2.2.2 x).mp hx).2
  have hR : en_Rr (en_w L t) (en_S (en_E L) 96) = en_Rr (en_w L t) l.reverse := en_Rr_perm _ (en_S_perm (en_In_perm hI)).symm
  cases l with
  | nil =>
    refine ⟨1, br_t (by decide) ?_⟩
    exact yw_repeated hls hln hI.1 hI.2.1 _ ⟨by rw [hR]; rfl, R⟩
  | cons y m =>
    have h := xw_repeated (fd := nI dl) (dr := fun i => nI (D i)) hI.1 hI.2.1 (fun r => wpY_repeated (fun r' => r' = r ∧ i_Rel (k + 3) (nI dl, nI (y :: m).length, fun n => nI (t n), fun s => nI (L s), fun i => nI (D i), rk) (fz, le, ln, pa)) (fz, le, ln, pa)) (en_In_60 hI) hE hI.2.2.1 hA (yw_repeated hls hln hI.1 hI.2.1 _ ⟨by rw [hR], R⟩) m [] y rfl
    have e0 : en_Rr (en_w L t) (y :: ([] : List Nat).reverse) = 0 := by simp [en_Rr, en_K]
    rw [e0] at h
    exact ⟨m.length + 1, h⟩
