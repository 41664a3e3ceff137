/-! whole methods -/
section
variable {fd fc : Int32} {t L D : Nat → Nat} {rk : Nat → Int32} {fz : Int32} {le ln pa : Nat → Int32}
theorem xw_moveDraft (post : SX → Prop) {s dl : Nat} (hs : s < 6) (hd : dl ≤ 9) (hp : post (en_X (nI 0) fc (en_mv t D s dl) (en_up L s dl) (fun i => nI (D i)) rk)) :
    wpX_moveDraftTo post (en_X (nI dl) fc t L (fun i => nI (D i)) rk) (nI s) := by
  have h := xw_move post hs hd hp dl 0 (by omega)
  rw [en_mv_0] at h
  exact ⟨dl + 1, h⟩
theorem xw_rankEndings (post : SX → Prop) {dr : Nat → Int32} {s : Nat} {l : List Nat} (hA : en_Ad L t s 0 l) (a : en_At rk 0 l) (hp : ∀ l rk, en_In L t l → en_At rk 0 l → post (en_X fd (nI l.length) t L dr rk)) :
    wpX_rankEndingsOf post (en_X fd (nI l.length) t L dr rk) (nI s) := by
  have hs := hA.2.2.1
  refine ⟨vp_in_nI hs (by decide), nm_r (e' := nI (L s)) ?_ ⟨L s + 2, ?_⟩⟩
  · rw [nI_clamp (by omega)]
  · exact xw_ranks post hp (L s + 1) 0 l rk (by omega) hA a
theorem xw_add (post : Int32 → SX → Prop) {s dl : Nat} {l : List Nat} (hI : en_In L t l) (a : en_At rk 0 l) (hD : ∀ i, D i < 4) (hs : s < 6) (h0 : L s = 0) (hd0 : 0 < dl) (hd : dl ≤ 9)
    (hp : ∀ l' rk', en_In (en_up L s dl) (en_mv t D s dl) l' → en_At rk' 0 l' → post (nI l'.length) (en_X (nI 0) (nI l'.length) (en_mv t D s dl) (en_up L s dl) (fun i => nI (D i)) rk')) :
    wpX_add post (en_X (nI dl) (nI l.length) t L (fun i => nI (D i)) rk) (nI s) := by
  have ec : (nI s).toNatClampNeg = s := nI_clamp (by omega)
  unfold wpX_add
  dsimp only
  refine xw_isSlot _ (nI s) (fun h => ?_) (fun s' _ _ => ?_)
  · rcases h with h | h
    · exact absurd h (nI_pos (by omega))
    · exact absurd h (nI_ge hs (by decide))
  · refine br_f (by decide) ⟨vp_in_nI hs (by decide), ?_⟩
    rw [ec, h0]
    refine br_t (by decide) (br_f (nI_ne0 hd0 (by omega)) ?_)
    refine xw_moveDraft _ hs hd ?_
    refine xw_rankEndings _ (en_Ad_0 hI hs h0 hd0 hd hD) a ?_
    exact hp
theorem xw_remove (post : Int32 → SX → Prop) {dr : Nat → Int32} {s : Nat} {l : List Nat} (hI : en_In L t l) (a : en_At rk 0 l) (hs : s < 6) (h0 : 0 < L s)
    (hp : ∀ l' rk', en_In (en_up L s 0) t l' → en_At rk' 0 l' → post (nI l'.length) (en_X fd (nI l'.length) t (en_up L s 0) dr rk')) :
    wpX_remove post (en_X fd (nI l.length) t L dr rk) (nI s) := by
  have ec : (nI s).toNatClampNeg = s := nI_clamp (by omega)
  have h60 := en_In_60 hI
  have h9 := hI.2.1 s
  unfold wpX_remove
  dsimp only
  refine xw_isSlot _ (nI s) (fun h => ?_) (fun s' _ _ => ?_)
  · rcases h with h | h
    · exact absurd h (nI_pos (by omega))
    · exact absurd h (nI_ge hs (by decide))
  · have hin : vp_in (nI s) 6 := vp_in_nI hs (by decide)
    refine br_f (by decide) ⟨hin, ?_⟩
    rw [ec]
    refine br_f (nI_ne0 h0 (by omega)) ⟨hin, nm_r (en_up_I L s 0) ?_⟩
    refine ⟨l.length + 1, ?_⟩
    refine xw_unrank _ hs h60 (fun x hx => ((hI.2.2.2 x).mp hx).1) ?_ l [] rk rfl trivial a
    intro rk' a'
    exact hp _ rk' (en_rem hI s) a'
theorem yw_isSlot (post : Int32 → Prop) {u : SY} (v : Int32) (h0 : (v < 0 ∨ nI 6 ≤ v) → post 0) (h1 : ∀ s, s < 6 → v = nI s → post 1) : wpY_isSlot post u v := by
  obtain ⟨a, b, c, d⟩ := u
  rcases pk_ix v (n := 6) (by decide) with h | h | ⟨s, hs, h⟩
  · exact br_t h (h0 (Or.inl h))
  · have h5 : (5 : Int32) < v := Int32.lt_of_lt_of_le (show (5 : Int32) < nI 6 by decide) h
    refine br_c (fun _ => h0 (Or.inr h)) (fun _ => br_t h5 (h0 (Or.inr h)))
  · subst h
    exact br_f (nI_pos (by omega)) (br_f (nI_nlt (a := 5) (by omega) (by decide)) (h1 s hs rfl))
theorem yw_add37 (post : Int32 → SY → Prop) {s dl : Nat} (hs : s < 6) (hd : dl ≤ 9) (hL : ∀ x, L x ≤ 9) (h6 : ln 6 = nI dl) (hln : en_Ln ln L)
    (hp : ∀ le' ln', en_Ls le' (en_mv t D s dl) → en_Ld le' D → en_Ln ln' (en_up L s dl) → ln' 6 = nI 0 → post (nI (en_sm (en_up L s dl) 6)) (fz, le', ln', pa)) :
    ∀ (d i : Nat) (le : Nat → Int32), i + d = dl → en_Ls le (en_mv t D s i) → en_Ld le D → wY_add_37 post (nI s) fz (d + 1) (nI i) le ln pa := by
  have ec : (nI s).toNatClampNeg = s := nI_clamp (by omega)
  intro d
  induction d with
  | zero =>
    intro i le hi hls hld
    have hi' : i = dl := by omega
    subst hi'
    have hln' : en_Ln (upd (upd ln s (nI i)) 6 0) (en_up L s i) := en_Ln_hi (by decide) (en_Ln_up hln)
    refine br_t (by rw [h6]; exact nI_le (Nat.le_refl _) (by omega)) ⟨vp_in_nI (by omega) (by decide), nm_e (nm_e ?_)⟩
    rw [ec, h6]
    exact yw_endings hln' (en_up_le hL hd) _ (hp le _ hls hld hln' (if_pos rfl))
  | succ d ih =>
    intro i le hi hls hld
    have e1 : (54 : Int32) + nI i = nI (54 + i) := by rw [show (54 : Int32) = nI 54 from rfl, nI_add]
    have e2 : (9 : Int32) * nI s + nI i = nI (9 * s + i) := by rw [show (9 : Int32) = nI 9 from rfl, pk_mul, nI_add]
    have e3 : (nI (54 + i)).toNatClampNeg = 54 + i := nI_clamp (by omega)
    have e4 : (nI (9 * s + i)).toNatClampNeg = 9 * s + i := nI_clamp (by omega)
    refine br_f (by rw [h6]; exact nI_ge (by omega) (by omega)) ?_
    rw [e1, e2, e3, e4, hld i (by omega)]
    refine ⟨vp_in_nI (by omega) (by decide), vp_in_nI (by omega) (by decide), nm_e (nm_r (nI_1 i) ?_)⟩
    exact ih (i + 1) _ (by omega) (en_Ls_step hs (by omega) hls) (en_Ld_step (by omega) hld)
theorem yw_add (post : Int32 → SY → Prop) {s dl : Nat} (hs : s < 6) (h0 : L s = 0) (hd0 : 0 < dl) (hd : dl ≤ 9) (hL : ∀ x, L x ≤ 9) (h6 : ln 6 = nI dl) (hls : en_Ls le t) (hld : en_Ld le D) (hln : en_Ln ln L)
    (hp : ∀ le' ln', en_Ls le' (en_mv t D s dl) → en_Ld le' D → en_Ln ln' (en_up L s dl) → ln' 6 = nI 0 → post (nI (en_sm (en_up L s dl) 6)) (fz, le', ln', pa)) :
    wpY_add post (fz, le, ln, pa) (nI s) := by
  have ec : (nI s).toNatClampNeg = s := nI_clamp (by omega)
  unfold wpY_add
  dsimp only
  refine yw_isSlot _ (nI s) (fun h => ?_) (fun s' _ _ => ?_)
  · rcases h with h | h
    · exact absurd h (nI_pos (by omega))
    · exact absurd h (nI_ge hs (by decide))
  · refine br_f (by decide) ⟨vp_in_nI (by omega) (by decide), ?_⟩
    rw [ec, hln s hs, h0]
    refine br_t (by decide) (br_f ?_ ⟨dl + 1, ?_⟩)
    · rw [h6]; exact nI_ne0 hd0 (by omega)
    · refine yw_add37 post hs hd hL h6 hln hp dl 0 le (by omega) ?_ hld
      rw [en_mv_0]
      exact hls
theorem yw_remove (post : Int32 → SY → Prop) {s : Nat} (hs : s < 6) (h0 : 0 < L s) (hL : ∀ x, L x ≤ 9) (hln : en_Ln ln L)
    (hp : ∀ ln', en_Ln ln' (en_up L s 0) → ln' 6 = ln 6 → post (nI (en_sm (en_up L s 0) 6)) (fz, le, ln', pa)) :
    wpY_remove post (fz, le, ln, pa) (nI s) := by
  have ec : (nI s).toNatClampNeg = s := nI_clamp (by omega)
  have h9 := hL s
  have hln' : en_Ln (upd ln s (nI 0)) (en_up L s 0) := en_Ln_up hln
  unfold wpY_remove
  dsimp only
  refine yw_isSlot _ (nI s) (fun h => ?_) (fun s' _ _ => ?_)
  · rcases h with h | h
    · exact absurd h (nI_pos (by omega))
    · exact absurd h (nI_ge hs (by decide))
  · have hin : vp_in (nI s) 7 := vp_in_nI (by omega) (by decide)
    refine br_f (by decide) ⟨hin, ?_⟩
    rw [ec, hln s hs]
    refine br_f (nI_ne0 h0 (by omega)) ⟨hin, nm_e ?_⟩
    exact yw_endings hln' (en_up_le hL (by decide)) _ (hp _ hln' (if_neg (by omega)))
end
theorem en_V_uq {p : Int32} {q sz q' sz' : Nat} (h : en_V p q sz) (h' : en_V p q' sz') : q' = q ∧ sz' = sz := by
  obtain ⟨a, b, c⟩ := h
  obtain ⟨a', b', c'⟩ := h'
  have l1 := en_V_lt a b
  have l2 := en_V_lt a' b'
  rw [c, nI_eq (by omega) (by omega)] at c'
  subst c'
  refine ⟨rfl, ?_⟩
  rcases Nat.lt_trichotomy sz sz' with z | z | z
  · have := en_pre b' z; omega
  · exact z.symm
  · have := en_pre b z; omega
theorem en_V_no {p : Int32} {q sz : Nat} (h : en_V p q sz) (hn : ∀ q sz, sz ≤ 6 → p = nI q → q < 2 ^ 31 → q / 4 ^ sz ≠ 1) : False :=
  hn q sz h.1 h.2.2 (Nat.lt_trans (en_V_lt h.1 h.2.1) (by decide)) h.2.1
