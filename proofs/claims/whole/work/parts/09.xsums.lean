/-! the component's sums over neighbours by rank -/
theorem en_K_le {w : Nat → List Nat} {S : List Nat} {a : Nat} (h : (w a).length ≤ 9) : en_K w S a ≤ 9 := by
  rcases en_K_at w a S with e | ⟨v, _, e⟩
  · omega
  · have := (en_cp_le (w v) (w a)).2
    omega
theorem en_Rr_le {w : Nat → List Nat} : ∀ (S : List Nat), (∀ a, a ∈ S → (w a).length ≤ 9) → en_Rr w S ≤ 9 := by
  intro S
  induction S with
  | nil => intro _; exact Nat.zero_le _
  | cons a S ih =>
    intro h
    have h1 := ih (fun x hx => h x (by simp [hx]))
    have h2 := en_K_le (w := w) (S := S) (h a (by simp))
    simp only [en_Rr]
    omega
section
variable {fd : Int32} {t L : Nat → Nat} {dr rk : Nat → Int32}
theorem xw_distinct (ht : ∀ n, t n < 4) (hL : ∀ s, L s ≤ 9) (post : Int32 → Prop) {l : List Nat} (hl : l.length ≤ 60) (hE : ∀ x, x ∈ l → en_E L x = true) (hs : en_so (en_w L t) l) (a : en_At rk 0 l) (hp : post (en_Dr (en_w L t) l.reverse)) :
    ∀ (m p : List Nat), l = p ++ m → wX_distinct_4 post fd (nI l.length) (fun n => nI (t n)) (fun s => nI (L s)) dr rk (m.length + 1) (en_Dr (en_w L t) p.reverse) (nI p.length) := by
  intro m
  induction m with
  | nil =>
    intro p e
    rw [List.append_nil] at e
    subst e
    exact br_t (nI_le (Nat.le_refl _) (by omega)) hp
  | cons x m ih =>
    intro p e
    have hlen : p.length + (m.length + 1) = l.length := by rw [e]; simp
    have a' := a
    rw [e, en_At_app, Nat.zero_add] at a'
    have hx : en_E L x = true := hE x (by rw [e]; simp)
    have bx := en_E_b hL hx
    have ec : (nI p.length).toNatClampNeg = p.length := nI_clamp (by omega)
    have hin : vp_in (nI p.length) 60 := vp_in_nI (by omega) (by decide)
    have e' : l = (p ++ [x]) ++ m := by rw [e]; simp
    have hlp : (p ++ [x]).length = p.length + 1 := by simp
    have hrev : (p ++ [x]).reverse = x :: p.reverse := by simp
    have IH := ih (p ++ [x]) e'
    rw [hlp, hrev] at IH
    have ed : en_Dr (en_w L t) (x :: p.reverse) = en_Dr (en_w L t) p.reverse + nI (en_w L t x).length - nI (en_K (en_w L t) p.reverse x) := rfl
    rw [en_w_len] at ed
    refine br_f (nI_ge (by omega) (by omega)) ⟨hin, ?_⟩
    rw [ec, a'.2.1]
    refine xw_el _ bx.1 bx.2.1 ?_
    refine nm_e ?_
    refine pk_le p.length 0 (fun z => ?_) (fun z => ?_)
    · refine nm_r (nI_1 p.length) ?_
      have e0 : p = [] := List.length_eq_zero_iff.mp (by omega)
      have ek : en_K (en_w L t) p.reverse x = 0 := by rw [e0]; rfl
      rw [ek, nI_0, Int32.sub_zero] at ed
      rw [← ed]
      exact IH
    · rcases en_last p with h0 | ⟨p', y, h0⟩
      · rw [h0] at z; simp at z
      · have e1 : nI p.length - 1 = nI (p.length - 1) := pk_sub (b := 1) z
        have ec1 : (nI (p.length - 1)).toNatClampNeg = p.length - 1 := nI_clamp (by omega)
        have hpl : p.length - 1 = p'.length := by rw [h0]; simp
        have hy : en_E L y = true := hE y (by rw [e, h0]; simp)
        have a1 := a'.1
        rw [h0, en_At_app, Nat.zero_add] at a1
        have hry : rk (p.length - 1) = nI y := by rw [hpl]; exact a1.2.1
        rw [e1, ec1, hry]
        refine ⟨vp_in_nI (by omega) (by decide), hin, ?_⟩
        refine xw_common _ ht hL hy hx ?_
        refine nm_e (nm_r (nI_1 p.length) ?_)
        have hs' := hs
        rw [e, h0, List.append_assoc] at hs'
        have ek : en_K (en_w L t) p.reverse x = en_cp (en_w L t y) (en_w L t x) := by
          have hr : p.reverse = y :: p'.reverse := by rw [h0]; simp
          rw [hr]
          exact en_K_pre hs'
        rw [ek] at ed
        rw [← ed]
        exact IH
theorem xw_repeated (ht : ∀ n, t n < 4) (hL : ∀ s, L s ≤ 9) (post : Int32 → Prop) {l : List Nat} (hl : l.length ≤ 60) (hE : ∀ x, x ∈ l → en_E L x = true) (hs : en_so (en_w L t) l) (a : en_At rk 0 l) (hp : post (nI (en_Rr (en_w L t) l.reverse))) :
    ∀ (m p : List Nat) (y : Nat), l = p ++ y :: m → wX_repeated_4 post fd (nI l.length) (fun n => nI (t n)) (fun s => nI (L s)) dr rk (m.length + 1) (nI (en_Rr (en_w L t) (y :: p.reverse))) (nI (p.length + 1)) := by
  intro m
  induction m with
  | nil =>
    intro p y e
    have hlen : p.length + 1 = l.length := by rw [e]; simp
    have hr : l.reverse = y :: p.reverse := by rw [e]; simp
    rw [hr] at hp
    exact br_t (nI_le (by omega) (by omega)) hp
  | cons x m ih =>
    intro p y e
    have hlen : p.length + (m.length + 2) = l.length := by rw [e]; simp
    have a' := a
    rw [e, en_At_app, Nat.zero_add] at a'
    have hx : en_E L x = true := hE x (by rw [e]; simp)
    have hy : en_E L y = true := hE y (by rw [e]; simp)
    have e1 : nI (p.length + 1) - 1 = nI p.length := nI_pred p.length
    have ec : (nI p.length).toNatClampNeg = p.length := nI_clamp (by omega)
    have ec2 : (nI (p.length + 1)).toNatClampNeg = p.length + 1 := nI_clamp (by omega)
    have e' : l = (p ++ [y]) ++ x :: m := by rw [e]; simp
    have hlp : (p ++ [y]).length = p.length + 1 := by simp
    have hrev : (p ++ [y]).reverse = y :: p.reverse := by simp
    have IH := ih (p ++ [y]) x e'
    rw [hlp, hrev] at IH
    have hs' := hs
    rw [e] at hs'
    have ek := en_K_pre hs'
    have ed : en_Rr (en_w L t) (x :: y :: p.reverse) = max (en_K (en_w L t) (y :: p.reverse) x) (en_Rr (en_w L t) (y :: p.reverse)) := rfl
    rw [ek] at ed
    have hcp := (en_cp_le (en_w L t y) (en_w L t x)).2
    rw [en_w_len] at hcp
    have bx := en_E_b hL hx
    have hR : en_Rr (en_w L t) (y :: p.reverse) ≤ 9 := by
      apply en_Rr_le
      intro v hv
      have hvl : v ∈ l := by
        rw [e]
        rcases List.mem_cons.mp hv with z | z
        · rw [z]; simp
        · simp [List.mem_reverse.mp z]
      rw [en_w_len]
      exact (en_E_b hL (hE v hvl)).2.2.1
    refine br_f (nI_ge (by omega) (by omega)) ?_
    rw [e1, ec, ec2, a'.2.1, a'.2.2.1]
    refine ⟨vp_in_nI (by omega) (by decide), vp_in_nI (by omega) (by decide), ?_⟩
    refine xw_common _ ht hL hy hx ?_
    generalize en_cp (en_w L t y) (en_w L t x) = cp at *
    refine pk_le cp (en_Rr (en_w L t) (y :: p.reverse)) (fun z => ?_) (fun z => ?_)
    · refine nm_r (nI_1 (p.length + 1)) ?_
      rw [show en_Rr (en_w L t) (x :: y :: p.reverse) = en_Rr (en_w L t) (y :: p.reverse) from by omega] at IH
      exact IH
    · refine nm_r (nI_1 (p.length + 1)) ?_
      rw [show en_Rr (en_w L t) (x :: y :: p.reverse) = cp from by omega] at IH
      exact IH
end
