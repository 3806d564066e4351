/-! The class's steps on polynomials: what they leave in top and bottom -/
theorem pf_4 : (4 : Fin 5) = -1 := by decide
def pr_put (S P Q : PF) (m : Nat) : PF := pf_sP (fun k => pf_T S P Q k m) (m + 1)
theorem pr_T_top {S P Q : PF} {m j : Nat} (hj : j ≤ m) : pf_T S P Q j m = pf_mul (pf_c (S j)) (pf_mul (pf_pow P j) (pf_pow Q (m - j))) := by
  unfold pf_T
  by_cases c : m ≤ j
  · have e : m = j := by omega
    subst e; rw [if_pos c]
  · rw [if_neg c]
section
variable {f_tokenCount f_latestPlace f_stepCount f_waitingCount f_stackCount f_factorCount : Int32} {a_tokenKind a_tokenContent a_stepKind a_stepToken a_waitingKind a_waitingToken a_present a_cells a_leftTop a_leftBottom a_rightTop a_rightBottom a_top a_bottom a_product a_quotient a_common a_spare a_rest a_divisor a_inverse a_numerator a_factorDegrees a_factorPowers a_factorCells : Nat → Int32}
theorem xg_addSides {post : Int32 → SX → Prop} {x : Int32} {P1 Q1 P2 Q2 : PF} (y : Fin 5) (h1 : xv a_leftTop P1) (h2 : xv a_leftBottom Q1) (h3 : xv a_rightTop P2) (h4 : xv a_rightBottom Q2)
    (h : ∀ a_leftTop a_leftBottom a_rightTop a_rightBottom a_top a_bottom a_product a_quotient a_common a_spare a_rest a_divisor a_inverse a_numerator : Nat → Int32, xv a_top (pf_add (pf_mul P1 Q2) (pf_mul (pf_c y) (pf_mul P2 Q1))) → xv a_bottom (pf_mul Q1 Q2) → post 0 (f_tokenCount, f_latestPlace, f_stepCount, f_waitingCount, f_stackCount, f_factorCount, a_tokenKind, a_tokenContent, a_stepKind, a_stepToken, a_waitingKind, a_waitingToken, a_present, a_cells, a_leftTop, a_leftBottom, a_rightTop, a_rightBottom, a_top, a_bottom, a_product, a_quotient, a_common, a_spare, a_rest, a_divisor, a_inverse, a_numerator, a_factorDegrees, a_factorPowers, a_factorCells)) (ex : x = fi_I y := by rfl) : wpX_addSides post (f_tokenCount, f_latestPlace, f_stepCount, f_waitingCount, f_stackCount, f_factorCount, a_tokenKind, a_tokenContent, a_stepKind, a_stepToken, a_waitingKind, a_waitingToken, a_present, a_cells, a_leftTop, a_leftBottom, a_rightTop, a_rightBottom, a_top, a_bottom, a_product, a_quotient, a_common, a_spare, a_rest, a_divisor, a_inverse, a_numerator, a_factorDegrees, a_factorPowers, a_factorCells) x := by
  unfold wpX_addSides
  refine xf_multiply__leftTop_rightBottom_top h1 h4 (fun a_top t1 => xf_multiply__rightTop_leftBottom_product h3 h2 (fun a_product t2 => xf_addMultiple__top_product y t1 t2 (fun a_top t3 => xf_multiply__leftBottom_rightBottom_bottom h2 h4 (fun a_bottom t4 => h _ _ _ _ _ _ _ _ _ _ _ _ _ _ ?_ t4)) ex))
  have e : (fun k => pf_mul P1 Q2 k + y * pf_mul P2 Q1 k) = pf_add (pf_mul P1 Q2) (pf_mul (pf_c y) (pf_mul P2 Q1)) := by
    rw [pf_mul_cl]; rfl
  rw [← e]; exact t3
theorem xg_multiplySides {post : Int32 → SX → Prop} {P1 Q1 P2 Q2 : PF} (h1 : xv a_leftTop P1) (h2 : xv a_leftBottom Q1) (h3 : xv a_rightTop P2) (h4 : xv a_rightBottom Q2)
    (h : ∀ a_leftTop a_leftBottom a_rightTop a_rightBottom a_top a_bottom a_product a_quotient a_common a_spare a_rest a_divisor a_inverse a_numerator : Nat → Int32, xv a_top (pf_mul P1 P2) → xv a_bottom (pf_mul Q1 Q2) → post 0 (f_tokenCount, f_latestPlace, f_stepCount, f_waitingCount, f_stackCount, f_factorCount, a_tokenKind, a_tokenContent, a_stepKind, a_stepToken, a_waitingKind, a_waitingToken, a_present, a_cells, a_leftTop, a_leftBottom, a_rightTop, a_rightBottom, a_top, a_bottom, a_product, a_quotient, a_common, a_spare, a_rest, a_divisor, a_inverse, a_numerator, a_factorDegrees, a_factorPowers, a_factorCells)) : wpX_multiplySides post (f_tokenCount, f_latestPlace, f_stepCount, f_waitingCount, f_stackCount, f_factorCount, a_tokenKind, a_tokenContent, a_stepKind, a_stepToken, a_waitingKind, a_waitingToken, a_present, a_cells, a_leftTop, a_leftBottom, a_rightTop, a_rightBottom, a_top, a_bottom, a_product, a_quotient, a_common, a_spare, a_rest, a_divisor, a_inverse, a_numerator, a_factorDegrees, a_factorPowers, a_factorCells) := by
  unfold wpX_multiplySides
  exact xf_multiply__leftTop_rightTop_top h1 h3 (fun a_top t1 => xf_multiply__leftBottom_rightBottom_bottom h2 h4 (fun a_bottom t2 => h _ _ _ _ _ _ _ _ _ _ _ _ _ _ t1 t2))
theorem xg_divideSides {post : Int32 → SX → Prop} {P1 Q1 P2 Q2 : PF} (h1 : xv a_leftTop P1) (h2 : xv a_leftBottom Q1) (h3 : xv a_rightTop P2) (h4 : xv a_rightBottom Q2) (l3 : pf_ln P2 17)
    (z : P2 = pf_c 0 → ∀ a_leftTop a_leftBottom a_rightTop a_rightBottom a_top a_bottom a_product a_quotient a_common a_spare a_rest a_divisor a_inverse a_numerator : Nat → Int32, post 3 (f_tokenCount, f_latestPlace, f_stepCount, f_waitingCount, f_stackCount, f_factorCount, a_tokenKind, a_tokenContent, a_stepKind, a_stepToken, a_waitingKind, a_waitingToken, a_present, a_cells, a_leftTop, a_leftBottom, a_rightTop, a_rightBottom, a_top, a_bottom, a_product, a_quotient, a_common, a_spare, a_rest, a_divisor, a_inverse, a_numerator, a_factorDegrees, a_factorPowers, a_factorCells)) (h : P2 ≠ pf_c 0 → ∀ a_leftTop a_leftBottom a_rightTop a_rightBottom a_top a_bottom a_product a_quotient a_common a_spare a_rest a_divisor a_inverse a_numerator : Nat → Int32, xv a_top (pf_mul P1 Q2) → xv a_bottom (pf_mul Q1 P2) → post 0 (f_tokenCount, f_latestPlace, f_stepCount, f_waitingCount, f_stackCount, f_factorCount, a_tokenKind, a_tokenContent, a_stepKind, a_stepToken, a_waitingKind, a_waitingToken, a_present, a_cells, a_leftTop, a_leftBottom, a_rightTop, a_rightBottom, a_top, a_bottom, a_product, a_quotient, a_common, a_spare, a_rest, a_divisor, a_inverse, a_numerator, a_factorDegrees, a_factorPowers, a_factorCells)) : wpX_divideSides post (f_tokenCount, f_latestPlace, f_stepCount, f_waitingCount, f_stackCount, f_factorCount, a_tokenKind, a_tokenContent, a_stepKind, a_stepToken, a_waitingKind, a_waitingToken, a_present, a_cells, a_leftTop, a_leftBottom, a_rightTop, a_rightBottom, a_top, a_bottom, a_product, a_quotient, a_common, a_spare, a_rest, a_divisor, a_inverse, a_numerator, a_factorDegrees, a_factorPowers, a_factorCells) := by
  unfold wpX_divideSides
  exact xf_degreeOf__rightTop h3 l3 (fun e => br_f (by decide) (z e _ _ _ _ _ _ _ _ _ _ _ _ _ _)) (fun d hd hD => br_t (nI_pos' (by omega)) (xf_multiply__leftTop_rightBottom_top h1 h4 (fun a_top t1 => xf_multiply__leftBottom_rightTop_bottom h2 h3 (fun a_bottom t2 => h (pf_hd_n0 hD) _ _ _ _ _ _ _ _ _ _ _ _ _ _ t1 t2))))
theorem xg_negate {post : Int32 → SX → Prop} {P1 Q1 : PF} (h1 : xv a_leftTop P1) (h2 : xv a_leftBottom Q1)
    (h : ∀ a_leftTop a_leftBottom a_rightTop a_rightBottom a_top a_bottom a_product a_quotient a_common a_spare a_rest a_divisor a_inverse a_numerator : Nat → Int32, xv a_top (pf_mul (pf_c 4) P1) → xv a_bottom Q1 → post 0 (f_tokenCount, f_latestPlace, f_stepCount, f_waitingCount, f_stackCount, f_factorCount, a_tokenKind, a_tokenContent, a_stepKind, a_stepToken, a_waitingKind, a_waitingToken, a_present, a_cells, a_leftTop, a_leftBottom, a_rightTop, a_rightBottom, a_top, a_bottom, a_product, a_quotient, a_common, a_spare, a_rest, a_divisor, a_inverse, a_numerator, a_factorDegrees, a_factorPowers, a_factorCells)) : wpX_negate post (f_tokenCount, f_latestPlace, f_stepCount, f_waitingCount, f_stackCount, f_factorCount, a_tokenKind, a_tokenContent, a_stepKind, a_stepToken, a_waitingKind, a_waitingToken, a_present, a_cells, a_leftTop, a_leftBottom, a_rightTop, a_rightBottom, a_top, a_bottom, a_product, a_quotient, a_common, a_spare, a_rest, a_divisor, a_inverse, a_numerator, a_factorDegrees, a_factorPowers, a_factorCells) := by
  unfold wpX_negate
  refine xf_setNumber__top 0 (fun a_top t0 => xf_addMultiple__top_leftTop 4 t0 h1 (fun a_top t1 => xf_copy__leftBottom_bottom h2 (fun a_bottom t2 => h _ _ _ _ _ _ _ _ _ _ _ _ _ _ ?_ t2)))
  refine xv_e t1 (fun k _ => ?_)
  rw [pf_mul_cl, pf_c0]; grind
theorem xg_modulo {post : Int32 → Prop} {x : Int32} (h : post (fi_I (fi_z x))) : wpX_modulo post x := by
  refine ⟨by decide, fun y ey => ?_⟩
  subst ey
  refine br_c (fun c => ?_) (fun c => ?_)
  · rw [fi_zP x c]; exact h
  · rw [fi_zN x c]; exact h
theorem xg_takeNumber {post : Int32 → SX → Prop} {x : Int32} (h : ∀ a_leftTop a_leftBottom a_rightTop a_rightBottom a_top a_bottom a_product a_quotient a_common a_spare a_rest a_divisor a_inverse a_numerator : Nat → Int32, xv a_top (pf_c (fi_z x)) → xv a_bottom (pf_c 1) → post 0 (f_tokenCount, f_latestPlace, f_stepCount, f_waitingCount, f_stackCount, f_factorCount, a_tokenKind, a_tokenContent, a_stepKind, a_stepToken, a_waitingKind, a_waitingToken, a_present, a_cells, a_leftTop, a_leftBottom, a_rightTop, a_rightBottom, a_top, a_bottom, a_product, a_quotient, a_common, a_spare, a_rest, a_divisor, a_inverse, a_numerator, a_factorDegrees, a_factorPowers, a_factorCells)) : wpX_takeNumber post (f_tokenCount, f_latestPlace, f_stepCount, f_waitingCount, f_stackCount, f_factorCount, a_tokenKind, a_tokenContent, a_stepKind, a_stepToken, a_waitingKind, a_waitingToken, a_present, a_cells, a_leftTop, a_leftBottom, a_rightTop, a_rightBottom, a_top, a_bottom, a_product, a_quotient, a_common, a_spare, a_rest, a_divisor, a_inverse, a_numerator, a_factorDegrees, a_factorPowers, a_factorCells) x := by
  unfold wpX_takeNumber
  exact xg_modulo (xf_setNumber__top (fi_z x) (fun a_top t1 => xf_setNumber__bottom 1 (fun a_bottom t2 => h _ _ _ _ _ _ _ _ _ _ _ _ _ _ t1 t2)))
theorem xg_takeX {post : Int32 → SX → Prop} (h : ∀ a_leftTop a_leftBottom a_rightTop a_rightBottom a_top a_bottom a_product a_quotient a_common a_spare a_rest a_divisor a_inverse a_numerator : Nat → Int32, xv a_top (pf_mn 1 1) → xv a_bottom (pf_c 1) → post 0 (f_tokenCount, f_latestPlace, f_stepCount, f_waitingCount, f_stackCount, f_factorCount, a_tokenKind, a_tokenContent, a_stepKind, a_stepToken, a_waitingKind, a_waitingToken, a_present, a_cells, a_leftTop, a_leftBottom, a_rightTop, a_rightBottom, a_top, a_bottom, a_product, a_quotient, a_common, a_spare, a_rest, a_divisor, a_inverse, a_numerator, a_factorDegrees, a_factorPowers, a_factorCells)) : wpX_takeX post (f_tokenCount, f_latestPlace, f_stepCount, f_waitingCount, f_stackCount, f_factorCount, a_tokenKind, a_tokenContent, a_stepKind, a_stepToken, a_waitingKind, a_waitingToken, a_present, a_cells, a_leftTop, a_leftBottom, a_rightTop, a_rightBottom, a_top, a_bottom, a_product, a_quotient, a_common, a_spare, a_rest, a_divisor, a_inverse, a_numerator, a_factorDegrees, a_factorPowers, a_factorCells) := by
  unfold wpX_takeX
  refine xf_setNumber__top 0 (fun a_top t1 => nm_e (xf_setNumber__bottom 1 (fun a_bottom t2 => h _ _ _ _ _ _ _ _ _ _ _ _ _ _ (fun k hk => ?_) t2)))
  show upd a_top 1 1 k = fi_I (if k = 1 then 1 else 0)
  by_cases c : k = 1
  · subst c; rw [pk_us, if_pos rfl]; rfl
  · rw [pk_un c, if_neg c, t1 k hk, pf_c0]
theorem xg_differentiate {post : Int32 → SX → Prop} {P1 Q1 : PF} (h1 : xv a_leftTop P1) (h2 : xv a_leftBottom Q1) (l1 : pf_ln P1 17) (l2 : pf_ln Q1 17)
    (h : ∀ a_leftTop a_leftBottom a_rightTop a_rightBottom a_top a_bottom a_product a_quotient a_common a_spare a_rest a_divisor a_inverse a_numerator : Nat → Int32, xv a_top (pf_add (pf_mul (pf_dr P1) Q1) (pf_mul (pf_c (-1)) (pf_mul P1 (pf_dr Q1)))) → xv a_bottom (pf_mul Q1 Q1) → post 0 (f_tokenCount, f_latestPlace, f_stepCount, f_waitingCount, f_stackCount, f_factorCount, a_tokenKind, a_tokenContent, a_stepKind, a_stepToken, a_waitingKind, a_waitingToken, a_present, a_cells, a_leftTop, a_leftBottom, a_rightTop, a_rightBottom, a_top, a_bottom, a_product, a_quotient, a_common, a_spare, a_rest, a_divisor, a_inverse, a_numerator, a_factorDegrees, a_factorPowers, a_factorCells)) : wpX_differentiate post (f_tokenCount, f_latestPlace, f_stepCount, f_waitingCount, f_stackCount, f_factorCount, a_tokenKind, a_tokenContent, a_stepKind, a_stepToken, a_waitingKind, a_waitingToken, a_present, a_cells, a_leftTop, a_leftBottom, a_rightTop, a_rightBottom, a_top, a_bottom, a_product, a_quotient, a_common, a_spare, a_rest, a_divisor, a_inverse, a_numerator, a_factorDegrees, a_factorPowers, a_factorCells) := by
  unfold wpX_differentiate
  refine xf_takeDerivative__leftTop_spare h1 l1 (fun a_spare t1 => xf_multiply__spare_leftBottom_top t1 h2 (fun a_top t2 => xf_takeDerivative__leftBottom_spare h2 l2 (fun a_spare t3 => xf_multiply__spare_leftTop_product t3 h1 (fun a_product t4 => xf_addMultiple__top_product (-1) t2 t4 (fun a_top t5 => xf_multiply__leftBottom_leftBottom_bottom h2 h2 (fun a_bottom t6 => h _ _ _ _ _ _ _ _ _ _ _ _ _ _ ?_ t6)) (by decide)))))
  have e : (fun k => pf_mul (pf_dr P1) Q1 k + (-1) * pf_mul (pf_dr Q1) P1 k) = pf_add (pf_mul (pf_dr P1) Q1) (pf_mul (pf_c (-1)) (pf_mul P1 (pf_dr Q1))) := by
    rw [pf_mul_comm P1, pf_mul_cl]; rfl
  rw [← e]; exact t5
theorem xg_subst1 {post : SX → Prop} {S P Q : PF} (m : Nat) (hm : m < 17) (hS : xv a_leftTop S) (hP : xv a_rightTop P) (hQ : xv a_rightBottom Q)
    (h : ∀ a_top a_product a_spare : Nat → Int32, xv a_top (pr_put S P Q m) → post (f_tokenCount, f_latestPlace, f_stepCount, f_waitingCount, f_stackCount, f_factorCount, a_tokenKind, a_tokenContent, a_stepKind, a_stepToken, a_waitingKind, a_waitingToken, a_present, a_cells, a_leftTop, a_leftBottom, a_rightTop, a_rightBottom, a_top, a_bottom, a_product, a_quotient, a_common, a_spare, a_rest, a_divisor, a_inverse, a_numerator, a_factorDegrees, a_factorPowers, a_factorCells)) : wpX_substitute__leftTop_top post (f_tokenCount, f_latestPlace, f_stepCount, f_waitingCount, f_stackCount, f_factorCount, a_tokenKind, a_tokenContent, a_stepKind, a_stepToken, a_waitingKind, a_waitingToken, a_present, a_cells, a_leftTop, a_leftBottom, a_rightTop, a_rightBottom, a_top, a_bottom, a_product, a_quotient, a_common, a_spare, a_rest, a_divisor, a_inverse, a_numerator, a_factorDegrees, a_factorPowers, a_factorCells) (nI m) := by
  have loop : ∀ j, ∀ (U : PF) (a_top a_product a_spare : Nat → Int32), j ≤ m + 1 → xv a_top U → xv a_spare (pf_pow Q (m + 1 - j)) → pr_put S P Q m = pf_add (pf_mul U (pf_pow P j)) (pf_sP (fun k => pf_T S P Q k m) j) → wX_substitute__leftTop_top_16 post (j + 1) (nI j + (-1)) f_tokenCount f_latestPlace f_stepCount f_waitingCount f_stackCount f_factorCount a_tokenKind a_tokenContent a_stepKind a_stepToken a_waitingKind a_waitingToken a_present a_cells a_leftTop a_leftBottom a_rightTop a_rightBottom a_top a_bottom a_product a_quotient a_common a_spare a_rest a_divisor a_inverse a_numerator a_factorDegrees a_factorPowers a_factorCells := by
    intro j
    induction j with
    | zero =>
      intro U a_top a_product a_spare _ hU _ e
      have e0 : nI 0 + (-1) = -1 := by decide
      rw [e0]
      refine br_t (by decide) (h _ _ _ ?_)
      have e2 : pr_put S P Q m = U := by
        rw [e]
        show pf_add (pf_mul U (pf_c 1)) (pf_c 0) = U
        rw [pf_mul1, pf_add_0]
      rw [e2]; exact hU
    | succ j ih =>
      intro U a_top a_product a_spare hj hU hs e
      rw [pk_m1]
      refine br_f (nI_pos (by omega)) (xf_multiply__top_rightTop_product hU hP (fun a_product t1 => xf_copy__product_top t1 (fun a_top t2 => ⟨vp_in_nI (by omega) (by omega), ?_⟩)))
      refine xf_addMultiple__top_spare (S j) t2 hs (fun a_top t3 => xf_multiply__spare_rightBottom_product hs hQ (fun a_product t4 => xf_copy__product_spare t4 (fun a_spare t5 => nm_e (ih _ _ _ _ (by omega) t3 ?_ ?_)))) (by rw [nI_clamp (by omega)]; exact hS j (by omega))
      · have e1 : m + 1 - j = (m + 1 - (j + 1)) + 1 := by omega
        rw [e1]; exact t5
      · rw [e]
        have eU : (fun k => pf_mul U P k + S j * pf_pow Q (m + 1 - (j + 1)) k) = pf_add (pf_mul U P) (pf_mul (pf_c (S j)) (pf_pow Q (m + 1 - (j + 1)))) := by
          rw [pf_mul_cl]; rfl
        rw [eU]
        show pf_add (pf_mul U (pf_mul (pf_pow P j) P)) (pf_add (pf_sP (fun k => pf_T S P Q k m) j) (pf_T S P Q j m)) = _
        rw [pr_T_top (by omega)]
        have e2 : m + 1 - (j + 1) = m - j := by omega
        rw [e2]
        generalize pf_sP (fun k => pf_T S P Q k m) j = T
        generalize pf_pow P j = p
        generalize pf_pow Q (m - j) = q
        generalize pf_c (S j) = c
        letI := pf_ring
        show U * (p * P) + (T + c * (p * q)) = (U * P + c * q) * p + T
        grind
  unfold wpX_substitute__leftTop_top
  refine xf_setNumber__top 0 (fun a_top t1 => xf_setNumber__spare 1 (fun a_spare t2 => ?_))
  have t := loop (m + 1) (pf_c 0) a_top a_product a_spare (Nat.le_refl _) t1 (by rw [Nat.sub_self]; exact t2) (by
    unfold pr_put
    rw [pf_zero_mul]
    letI := pf_ring
    generalize pf_sP (fun k => pf_T S P Q k m) (m + 1) = T
    show T = 0 + T
    grind)
  rw [pk_m1] at t
  exact ⟨m + 2, t⟩
theorem xg_subst2 {post : SX → Prop} {S P Q : PF} (m : Nat) (hm : m < 17) (hS : xv a_leftBottom S) (hP : xv a_rightTop P) (hQ : xv a_rightBottom Q)
    (h : ∀ a_bottom a_product a_spare : Nat → Int32, xv a_bottom (pr_put S P Q m) → post (f_tokenCount, f_latestPlace, f_stepCount, f_waitingCount, f_stackCount, f_factorCount, a_tokenKind, a_tokenContent, a_stepKind, a_stepToken, a_waitingKind, a_waitingToken, a_present, a_cells, a_leftTop, a_leftBottom, a_rightTop, a_rightBottom, a_top, a_bottom, a_product, a_quotient, a_common, a_spare, a_rest, a_divisor, a_inverse, a_numerator, a_factorDegrees, a_factorPowers, a_factorCells)) : wpX_substitute__leftBottom_bottom post (f_tokenCount, f_latestPlace, f_stepCount, f_waitingCount, f_stackCount, f_factorCount, a_tokenKind, a_tokenContent, a_stepKind, a_stepToken, a_waitingKind, a_waitingToken, a_present, a_cells, a_leftTop, a_leftBottom, a_rightTop, a_rightBottom, a_top, a_bottom, a_product, a_quotient, a_common, a_spare, a_rest, a_divisor, a_inverse, a_numerator, a_factorDegrees, a_factorPowers, a_factorCells) (nI m) := by
  have loop : ∀ j, ∀ (U : PF) (a_bottom a_product a_spare : Nat → Int32), j ≤ m + 1 → xv a_bottom U → xv a_spare (pf_pow Q (m + 1 - j)) → pr_put S P Q m = pf_add (pf_mul U (pf_pow P j)) (pf_sP (fun k => pf_T S P Q k m) j) → wX_substitute__leftBottom_bottom_16 post (j + 1) (nI j + (-1)) f_tokenCount f_latestPlace f_stepCount f_waitingCount f_stackCount f_factorCount a_tokenKind a_tokenContent a_stepKind a_stepToken a_waitingKind a_waitingToken a_present a_cells a_leftTop a_leftBottom a_rightTop a_rightBottom a_top a_bottom a_product a_quotient a_common a_spare a_rest a_divisor a_inverse a_numerator a_factorDegrees a_factorPowers a_factorCells := by
    intro j
    induction j with
    | zero =>
      intro U a_bottom a_product a_spare _ hU _ e
      have e0 : nI 0 + (-1) = -1 := by decide
      rw [e0]
      refine br_t (by decide) (h _ _ _ ?_)
      have e2 : pr_put S P Q m = U := by
        rw [e]
        show pf_add (pf_mul U (pf_c 1)) (pf_c 0) = U
        rw [pf_mul1, pf_add_0]
      rw [e2]; exact hU
    | succ j ih =>
      intro U a_bottom a_product a_spare hj hU hs e
      rw [pk_m1]
      refine br_f (nI_pos (by omega)) (xf_multiply__bottom_rightTop_product hU hP (fun a_product t1 => xf_copy__product_bottom t1 (fun a_bottom t2 => ⟨vp_in_nI (by omega) (by omega), ?_⟩)))
      refine xf_addMultiple__bottom_spare (S j) t2 hs (fun a_bottom t3 => xf_multiply__spare_rightBottom_product hs hQ (fun a_product t4 => xf_copy__product_spare t4 (fun a_spare t5 => nm_e (ih _ _ _ _ (by omega) t3 ?_ ?_)))) (by rw [nI_clamp (by omega)]; exact hS j (by omega))
      · have e1 : m + 1 - j = (m + 1 - (j + 1)) + 1 := by omega
        rw [e1]; exact t5
      · rw [e]
        have eU : (fun k => pf_mul U P k + S j * pf_pow Q (m + 1 - (j + 1)) k) = pf_add (pf_mul U P) (pf_mul (pf_c (S j)) (pf_pow Q (m + 1 - (j + 1)))) := by
          rw [pf_mul_cl]; rfl
        rw [eU]
        show pf_add (pf_mul U (pf_mul (pf_pow P j) P)) (pf_add (pf_sP (fun k => pf_T S P Q k m) j) (pf_T S P Q j m)) = _
        rw [pr_T_top (by omega)]
        have e2 : m + 1 - (j + 1) = m - j := by omega
        rw [e2]
        generalize pf_sP (fun k => pf_T S P Q k m) j = T
        generalize pf_pow P j = p
        generalize pf_pow Q (m - j) = q
        generalize pf_c (S j) = c
        letI := pf_ring
        show U * (p * P) + (T + c * (p * q)) = (U * P + c * q) * p + T
        grind
  unfold wpX_substitute__leftBottom_bottom
  refine xf_setNumber__bottom 0 (fun a_bottom t1 => xf_setNumber__spare 1 (fun a_spare t2 => ?_))
  have t := loop (m + 1) (pf_c 0) a_bottom a_product a_spare (Nat.le_refl _) t1 (by rw [Nat.sub_self]; exact t2) (by
    unfold pr_put
    rw [pf_zero_mul]
    letI := pf_ring
    generalize pf_sP (fun k => pf_T S P Q k m) (m + 1) = T
    show T = 0 + T
    grind)
  rw [pk_m1] at t
  exact ⟨m + 2, t⟩
end
