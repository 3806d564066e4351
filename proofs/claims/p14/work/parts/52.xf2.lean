/-! The class's leaves on polynomials (written by wip/p2/gen_x2.py) -/
section
variable {f_tokenCount f_latestPlace f_stepCount f_waitingCount f_stackCount f_factorCount : Int32} {a_tokenKind a_tokenContent a_stepKind a_stepToken a_waitingKind a_waitingToken a_present a_cells a_leftTop a_leftBottom a_rightTop a_rightBottom a_top a_bottom a_product a_quotient a_common a_spare a_rest a_divisor a_inverse a_numerator a_factorDegrees a_factorPowers a_factorCells : Nat → Int32}
theorem xf_load__leftTop {post : SX → Prop} {p0 p1 : Int32} {C : PF} (s t : Nat) (hs : s < 31) (ht : t < 2) (hC : ∀ k, k < 9 → a_cells ((s * 2 + t) * 9 + k) = fi_I (C k)) (lC : pf_ln C 9) (h : ∀ a_leftTop : Nat → Int32, xv a_leftTop C → post (f_tokenCount, f_latestPlace, f_stepCount, f_waitingCount, f_stackCount, f_factorCount, a_tokenKind, a_tokenContent, a_stepKind, a_stepToken, a_waitingKind, a_waitingToken, a_present, a_cells, a_leftTop, a_leftBottom, a_rightTop, a_rightBottom, a_top, a_bottom, a_product, a_quotient, a_common, a_spare, a_rest, a_divisor, a_inverse, a_numerator, a_factorDegrees, a_factorPowers, a_factorCells)) (e0 : p0 = nI s := by rfl) (e1 : p1 = nI t := by rfl) : wpX_load__leftTop post (f_tokenCount, f_latestPlace, f_stepCount, f_waitingCount, f_stackCount, f_factorCount, a_tokenKind, a_tokenContent, a_stepKind, a_stepToken, a_waitingKind, a_waitingToken, a_present, a_cells, a_leftTop, a_leftBottom, a_rightTop, a_rightBottom, a_top, a_bottom, a_product, a_quotient, a_common, a_spare, a_rest, a_divisor, a_inverse, a_numerator, a_factorDegrees, a_factorPowers, a_factorCells) p0 p1 := by
  subst e0 e1
  have es : (nI s * 2 + nI t) * 9 = nI ((s * 2 + t) * 9) := xv_st s t
  have key : ∀ d j, ∀ a_leftTop : Nat → Int32, j + d = 9 → xv a_leftTop (fun k => if k < j then C k else 0) → wX_load__leftTop_28 post (nI ((s * 2 + t) * 9)) f_tokenCount f_latestPlace f_stepCount f_waitingCount f_stackCount f_factorCount (d + 1) (nI j) a_tokenKind a_tokenContent a_stepKind a_stepToken a_waitingKind a_waitingToken a_present a_cells a_leftTop a_leftBottom a_rightTop a_rightBottom a_top a_bottom a_product a_quotient a_common a_spare a_rest a_divisor a_inverse a_numerator a_factorDegrees a_factorPowers a_factorCells := by
    intro d
    induction d with
    | zero =>
      intro j a_leftTop hj hx
      obtain rfl : j = 9 := by omega
      exact br_t (by decide) (h _ (xv_9 hx lC))
    | succ d ih =>
      intro j a_leftTop hj hx
      refine br_f (nI_ge (b := 9) (by omega) (by decide)) ⟨pk_in ((s * 2 + t) * 9 + j) 558 (by omega) (nI_add _ j), vp_in_nI (by omega) (by omega), nm_e (nm_r (nI_1 j) (ih (j + 1) _ (by omega) ?_))⟩
      rw [nI_add, nI_clamp (by omega), nI_clamp (by omega), hC j (by omega)]; exact xv_ld hx
  unfold wpX_load__leftTop
  refine xf_setNumber__leftTop 0 (fun a_leftTop hx => ?_)
  refine br_f (nI_pos (by omega)) (br_f (nI_ge (b := 31) hs (by decide)) (nm_r es ⟨10, key 9 0 _ rfl ?_⟩))
  exact xv_e hx (fun k _ => by rw [pf_c0, if_neg (by omega)])
theorem xf_load__leftBottom {post : SX → Prop} {p0 p1 : Int32} {C : PF} (s t : Nat) (hs : s < 31) (ht : t < 2) (hC : ∀ k, k < 9 → a_cells ((s * 2 + t) * 9 + k) = fi_I (C k)) (lC : pf_ln C 9) (h : ∀ a_leftBottom : Nat → Int32, xv a_leftBottom C → post (f_tokenCount, f_latestPlace, f_stepCount, f_waitingCount, f_stackCount, f_factorCount, a_tokenKind, a_tokenContent, a_stepKind, a_stepToken, a_waitingKind, a_waitingToken, a_present, a_cells, a_leftTop, a_leftBottom, a_rightTop, a_rightBottom, a_top, a_bottom, a_product, a_quotient, a_common, a_spare, a_rest, a_divisor, a_inverse, a_numerator, a_factorDegrees, a_factorPowers, a_factorCells)) (e0 : p0 = nI s := by rfl) (e1 : p1 = nI t := by rfl) : wpX_load__leftBottom post (f_tokenCount, f_latestPlace, f_stepCount, f_waitingCount, f_stackCount, f_factorCount, a_tokenKind, a_tokenContent, a_stepKind, a_stepToken, a_waitingKind, a_waitingToken, a_present, a_cells, a_leftTop, a_leftBottom, a_rightTop, a_rightBottom, a_top, a_bottom, a_product, a_quotient, a_common, a_spare, a_rest, a_divisor, a_inverse, a_numerator, a_factorDegrees, a_factorPowers, a_factorCells) p0 p1 := by
  subst e0 e1
  have es : (nI s * 2 + nI t) * 9 = nI ((s * 2 + t) * 9) := xv_st s t
  have key : ∀ d j, ∀ a_leftBottom : Nat → Int32, j + d = 9 → xv a_leftBottom (fun k => if k < j then C k else 0) → wX_load__leftBottom_28 post (nI ((s * 2 + t) * 9)) f_tokenCount f_latestPlace f_stepCount f_waitingCount f_stackCount f_factorCount (d + 1) (nI j) a_tokenKind a_tokenContent a_stepKind a_stepToken a_waitingKind a_waitingToken a_present a_cells a_leftTop a_leftBottom a_rightTop a_rightBottom a_top a_bottom a_product a_quotient a_common a_spare a_rest a_divisor a_inverse a_numerator a_factorDegrees a_factorPowers a_factorCells := by
    intro d
    induction d with
    | zero =>
      intro j a_leftBottom hj hx
      obtain rfl : j = 9 := by omega
      exact br_t (by decide) (h _ (xv_9 hx lC))
    | succ d ih =>
      intro j a_leftBottom hj hx
      refine br_f (nI_ge (b := 9) (by omega) (by decide)) ⟨pk_in ((s * 2 + t) * 9 + j) 558 (by omega) (nI_add _ j), vp_in_nI (by omega) (by omega), nm_e (nm_r (nI_1 j) (ih (j + 1) _ (by omega) ?_))⟩
      rw [nI_add, nI_clamp (by omega), nI_clamp (by omega), hC j (by omega)]; exact xv_ld hx
  unfold wpX_load__leftBottom
  refine xf_setNumber__leftBottom 0 (fun a_leftBottom hx => ?_)
  refine br_f (nI_pos (by omega)) (br_f (nI_ge (b := 31) hs (by decide)) (nm_r es ⟨10, key 9 0 _ rfl ?_⟩))
  exact xv_e hx (fun k _ => by rw [pf_c0, if_neg (by omega)])
theorem xf_load__rightTop {post : SX → Prop} {p0 p1 : Int32} {C : PF} (s t : Nat) (hs : s < 31) (ht : t < 2) (hC : ∀ k, k < 9 → a_cells ((s * 2 + t) * 9 + k) = fi_I (C k)) (lC : pf_ln C 9) (h : ∀ a_rightTop : Nat → Int32, xv a_rightTop C → post (f_tokenCount, f_latestPlace, f_stepCount, f_waitingCount, f_stackCount, f_factorCount, a_tokenKind, a_tokenContent, a_stepKind, a_stepToken, a_waitingKind, a_waitingToken, a_present, a_cells, a_leftTop, a_leftBottom, a_rightTop, a_rightBottom, a_top, a_bottom, a_product, a_quotient, a_common, a_spare, a_rest, a_divisor, a_inverse, a_numerator, a_factorDegrees, a_factorPowers, a_factorCells)) (e0 : p0 = nI s := by rfl) (e1 : p1 = nI t := by rfl) : wpX_load__rightTop post (f_tokenCount, f_latestPlace, f_stepCount, f_waitingCount, f_stackCount, f_factorCount, a_tokenKind, a_tokenContent, a_stepKind, a_stepToken, a_waitingKind, a_waitingToken, a_present, a_cells, a_leftTop, a_leftBottom, a_rightTop, a_rightBottom, a_top, a_bottom, a_product, a_quotient, a_common, a_spare, a_rest, a_divisor, a_inverse, a_numerator, a_factorDegrees, a_factorPowers, a_factorCells) p0 p1 := by
  subst e0 e1
  have es : (nI s * 2 + nI t) * 9 = nI ((s * 2 + t) * 9) := xv_st s t
  have key : ∀ d j, ∀ a_rightTop : Nat → Int32, j + d = 9 → xv a_rightTop (fun k => if k < j then C k else 0) → wX_load__rightTop_28 post (nI ((s * 2 + t) * 9)) f_tokenCount f_latestPlace f_stepCount f_waitingCount f_stackCount f_factorCount (d + 1) (nI j) a_tokenKind a_tokenContent a_stepKind a_stepToken a_waitingKind a_waitingToken a_present a_cells a_leftTop a_leftBottom a_rightTop a_rightBottom a_top a_bottom a_product a_quotient a_common a_spare a_rest a_divisor a_inverse a_numerator a_factorDegrees a_factorPowers a_factorCells := by
    intro d
    induction d with
    | zero =>
      intro j a_rightTop hj hx
      obtain rfl : j = 9 := by omega
      exact br_t (by decide) (h _ (xv_9 hx lC))
    | succ d ih =>
      intro j a_rightTop hj hx
      refine br_f (nI_ge (b := 9) (by omega) (by decide)) ⟨pk_in ((s * 2 + t) * 9 + j) 558 (by omega) (nI_add _ j), vp_in_nI (by omega) (by omega), nm_e (nm_r (nI_1 j) (ih (j + 1) _ (by omega) ?_))⟩
      rw [nI_add, nI_clamp (by omega), nI_clamp (by omega), hC j (by omega)]; exact xv_ld hx
  unfold wpX_load__rightTop
  refine xf_setNumber__rightTop 0 (fun a_rightTop hx => ?_)
  refine br_f (nI_pos (by omega)) (br_f (nI_ge (b := 31) hs (by decide)) (nm_r es ⟨10, key 9 0 _ rfl ?_⟩))
  exact xv_e hx (fun k _ => by rw [pf_c0, if_neg (by omega)])
theorem xf_load__rightBottom {post : SX → Prop} {p0 p1 : Int32} {C : PF} (s t : Nat) (hs : s < 31) (ht : t < 2) (hC : ∀ k, k < 9 → a_cells ((s * 2 + t) * 9 + k) = fi_I (C k)) (lC : pf_ln C 9) (h : ∀ a_rightBottom : Nat → Int32, xv a_rightBottom C → post (f_tokenCount, f_latestPlace, f_stepCount, f_waitingCount, f_stackCount, f_factorCount, a_tokenKind, a_tokenContent, a_stepKind, a_stepToken, a_waitingKind, a_waitingToken, a_present, a_cells, a_leftTop, a_leftBottom, a_rightTop, a_rightBottom, a_top, a_bottom, a_product, a_quotient, a_common, a_spare, a_rest, a_divisor, a_inverse, a_numerator, a_factorDegrees, a_factorPowers, a_factorCells)) (e0 : p0 = nI s := by rfl) (e1 : p1 = nI t := by rfl) : wpX_load__rightBottom post (f_tokenCount, f_latestPlace, f_stepCount, f_waitingCount, f_stackCount, f_factorCount, a_tokenKind, a_tokenContent, a_stepKind, a_stepToken, a_waitingKind, a_waitingToken, a_present, a_cells, a_leftTop, a_leftBottom, a_rightTop, a_rightBottom, a_top, a_bottom, a_product, a_quotient, a_common, a_spare, a_rest, a_divisor, a_inverse, a_numerator, a_factorDegrees, a_factorPowers, a_factorCells) p0 p1 := by
  subst e0 e1
  have es : (nI s * 2 + nI t) * 9 = nI ((s * 2 + t) * 9) := xv_st s t
  have key : ∀ d j, ∀ a_rightBottom : Nat → Int32, j + d = 9 → xv a_rightBottom (fun k => if k < j then C k else 0) → wX_load__rightBottom_28 post (nI ((s * 2 + t) * 9)) f_tokenCount f_latestPlace f_stepCount f_waitingCount f_stackCount f_factorCount (d + 1) (nI j) a_tokenKind a_tokenContent a_stepKind a_stepToken a_waitingKind a_waitingToken a_present a_cells a_leftTop a_leftBottom a_rightTop a_rightBottom a_top a_bottom a_product a_quotient a_common a_spare a_rest a_divisor a_inverse a_numerator a_factorDegrees a_factorPowers a_factorCells := by
    intro d
    induction d with
    | zero =>
      intro j a_rightBottom hj hx
      obtain rfl : j = 9 := by omega
      exact br_t (by decide) (h _ (xv_9 hx lC))
    | succ d ih =>
      intro j a_rightBottom hj hx
      refine br_f (nI_ge (b := 9) (by omega) (by decide)) ⟨pk_in ((s * 2 + t) * 9 + j) 558 (by omega) (nI_add _ j), vp_in_nI (by omega) (by omega), nm_e (nm_r (nI_1 j) (ih (j + 1) _ (by omega) ?_))⟩
      rw [nI_add, nI_clamp (by omega), nI_clamp (by omega), hC j (by omega)]; exact xv_ld hx
  unfold wpX_load__rightBottom
  refine xf_setNumber__rightBottom 0 (fun a_rightBottom hx => ?_)
  refine br_f (nI_pos (by omega)) (br_f (nI_ge (b := 31) hs (by decide)) (nm_r es ⟨10, key 9 0 _ rfl ?_⟩))
  exact xv_e hx (fun k _ => by rw [pf_c0, if_neg (by omega)])
theorem xf_load__top {post : SX → Prop} {p0 p1 : Int32} {C : PF} (s t : Nat) (hs : s < 31) (ht : t < 2) (hC : ∀ k, k < 9 → a_cells ((s * 2 + t) * 9 + k) = fi_I (C k)) (lC : pf_ln C 9) (h : ∀ a_top : Nat → Int32, xv a_top C → post (f_tokenCount, f_latestPlace, f_stepCount, f_waitingCount, f_stackCount, f_factorCount, a_tokenKind, a_tokenContent, a_stepKind, a_stepToken, a_waitingKind, a_waitingToken, a_present, a_cells, a_leftTop, a_leftBottom, a_rightTop, a_rightBottom, a_top, a_bottom, a_product, a_quotient, a_common, a_spare, a_rest, a_divisor, a_inverse, a_numerator, a_factorDegrees, a_factorPowers, a_factorCells)) (e0 : p0 = nI s := by rfl) (e1 : p1 = nI t := by rfl) : wpX_load__top post (f_tokenCount, f_latestPlace, f_stepCount, f_waitingCount, f_stackCount, f_factorCount, a_tokenKind, a_tokenContent, a_stepKind, a_stepToken, a_waitingKind, a_waitingToken, a_present, a_cells, a_leftTop, a_leftBottom, a_rightTop, a_rightBottom, a_top, a_bottom, a_product, a_quotient, a_common, a_spare, a_rest, a_divisor, a_inverse, a_numerator, a_factorDegrees, a_factorPowers, a_factorCells) p0 p1 := by
  subst e0 e1
  have es : (nI s * 2 + nI t) * 9 = nI ((s * 2 + t) * 9) := xv_st s t
  have key : ∀ d j, ∀ a_top : Nat → Int32, j + d = 9 → xv a_top (fun k => if k < j then C k else 0) → wX_load__top_28 post (nI ((s * 2 + t) * 9)) f_tokenCount f_latestPlace f_stepCount f_waitingCount f_stackCount f_factorCount (d + 1) (nI j) a_tokenKind a_tokenContent a_stepKind a_stepToken a_waitingKind a_waitingToken a_present a_cells a_leftTop a_leftBottom a_rightTop a_rightBottom a_top a_bottom a_product a_quotient a_common a_spare a_rest a_divisor a_inverse a_numerator a_factorDegrees a_factorPowers a_factorCells := by
    intro d
    induction d with
    | zero =>
      intro j a_top hj hx
      obtain rfl : j = 9 := by omega
      exact br_t (by decide) (h _ (xv_9 hx lC))
    | succ d ih =>
      intro j a_top hj hx
      refine br_f (nI_ge (b := 9) (by omega) (by decide)) ⟨pk_in ((s * 2 + t) * 9 + j) 558 (by omega) (nI_add _ j), vp_in_nI (by omega) (by omega), nm_e (nm_r (nI_1 j) (ih (j + 1) _ (by omega) ?_))⟩
      rw [nI_add, nI_clamp (by omega), nI_clamp (by omega), hC j (by omega)]; exact xv_ld hx
  unfold wpX_load__top
  refine xf_setNumber__top 0 (fun a_top hx => ?_)
  refine br_f (nI_pos (by omega)) (br_f (nI_ge (b := 31) hs (by decide)) (nm_r es ⟨10, key 9 0 _ rfl ?_⟩))
  exact xv_e hx (fun k _ => by rw [pf_c0, if_neg (by omega)])
theorem xf_load__bottom {post : SX → Prop} {p0 p1 : Int32} {C : PF} (s t : Nat) (hs : s < 31) (ht : t < 2) (hC : ∀ k, k < 9 → a_cells ((s * 2 + t) * 9 + k) = fi_I (C k)) (lC : pf_ln C 9) (h : ∀ a_bottom : Nat → Int32, xv a_bottom C → post (f_tokenCount, f_latestPlace, f_stepCount, f_waitingCount, f_stackCount, f_factorCount, a_tokenKind, a_tokenContent, a_stepKind, a_stepToken, a_waitingKind, a_waitingToken, a_present, a_cells, a_leftTop, a_leftBottom, a_rightTop, a_rightBottom, a_top, a_bottom, a_product, a_quotient, a_common, a_spare, a_rest, a_divisor, a_inverse, a_numerator, a_factorDegrees, a_factorPowers, a_factorCells)) (e0 : p0 = nI s := by rfl) (e1 : p1 = nI t := by rfl) : wpX_load__bottom post (f_tokenCount, f_latestPlace, f_stepCount, f_waitingCount, f_stackCount, f_factorCount, a_tokenKind, a_tokenContent, a_stepKind, a_stepToken, a_waitingKind, a_waitingToken, a_present, a_cells, a_leftTop, a_leftBottom, a_rightTop, a_rightBottom, a_top, a_bottom, a_product, a_quotient, a_common, a_spare, a_rest, a_divisor, a_inverse, a_numerator, a_factorDegrees, a_factorPowers, a_factorCells) p0 p1 := by
  subst e0 e1
  have es : (nI s * 2 + nI t) * 9 = nI ((s * 2 + t) * 9) := xv_st s t
  have key : ∀ d j, ∀ a_bottom : Nat → Int32, j + d = 9 → xv a_bottom (fun k => if k < j then C k else 0) → wX_load__bottom_28 post (nI ((s * 2 + t) * 9)) f_tokenCount f_latestPlace f_stepCount f_waitingCount f_stackCount f_factorCount (d + 1) (nI j) a_tokenKind a_tokenContent a_stepKind a_stepToken a_waitingKind a_waitingToken a_present a_cells a_leftTop a_leftBottom a_rightTop a_rightBottom a_top a_bottom a_product a_quotient a_common a_spare a_rest a_divisor a_inverse a_numerator a_factorDegrees a_factorPowers a_factorCells := by
    intro d
    induction d with
    | zero =>
      intro j a_bottom hj hx
      obtain rfl : j = 9 := by omega
      exact br_t (by decide) (h _ (xv_9 hx lC))
    | succ d ih =>
      intro j a_bottom hj hx
      refine br_f (nI_ge (b := 9) (by omega) (by decide)) ⟨pk_in ((s * 2 + t) * 9 + j) 558 (by omega) (nI_add _ j), vp_in_nI (by omega) (by omega), nm_e (nm_r (nI_1 j) (ih (j + 1) _ (by omega) ?_))⟩
      rw [nI_add, nI_clamp (by omega), nI_clamp (by omega), hC j (by omega)]; exact xv_ld hx
  unfold wpX_load__bottom
  refine xf_setNumber__bottom 0 (fun a_bottom hx => ?_)
  refine br_f (nI_pos (by omega)) (br_f (nI_ge (b := 31) hs (by decide)) (nm_r es ⟨10, key 9 0 _ rfl ?_⟩))
  exact xv_e hx (fun k _ => by rw [pf_c0, if_neg (by omega)])
theorem xf_keep__top {post : SX → Prop} {p0 p1 : Int32} {C : PF} (s t : Nat) (hs : s < 31) (ht : t < 2) (hC : xv a_top C) (h : ∀ cl : Nat → Int32, (∀ k, k < 9 → cl ((s * 2 + t) * 9 + k) = fi_I (C k)) → (∀ i, i < (s * 2 + t) * 9 ∨ (s * 2 + t) * 9 + 9 ≤ i → cl i = a_cells i) → post (f_tokenCount, f_latestPlace, f_stepCount, f_waitingCount, f_stackCount, f_factorCount, a_tokenKind, a_tokenContent, a_stepKind, a_stepToken, a_waitingKind, a_waitingToken, a_present, cl, a_leftTop, a_leftBottom, a_rightTop, a_rightBottom, a_top, a_bottom, a_product, a_quotient, a_common, a_spare, a_rest, a_divisor, a_inverse, a_numerator, a_factorDegrees, a_factorPowers, a_factorCells)) (e0 : p0 = nI s := by rfl) (e1 : p1 = nI t := by rfl) : wpX_keep__top post (f_tokenCount, f_latestPlace, f_stepCount, f_waitingCount, f_stackCount, f_factorCount, a_tokenKind, a_tokenContent, a_stepKind, a_stepToken, a_waitingKind, a_waitingToken, a_present, a_cells, a_leftTop, a_leftBottom, a_rightTop, a_rightBottom, a_top, a_bottom, a_product, a_quotient, a_common, a_spare, a_rest, a_divisor, a_inverse, a_numerator, a_factorDegrees, a_factorPowers, a_factorCells) p0 p1 := by
  subst e0 e1
  have es : (nI s * 2 + nI t) * 9 = nI ((s * 2 + t) * 9) := xv_st s t
  have key : ∀ d j, ∀ cl : Nat → Int32, j + d = 9 → (∀ k, k < j → cl ((s * 2 + t) * 9 + k) = fi_I (C k)) → (∀ i, i < (s * 2 + t) * 9 ∨ (s * 2 + t) * 9 + 9 ≤ i → cl i = a_cells i) → wX_keep__top_23 post (nI ((s * 2 + t) * 9)) f_tokenCount f_latestPlace f_stepCount f_waitingCount f_stackCount f_factorCount (d + 1) (nI j) a_tokenKind a_tokenContent a_stepKind a_stepToken a_waitingKind a_waitingToken a_present (cl) a_leftTop a_leftBottom a_rightTop a_rightBottom a_top a_bottom a_product a_quotient a_common a_spare a_rest a_divisor a_inverse a_numerator a_factorDegrees a_factorPowers a_factorCells := by
    intro d
    induction d with
    | zero =>
      intro j cl hj h1 h2
      obtain rfl : j = 9 := by omega
      exact br_t (by decide) (h _ h1 h2)
    | succ d ih =>
      intro j cl hj h1 h2
      refine br_f (nI_ge (b := 9) (by omega) (by decide)) ⟨vp_in_nI (by omega) (by omega), pk_in ((s * 2 + t) * 9 + j) 558 (by omega) (nI_add _ j), nm_e (nm_r (nI_1 j) (ih (j + 1) _ (by omega) (fun k hk => ?_) (fun i hi => ?_)))⟩
      · rw [nI_add, nI_clamp (by omega), nI_clamp (by omega)]
        by_cases c : k = j
        · subst c; rw [pk_us]; exact hC k (by omega)
        · rw [pk_un (by omega)]; exact h1 k (by omega)
      · rw [nI_add, nI_clamp (by omega), pk_un (by omega)]; exact h2 i hi
  unfold wpX_keep__top
  exact br_f (nI_pos (by omega)) (br_f (nI_ge (b := 31) hs (by decide)) (nm_r es ⟨10, key 9 0 _ rfl (fun k hk => by omega) (fun _ _ => rfl)⟩))
theorem xf_keep__bottom {post : SX → Prop} {p0 p1 : Int32} {C : PF} (s t : Nat) (hs : s < 31) (ht : t < 2) (hC : xv a_bottom C) (h : ∀ cl : Nat → Int32, (∀ k, k < 9 → cl ((s * 2 + t) * 9 + k) = fi_I (C k)) → (∀ i, i < (s * 2 + t) * 9 ∨ (s * 2 + t) * 9 + 9 ≤ i → cl i = a_cells i) → post (f_tokenCount, f_latestPlace, f_stepCount, f_waitingCount, f_stackCount, f_factorCount, a_tokenKind, a_tokenContent, a_stepKind, a_stepToken, a_waitingKind, a_waitingToken, a_present, cl, a_leftTop, a_leftBottom, a_rightTop, a_rightBottom, a_top, a_bottom, a_product, a_quotient, a_common, a_spare, a_rest, a_divisor, a_inverse, a_numerator, a_factorDegrees, a_factorPowers, a_factorCells)) (e0 : p0 = nI s := by rfl) (e1 : p1 = nI t := by rfl) : wpX_keep__bottom post (f_tokenCount, f_latestPlace, f_stepCount, f_waitingCount, f_stackCount, f_factorCount, a_tokenKind, a_tokenContent, a_stepKind, a_stepToken, a_waitingKind, a_waitingToken, a_present, a_cells, a_leftTop, a_leftBottom, a_rightTop, a_rightBottom, a_top, a_bottom, a_product, a_quotient, a_common, a_spare, a_rest, a_divisor, a_inverse, a_numerator, a_factorDegrees, a_factorPowers, a_factorCells) p0 p1 := by
  subst e0 e1
  have es : (nI s * 2 + nI t) * 9 = nI ((s * 2 + t) * 9) := xv_st s t
  have key : ∀ d j, ∀ cl : Nat → Int32, j + d = 9 → (∀ k, k < j → cl ((s * 2 + t) * 9 + k) = fi_I (C k)) → (∀ i, i < (s * 2 + t) * 9 ∨ (s * 2 + t) * 9 + 9 ≤ i → cl i = a_cells i) → wX_keep__bottom_23 post (nI ((s * 2 + t) * 9)) f_tokenCount f_latestPlace f_stepCount f_waitingCount f_stackCount f_factorCount (d + 1) (nI j) a_tokenKind a_tokenContent a_stepKind a_stepToken a_waitingKind a_waitingToken a_present (cl) a_leftTop a_leftBottom a_rightTop a_rightBottom a_top a_bottom a_product a_quotient a_common a_spare a_rest a_divisor a_inverse a_numerator a_factorDegrees a_factorPowers a_factorCells := by
    intro d
    induction d with
    | zero =>
      intro j cl hj h1 h2
      obtain rfl : j = 9 := by omega
      exact br_t (by decide) (h _ h1 h2)
    | succ d ih =>
      intro j cl hj h1 h2
      refine br_f (nI_ge (b := 9) (by omega) (by decide)) ⟨vp_in_nI (by omega) (by omega), pk_in ((s * 2 + t) * 9 + j) 558 (by omega) (nI_add _ j), nm_e (nm_r (nI_1 j) (ih (j + 1) _ (by omega) (fun k hk => ?_) (fun i hi => ?_)))⟩
      · rw [nI_add, nI_clamp (by omega), nI_clamp (by omega)]
        by_cases c : k = j
        · subst c; rw [pk_us]; exact hC k (by omega)
        · rw [pk_un (by omega)]; exact h1 k (by omega)
      · rw [nI_add, nI_clamp (by omega), pk_un (by omega)]; exact h2 i hi
  unfold wpX_keep__bottom
  exact br_f (nI_pos (by omega)) (br_f (nI_ge (b := 31) hs (by decide)) (nm_r es ⟨10, key 9 0 _ rfl (fun k hk => by omega) (fun _ _ => rfl)⟩))
theorem xf_load__rest {post : SX → Prop} {p0 p1 : Int32} {C : PF} (s t : Nat) (hs : s < 31) (ht : t < 2) (hC : ∀ k, k < 9 → a_cells ((s * 2 + t) * 9 + k) = fi_I (C k)) (lC : pf_ln C 9) (h : ∀ a_rest : Nat → Int32, xv a_rest C → post (f_tokenCount, f_latestPlace, f_stepCount, f_waitingCount, f_stackCount, f_factorCount, a_tokenKind, a_tokenContent, a_stepKind, a_stepToken, a_waitingKind, a_waitingToken, a_present, a_cells, a_leftTop, a_leftBottom, a_rightTop, a_rightBottom, a_top, a_bottom, a_product, a_quotient, a_common, a_spare, a_rest, a_divisor, a_inverse, a_numerator, a_factorDegrees, a_factorPowers, a_factorCells)) (e0 : p0 = nI s := by rfl) (e1 : p1 = nI t := by rfl) : wpX_load__rest post (f_tokenCount, f_latestPlace, f_stepCount, f_waitingCount, f_stackCount, f_factorCount, a_tokenKind, a_tokenContent, a_stepKind, a_stepToken, a_waitingKind, a_waitingToken, a_present, a_cells, a_leftTop, a_leftBottom, a_rightTop, a_rightBottom, a_top, a_bottom, a_product, a_quotient, a_common, a_spare, a_rest, a_divisor, a_inverse, a_numerator, a_factorDegrees, a_factorPowers, a_factorCells) p0 p1 := by
  subst e0 e1
  have es : (nI s * 2 + nI t) * 9 = nI ((s * 2 + t) * 9) := xv_st s t
  have key : ∀ d j, ∀ a_rest : Nat → Int32, j + d = 9 → xv a_rest (fun k => if k < j then C k else 0) → wX_load__rest_28 post (nI ((s * 2 + t) * 9)) f_tokenCount f_latestPlace f_stepCount f_waitingCount f_stackCount f_factorCount (d + 1) (nI j) a_tokenKind a_tokenContent a_stepKind a_stepToken a_waitingKind a_waitingToken a_present a_cells a_leftTop a_leftBottom a_rightTop a_rightBottom a_top a_bottom a_product a_quotient a_common a_spare a_rest a_divisor a_inverse a_numerator a_factorDegrees a_factorPowers a_factorCells := by
    intro d
    induction d with
    | zero =>
      intro j a_rest hj hx
      obtain rfl : j = 9 := by omega
      exact br_t (by decide) (h _ (xv_9 hx lC))
    | succ d ih =>
      intro j a_rest hj hx
      refine br_f (nI_ge (b := 9) (by omega) (by decide)) ⟨pk_in ((s * 2 + t) * 9 + j) 558 (by omega) (nI_add _ j), vp_in_nI (by omega) (by omega), nm_e (nm_r (nI_1 j) (ih (j + 1) _ (by omega) ?_))⟩
      rw [nI_add, nI_clamp (by omega), nI_clamp (by omega), hC j (by omega)]; exact xv_ld hx
  unfold wpX_load__rest
  refine xf_setNumber__rest 0 (fun a_rest hx => ?_)
  refine br_f (nI_pos (by omega)) (br_f (nI_ge (b := 31) hs (by decide)) (nm_r es ⟨10, key 9 0 _ rfl ?_⟩))
  exact xv_e hx (fun k _ => by rw [pf_c0, if_neg (by omega)])
end
