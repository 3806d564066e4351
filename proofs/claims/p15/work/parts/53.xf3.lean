/-! The class's leaves on polynomials (written by wip/p2/gen_x2.py) -/
section
variable {f_tokenCount f_latestPlace f_stepCount f_waitingCount f_stackCount f_factorCount : Int32} {a_tokenKind a_tokenContent a_stepKind a_stepToken a_waitingKind a_waitingToken a_present a_cells a_leftTop a_leftBottom a_rightTop a_rightBottom a_top a_bottom a_product a_quotient a_common a_spare a_rest a_divisor a_inverse a_numerator a_factorDegrees a_factorPowers a_factorCells : Nat → Int32}
theorem xf_multiply__leftTop_rightBottom_top {post : SX → Prop} {P Q : PF} (hA : xv a_leftTop P) (hB : xv a_rightBottom Q) (h : ∀ a_top : Nat → Int32, xv a_top (pf_mul P Q) → post (f_tokenCount, f_latestPlace, f_stepCount, f_waitingCount, f_stackCount, f_factorCount, a_tokenKind, a_tokenContent, a_stepKind, a_stepToken, a_waitingKind, a_waitingToken, a_present, a_cells, a_leftTop, a_leftBottom, a_rightTop, a_rightBottom, a_top, a_bottom, a_product, a_quotient, a_common, a_spare, a_rest, a_divisor, a_inverse, a_numerator, a_factorDegrees, a_factorPowers, a_factorCells)) : wpX_multiply__leftTop_rightBottom_top post (f_tokenCount, f_latestPlace, f_stepCount, f_waitingCount, f_stackCount, f_factorCount, a_tokenKind, a_tokenContent, a_stepKind, a_stepToken, a_waitingKind, a_waitingToken, a_present, a_cells, a_leftTop, a_leftBottom, a_rightTop, a_rightBottom, a_top, a_bottom, a_product, a_quotient, a_common, a_spare, a_rest, a_divisor, a_inverse, a_numerator, a_factorDegrees, a_factorPowers, a_factorCells) := by
  have inner : ∀ (J : Int32 → (Nat → Int32) → (Nat → Int32) → (Nat → Int32) → (Nat → Int32) → (Nat → Int32) → (Nat → Int32) → (Nat → Int32) → (Nat → Int32) → (Nat → Int32) → (Nat → Int32) → (Nat → Int32) → (Nat → Int32) → (Nat → Int32) → (Nat → Int32) → (Nat → Int32) → (Nat → Int32) → (Nat → Int32) → (Nat → Int32) → (Nat → Int32) → (Nat → Int32) → (Nat → Int32) → (Nat → Int32) → (Nat → Int32) → (Nat → Int32) → (Nat → Int32) → Prop) (i : Nat), i < 17 → (∀ a_top : Nat → Int32, xv a_top (pf_R P Q (i + 1)) → J (nI (i + 1)) a_tokenKind a_tokenContent a_stepKind a_stepToken a_waitingKind a_waitingToken a_present a_cells a_leftTop a_leftBottom a_rightTop a_rightBottom a_top a_bottom a_product a_quotient a_common a_spare a_rest a_divisor a_inverse a_numerator a_factorDegrees a_factorPowers a_factorCells) → ∀ d j, ∀ a_top : Nat → Int32, i + j + d = 17 → xv a_top (fun k => pf_R P Q i k + (if i ≤ k ∧ k < i + j then P i * Q (k - i) else 0)) → wX_multiply__leftTop_rightBottom_top_16 post J (nI i) f_tokenCount f_latestPlace f_stepCount f_waitingCount f_stackCount f_factorCount (d + 1) (nI j) a_tokenKind a_tokenContent a_stepKind a_stepToken a_waitingKind a_waitingToken a_present a_cells a_leftTop a_leftBottom a_rightTop a_rightBottom a_top a_bottom a_product a_quotient a_common a_spare a_rest a_divisor a_inverse a_numerator a_factorDegrees a_factorPowers a_factorCells := by
    intro J i hi hJ d
    induction d with
    | zero =>
      intro j a_top hj hx
      refine br_t ?_ (nm_r (nI_1 i) (hJ _ (xv_R1 hx (by omega))))
      rw [nI_add]; exact nI_le (a := 17) (by omega) (by omega)
    | succ d ih =>
      intro j a_top hj hx
      have e := pk_in (x := nI i + nI j) (i + j) 17 (by omega) (nI_add i j)
      refine br_f ?_ ⟨e, vp_in_nI (by omega) (by omega), vp_in_nI (by omega) (by omega), by decide, e, nm_e (nm_r (nI_1 j) (ih (j + 1) _ (by omega) ?_))⟩
      · rw [nI_add]; exact xl_17 (by omega)
      · rw [nI_add, nI_clamp (by omega), nI_clamp (by omega), nI_clamp (by omega), hA i hi, hB j (by omega)]
        exact xv_R2 hx (by omega)
  have outer : ∀ d i, ∀ a_top : Nat → Int32, i + d = 17 → xv a_top (pf_R P Q i) → wX_multiply__leftTop_rightBottom_top_7 post f_tokenCount f_latestPlace f_stepCount f_waitingCount f_stackCount f_factorCount (d + 1) (nI i) a_tokenKind a_tokenContent a_stepKind a_stepToken a_waitingKind a_waitingToken a_present a_cells a_leftTop a_leftBottom a_rightTop a_rightBottom a_top a_bottom a_product a_quotient a_common a_spare a_rest a_divisor a_inverse a_numerator a_factorDegrees a_factorPowers a_factorCells := by
    intro d
    induction d with
    | zero =>
      intro i a_top hi hx
      obtain rfl : i = 17 := by omega
      exact br_t (by decide) (h _ (xv_e hx (fun k hk => pf_R17 P Q hk)))
    | succ d ih =>
      intro i a_top hi hx
      exact br_f (xl_17 (by omega)) ⟨17 - i + 1, inner _ i (by omega) (fun a_top hx => ih (i + 1) _ (by omega) hx) (17 - i) 0 _ (by omega) (xv_R0 hx)⟩
  unfold wpX_multiply__leftTop_rightBottom_top
  exact xf_setNumber__top 0 (fun a_top hx => ⟨18, outer 17 0 _ rfl (xv_e hx (fun k _ => by rw [pf_c0]; rfl))⟩)
theorem xf_multiply__rightTop_leftBottom_product {post : SX → Prop} {P Q : PF} (hA : xv a_rightTop P) (hB : xv a_leftBottom Q) (h : ∀ a_product : Nat → Int32, xv a_product (pf_mul P Q) → post (f_tokenCount, f_latestPlace, f_stepCount, f_waitingCount, f_stackCount, f_factorCount, a_tokenKind, a_tokenContent, a_stepKind, a_stepToken, a_waitingKind, a_waitingToken, a_present, a_cells, a_leftTop, a_leftBottom, a_rightTop, a_rightBottom, a_top, a_bottom, a_product, a_quotient, a_common, a_spare, a_rest, a_divisor, a_inverse, a_numerator, a_factorDegrees, a_factorPowers, a_factorCells)) : wpX_multiply__rightTop_leftBottom_product post (f_tokenCount, f_latestPlace, f_stepCount, f_waitingCount, f_stackCount, f_factorCount, a_tokenKind, a_tokenContent, a_stepKind, a_stepToken, a_waitingKind, a_waitingToken, a_present, a_cells, a_leftTop, a_leftBottom, a_rightTop, a_rightBottom, a_top, a_bottom, a_product, a_quotient, a_common, a_spare, a_rest, a_divisor, a_inverse, a_numerator, a_factorDegrees, a_factorPowers, a_factorCells) := by
  have inner : ∀ (J : Int32 → (Nat → Int32) → (Nat → Int32) → (Nat → Int32) → (Nat → Int32) → (Nat → Int32) → (Nat → Int32) → (Nat → Int32) → (Nat → Int32) → (Nat → Int32) → (Nat → Int32) → (Nat → Int32) → (Nat → Int32) → (Nat → Int32) → (Nat → Int32) → (Nat → Int32) → (Nat → Int32) → (Nat → Int32) → (Nat → Int32) → (Nat → Int32) → (Nat → Int32) → (Nat → Int32) → (Nat → Int32) → (Nat → Int32) → (Nat → Int32) → (Nat → Int32) → Prop) (i : Nat), i < 17 → (∀ a_product : Nat → Int32, xv a_product (pf_R P Q (i + 1)) → J (nI (i + 1)) a_tokenKind a_tokenContent a_stepKind a_stepToken a_waitingKind a_waitingToken a_present a_cells a_leftTop a_leftBottom a_rightTop a_rightBottom a_top a_bottom a_product a_quotient a_common a_spare a_rest a_divisor a_inverse a_numerator a_factorDegrees a_factorPowers a_factorCells) → ∀ d j, ∀ a_product : Nat → Int32, i + j + d = 17 → xv a_product (fun k => pf_R P Q i k + (if i ≤ k ∧ k < i + j then P i * Q (k - i) else 0)) → wX_multiply__rightTop_leftBottom_product_16 post J (nI i) f_tokenCount f_latestPlace f_stepCount f_waitingCount f_stackCount f_factorCount (d + 1) (nI j) a_tokenKind a_tokenContent a_stepKind a_stepToken a_waitingKind a_waitingToken a_present a_cells a_leftTop a_leftBottom a_rightTop a_rightBottom a_top a_bottom a_product a_quotient a_common a_spare a_rest a_divisor a_inverse a_numerator a_factorDegrees a_factorPowers a_factorCells := by
    intro J i hi hJ d
    induction d with
    | zero =>
      intro j a_product hj hx
      refine br_t ?_ (nm_r (nI_1 i) (hJ _ (xv_R1 hx (by omega))))
      rw [nI_add]; exact nI_le (a := 17) (by omega) (by omega)
    | succ d ih =>
      intro j a_product hj hx
      have e := pk_in (x := nI i + nI j) (i + j) 17 (by omega) (nI_add i j)
      refine br_f ?_ ⟨e, vp_in_nI (by omega) (by omega), vp_in_nI (by omega) (by omega), by decide, e, nm_e (nm_r (nI_1 j) (ih (j + 1) _ (by omega) ?_))⟩
      · rw [nI_add]; exact xl_17 (by omega)
      · rw [nI_add, nI_clamp (by omega), nI_clamp (by omega), nI_clamp (by omega), hA i hi, hB j (by omega)]
        exact xv_R2 hx (by omega)
  have outer : ∀ d i, ∀ a_product : Nat → Int32, i + d = 17 → xv a_product (pf_R P Q i) → wX_multiply__rightTop_leftBottom_product_7 post f_tokenCount f_latestPlace f_stepCount f_waitingCount f_stackCount f_factorCount (d + 1) (nI i) a_tokenKind a_tokenContent a_stepKind a_stepToken a_waitingKind a_waitingToken a_present a_cells a_leftTop a_leftBottom a_rightTop a_rightBottom a_top a_bottom a_product a_quotient a_common a_spare a_rest a_divisor a_inverse a_numerator a_factorDegrees a_factorPowers a_factorCells := by
    intro d
    induction d with
    | zero =>
      intro i a_product hi hx
      obtain rfl : i = 17 := by omega
      exact br_t (by decide) (h _ (xv_e hx (fun k hk => pf_R17 P Q hk)))
    | succ d ih =>
      intro i a_product hi hx
      exact br_f (xl_17 (by omega)) ⟨17 - i + 1, inner _ i (by omega) (fun a_product hx => ih (i + 1) _ (by omega) hx) (17 - i) 0 _ (by omega) (xv_R0 hx)⟩
  unfold wpX_multiply__rightTop_leftBottom_product
  exact xf_setNumber__product 0 (fun a_product hx => ⟨18, outer 17 0 _ rfl (xv_e hx (fun k _ => by rw [pf_c0]; rfl))⟩)
theorem xf_multiply__leftBottom_rightBottom_bottom {post : SX → Prop} {P Q : PF} (hA : xv a_leftBottom P) (hB : xv a_rightBottom Q) (h : ∀ a_bottom : Nat → Int32, xv a_bottom (pf_mul P Q) → post (f_tokenCount, f_latestPlace, f_stepCount, f_waitingCount, f_stackCount, f_factorCount, a_tokenKind, a_tokenContent, a_stepKind, a_stepToken, a_waitingKind, a_waitingToken, a_present, a_cells, a_leftTop, a_leftBottom, a_rightTop, a_rightBottom, a_top, a_bottom, a_product, a_quotient, a_common, a_spare, a_rest, a_divisor, a_inverse, a_numerator, a_factorDegrees, a_factorPowers, a_factorCells)) : wpX_multiply__leftBottom_rightBottom_bottom post (f_tokenCount, f_latestPlace, f_stepCount, f_waitingCount, f_stackCount, f_factorCount, a_tokenKind, a_tokenContent, a_stepKind, a_stepToken, a_waitingKind, a_waitingToken, a_present, a_cells, a_leftTop, a_leftBottom, a_rightTop, a_rightBottom, a_top, a_bottom, a_product, a_quotient, a_common, a_spare, a_rest, a_divisor, a_inverse, a_numerator, a_factorDegrees, a_factorPowers, a_factorCells) := by
  have inner : ∀ (J : Int32 → (Nat → Int32) → (Nat → Int32) → (Nat → Int32) → (Nat → Int32) → (Nat → Int32) → (Nat → Int32) → (Nat → Int32) → (Nat → Int32) → (Nat → Int32) → (Nat → Int32) → (Nat → Int32) → (Nat → Int32) → (Nat → Int32) → (Nat → Int32) → (Nat → Int32) → (Nat → Int32) → (Nat → Int32) → (Nat → Int32) → (Nat → Int32) → (Nat → Int32) → (Nat → Int32) → (Nat → Int32) → (Nat → Int32) → (Nat → Int32) → (Nat → Int32) → Prop) (i : Nat), i < 17 → (∀ a_bottom : Nat → Int32, xv a_bottom (pf_R P Q (i + 1)) → J (nI (i + 1)) a_tokenKind a_tokenContent a_stepKind a_stepToken a_waitingKind a_waitingToken a_present a_cells a_leftTop a_leftBottom a_rightTop a_rightBottom a_top a_bottom a_product a_quotient a_common a_spare a_rest a_divisor a_inverse a_numerator a_factorDegrees a_factorPowers a_factorCells) → ∀ d j, ∀ a_bottom : Nat → Int32, i + j + d = 17 → xv a_bottom (fun k => pf_R P Q i k + (if i ≤ k ∧ k < i + j then P i * Q (k - i) else 0)) → wX_multiply__leftBottom_rightBottom_bottom_16 post J (nI i) f_tokenCount f_latestPlace f_stepCount f_waitingCount f_stackCount f_factorCount (d + 1) (nI j) a_tokenKind a_tokenContent a_stepKind a_stepToken a_waitingKind a_waitingToken a_present a_cells a_leftTop a_leftBottom a_rightTop a_rightBottom a_top a_bottom a_product a_quotient a_common a_spare a_rest a_divisor a_inverse a_numerator a_factorDegrees a_factorPowers a_factorCells := by
    intro J i hi hJ d
    induction d with
    | zero =>
      intro j a_bottom hj hx
      refine br_t ?_ (nm_r (nI_1 i) (hJ _ (xv_R1 hx (by omega))))
      rw [nI_add]; exact nI_le (a := 17) (by omega) (by omega)
    | succ d ih =>
      intro j a_bottom hj hx
      have e := pk_in (x := nI i + nI j) (i + j) 17 (by omega) (nI_add i j)
      refine br_f ?_ ⟨e, vp_in_nI (by omega) (by omega), vp_in_nI (by omega) (by omega), by decide, e, nm_e (nm_r (nI_1 j) (ih (j + 1) _ (by omega) ?_))⟩
      · rw [nI_add]; exact xl_17 (by omega)
      · rw [nI_add, nI_clamp (by omega), nI_clamp (by omega), nI_clamp (by omega), hA i hi, hB j (by omega)]
        exact xv_R2 hx (by omega)
  have outer : ∀ d i, ∀ a_bottom : Nat → Int32, i + d = 17 → xv a_bottom (pf_R P Q i) → wX_multiply__leftBottom_rightBottom_bottom_7 post f_tokenCount f_latestPlace f_stepCount f_waitingCount f_stackCount f_factorCount (d + 1) (nI i) a_tokenKind a_tokenContent a_stepKind a_stepToken a_waitingKind a_waitingToken a_present a_cells a_leftTop a_leftBottom a_rightTop a_rightBottom a_top a_bottom a_product a_quotient a_common a_spare a_rest a_divisor a_inverse a_numerator a_factorDegrees a_factorPowers a_factorCells := by
    intro d
    induction d with
    | zero =>
      intro i a_bottom hi hx
      obtain rfl : i = 17 := by omega
      exact br_t (by decide) (h _ (xv_e hx (fun k hk => pf_R17 P Q hk)))
    | succ d ih =>
      intro i a_bottom hi hx
      exact br_f (xl_17 (by omega)) ⟨17 - i + 1, inner _ i (by omega) (fun a_bottom hx => ih (i + 1) _ (by omega) hx) (17 - i) 0 _ (by omega) (xv_R0 hx)⟩
  unfold wpX_multiply__leftBottom_rightBottom_bottom
  exact xf_setNumber__bottom 0 (fun a_bottom hx => ⟨18, outer 17 0 _ rfl (xv_e hx (fun k _ => by rw [pf_c0]; rfl))⟩)
theorem xf_multiply__leftTop_rightTop_top {post : SX → Prop} {P Q : PF} (hA : xv a_leftTop P) (hB : xv a_rightTop Q) (h : ∀ a_top : Nat → Int32, xv a_top (pf_mul P Q) → post (f_tokenCount, f_latestPlace, f_stepCount, f_waitingCount, f_stackCount, f_factorCount, a_tokenKind, a_tokenContent, a_stepKind, a_stepToken, a_waitingKind, a_waitingToken, a_present, a_cells, a_leftTop, a_leftBottom, a_rightTop, a_rightBottom, a_top, a_bottom, a_product, a_quotient, a_common, a_spare, a_rest, a_divisor, a_inverse, a_numerator, a_factorDegrees, a_factorPowers, a_factorCells)) : wpX_multiply__leftTop_rightTop_top post (f_tokenCount, f_latestPlace, f_stepCount, f_waitingCount, f_stackCount, f_factorCount, a_tokenKind, a_tokenContent, a_stepKind, a_stepToken, a_waitingKind, a_waitingToken, a_present, a_cells, a_leftTop, a_leftBottom, a_rightTop, a_rightBottom, a_top, a_bottom, a_product, a_quotient, a_common, a_spare, a_rest, a_divisor, a_inverse, a_numerator, a_factorDegrees, a_factorPowers, a_factorCells) := by
  have inner : ∀ (J : Int32 → (Nat → Int32) → (Nat → Int32) → (Nat → Int32) → (Nat → Int32) → (Nat → Int32) → (Nat → Int32) → (Nat → Int32) → (Nat → Int32) → (Nat → Int32) → (Nat → Int32) → (Nat → Int32) → (Nat → Int32) → (Nat → Int32) → (Nat → Int32) → (Nat → Int32) → (Nat → Int32) → (Nat → Int32) → (Nat → Int32) → (Nat → Int32) → (Nat → Int32) → (Nat → Int32) → (Nat → Int32) → (Nat → Int32) → (Nat → Int32) → (Nat → Int32) → Prop) (i : Nat), i < 17 → (∀ a_top : Nat → Int32, xv a_top (pf_R P Q (i + 1)) → J (nI (i + 1)) a_tokenKind a_tokenContent a_stepKind a_stepToken a_waitingKind a_waitingToken a_present a_cells a_leftTop a_leftBottom a_rightTop a_rightBottom a_top a_bottom a_product a_quotient a_common a_spare a_rest a_divisor a_inverse a_numerator a_factorDegrees a_factorPowers a_factorCells) → ∀ d j, ∀ a_top : Nat → Int32, i + j + d = 17 → xv a_top (fun k => pf_R P Q i k + (if i ≤ k ∧ k < i + j then P i * Q (k - i) else 0)) → wX_multiply__leftTop_rightTop_top_16 post J (nI i) f_tokenCount f_latestPlace f_stepCount f_waitingCount f_stackCount f_factorCount (d + 1) (nI j) a_tokenKind a_tokenContent a_stepKind a_stepToken a_waitingKind a_waitingToken a_present a_cells a_leftTop a_leftBottom a_rightTop a_rightBottom a_top a_bottom a_product a_quotient a_common a_spare a_rest a_divisor a_inverse a_numerator a_factorDegrees a_factorPowers a_factorCells := by
    intro J i hi hJ d
    induction d with
    | zero =>
      intro j a_top hj hx
      refine br_t ?_ (nm_r (nI_1 i) (hJ _ (xv_R1 hx (by omega))))
      rw [nI_add]; exact nI_le (a := 17) (by omega) (by omega)
    | succ d ih =>
      intro j a_top hj hx
      have e := pk_in (x := nI i + nI j) (i + j) 17 (by omega) (nI_add i j)
      refine br_f ?_ ⟨e, vp_in_nI (by omega) (by omega), vp_in_nI (by omega) (by omega), by decide, e, nm_e (nm_r (nI_1 j) (ih (j + 1) _ (by omega) ?_))⟩
      · rw [nI_add]; exact xl_17 (by omega)
      · rw [nI_add, nI_clamp (by omega), nI_clamp (by omega), nI_clamp (by omega), hA i hi, hB j (by omega)]
        exact xv_R2 hx (by omega)
  have outer : ∀ d i, ∀ a_top : Nat → Int32, i + d = 17 → xv a_top (pf_R P Q i) → wX_multiply__leftTop_rightTop_top_7 post f_tokenCount f_latestPlace f_stepCount f_waitingCount f_stackCount f_factorCount (d + 1) (nI i) a_tokenKind a_tokenContent a_stepKind a_stepToken a_waitingKind a_waitingToken a_present a_cells a_leftTop a_leftBottom a_rightTop a_rightBottom a_top a_bottom a_product a_quotient a_common a_spare a_rest a_divisor a_inverse a_numerator a_factorDegrees a_factorPowers a_factorCells := by
    intro d
    induction d with
    | zero =>
      intro i a_top hi hx
      obtain rfl : i = 17 := by omega
      exact br_t (by decide) (h _ (xv_e hx (fun k hk => pf_R17 P Q hk)))
    | succ d ih =>
      intro i a_top hi hx
      exact br_f (xl_17 (by omega)) ⟨17 - i + 1, inner _ i (by omega) (fun a_top hx => ih (i + 1) _ (by omega) hx) (17 - i) 0 _ (by omega) (xv_R0 hx)⟩
  unfold wpX_multiply__leftTop_rightTop_top
  exact xf_setNumber__top 0 (fun a_top hx => ⟨18, outer 17 0 _ rfl (xv_e hx (fun k _ => by rw [pf_c0]; rfl))⟩)
theorem xf_multiply__leftBottom_rightTop_bottom {post : SX → Prop} {P Q : PF} (hA : xv a_leftBottom P) (hB : xv a_rightTop Q) (h : ∀ a_bottom : Nat → Int32, xv a_bottom (pf_mul P Q) → post (f_tokenCount, f_latestPlace, f_stepCount, f_waitingCount, f_stackCount, f_factorCount, a_tokenKind, a_tokenContent, a_stepKind, a_stepToken, a_waitingKind, a_waitingToken, a_present, a_cells, a_leftTop, a_leftBottom, a_rightTop, a_rightBottom, a_top, a_bottom, a_product, a_quotient, a_common, a_spare, a_rest, a_divisor, a_inverse, a_numerator, a_factorDegrees, a_factorPowers, a_factorCells)) : wpX_multiply__leftBottom_rightTop_bottom post (f_tokenCount, f_latestPlace, f_stepCount, f_waitingCount, f_stackCount, f_factorCount, a_tokenKind, a_tokenContent, a_stepKind, a_stepToken, a_waitingKind, a_waitingToken, a_present, a_cells, a_leftTop, a_leftBottom, a_rightTop, a_rightBottom, a_top, a_bottom, a_product, a_quotient, a_common, a_spare, a_rest, a_divisor, a_inverse, a_numerator, a_factorDegrees, a_factorPowers, a_factorCells) := by
  have inner : ∀ (J : Int32 → (Nat → Int32) → (Nat → Int32) → (Nat → Int32) → (Nat → Int32) → (Nat → Int32) → (Nat → Int32) → (Nat → Int32) → (Nat → Int32) → (Nat → Int32) → (Nat → Int32) → (Nat → Int32) → (Nat → Int32) → (Nat → Int32) → (Nat → Int32) → (Nat → Int32) → (Nat → Int32) → (Nat → Int32) → (Nat → Int32) → (Nat → Int32) → (Nat → Int32) → (Nat → Int32) → (Nat → Int32) → (Nat → Int32) → (Nat → Int32) → (Nat → Int32) → Prop) (i : Nat), i < 17 → (∀ a_bottom : Nat → Int32, xv a_bottom (pf_R P Q (i + 1)) → J (nI (i + 1)) a_tokenKind a_tokenContent a_stepKind a_stepToken a_waitingKind a_waitingToken a_present a_cells a_leftTop a_leftBottom a_rightTop a_rightBottom a_top a_bottom a_product a_quotient a_common a_spare a_rest a_divisor a_inverse a_numerator a_factorDegrees a_factorPowers a_factorCells) → ∀ d j, ∀ a_bottom : Nat → Int32, i + j + d = 17 → xv a_bottom (fun k => pf_R P Q i k + (if i ≤ k ∧ k < i + j then P i * Q (k - i) else 0)) → wX_multiply__leftBottom_rightTop_bottom_16 post J (nI i) f_tokenCount f_latestPlace f_stepCount f_waitingCount f_stackCount f_factorCount (d + 1) (nI j) a_tokenKind a_tokenContent a_stepKind a_stepToken a_waitingKind a_waitingToken a_present a_cells a_leftTop a_leftBottom a_rightTop a_rightBottom a_top a_bottom a_product a_quotient a_common a_spare a_rest a_divisor a_inverse a_numerator a_factorDegrees a_factorPowers a_factorCells := by
    intro J i hi hJ d
    induction d with
    | zero =>
      intro j a_bottom hj hx
      refine br_t ?_ (nm_r (nI_1 i) (hJ _ (xv_R1 hx (by omega))))
      rw [nI_add]; exact nI_le (a := 17) (by omega) (by omega)
    | succ d ih =>
      intro j a_bottom hj hx
      have e := pk_in (x := nI i + nI j) (i + j) 17 (by omega) (nI_add i j)
      refine br_f ?_ ⟨e, vp_in_nI (by omega) (by omega), vp_in_nI (by omega) (by omega), by decide, e, nm_e (nm_r (nI_1 j) (ih (j + 1) _ (by omega) ?_))⟩
      · rw [nI_add]; exact xl_17 (by omega)
      · rw [nI_add, nI_clamp (by omega), nI_clamp (by omega), nI_clamp (by omega), hA i hi, hB j (by omega)]
        exact xv_R2 hx (by omega)
  have outer : ∀ d i, ∀ a_bottom : Nat → Int32, i + d = 17 → xv a_bottom (pf_R P Q i) → wX_multiply__leftBottom_rightTop_bottom_7 post f_tokenCount f_latestPlace f_stepCount f_waitingCount f_stackCount f_factorCount (d + 1) (nI i) a_tokenKind a_tokenContent a_stepKind a_stepToken a_waitingKind a_waitingToken a_present a_cells a_leftTop a_leftBottom a_rightTop a_rightBottom a_top a_bottom a_product a_quotient a_common a_spare a_rest a_divisor a_inverse a_numerator a_factorDegrees a_factorPowers a_factorCells := by
    intro d
    induction d with
    | zero =>
      intro i a_bottom hi hx
      obtain rfl : i = 17 := by omega
      exact br_t (by decide) (h _ (xv_e hx (fun k hk => pf_R17 P Q hk)))
    | succ d ih =>
      intro i a_bottom hi hx
      exact br_f (xl_17 (by omega)) ⟨17 - i + 1, inner _ i (by omega) (fun a_bottom hx => ih (i + 1) _ (by omega) hx) (17 - i) 0 _ (by omega) (xv_R0 hx)⟩
  unfold wpX_multiply__leftBottom_rightTop_bottom
  exact xf_setNumber__bottom 0 (fun a_bottom hx => ⟨18, outer 17 0 _ rfl (xv_e hx (fun k _ => by rw [pf_c0]; rfl))⟩)
theorem xf_multiply__top_leftTop_product {post : SX → Prop} {P Q : PF} (hA : xv a_top P) (hB : xv a_leftTop Q) (h : ∀ a_product : Nat → Int32, xv a_product (pf_mul P Q) → post (f_tokenCount, f_latestPlace, f_stepCount, f_waitingCount, f_stackCount, f_factorCount, a_tokenKind, a_tokenContent, a_stepKind, a_stepToken, a_waitingKind, a_waitingToken, a_present, a_cells, a_leftTop, a_leftBottom, a_rightTop, a_rightBottom, a_top, a_bottom, a_product, a_quotient, a_common, a_spare, a_rest, a_divisor, a_inverse, a_numerator, a_factorDegrees, a_factorPowers, a_factorCells)) : wpX_multiply__top_leftTop_product post (f_tokenCount, f_latestPlace, f_stepCount, f_waitingCount, f_stackCount, f_factorCount, a_tokenKind, a_tokenContent, a_stepKind, a_stepToken, a_waitingKind, a_waitingToken, a_present, a_cells, a_leftTop, a_leftBottom, a_rightTop, a_rightBottom, a_top, a_bottom, a_product, a_quotient, a_common, a_spare, a_rest, a_divisor, a_inverse, a_numerator, a_factorDegrees, a_factorPowers, a_factorCells) := by
  have inner : ∀ (J : Int32 → (Nat → Int32) → (Nat → Int32) → (Nat → Int32) → (Nat → Int32) → (Nat → Int32) → (Nat → Int32) → (Nat → Int32) → (Nat → Int32) → (Nat → Int32) → (Nat → Int32) → (Nat → Int32) → (Nat → Int32) → (Nat → Int32) → (Nat → Int32) → (Nat → Int32) → (Nat → Int32) → (Nat → Int32) → (Nat → Int32) → (Nat → Int32) → (Nat → Int32) → (Nat → Int32) → (Nat → Int32) → (Nat → Int32) → (Nat → Int32) → (Nat → Int32) → Prop) (i : Nat), i < 17 → (∀ a_product : Nat → Int32, xv a_product (pf_R P Q (i + 1)) → J (nI (i + 1)) a_tokenKind a_tokenContent a_stepKind a_stepToken a_waitingKind a_waitingToken a_present a_cells a_leftTop a_leftBottom a_rightTop a_rightBottom a_top a_bottom a_product a_quotient a_common a_spare a_rest a_divisor a_inverse a_numerator a_factorDegrees a_factorPowers a_factorCells) → ∀ d j, ∀ a_product : Nat → Int32, i + j + d = 17 → xv a_product (fun k => pf_R P Q i k + (if i ≤ k ∧ k < i + j then P i * Q (k - i) else 0)) → wX_multiply__top_leftTop_product_16 post J (nI i) f_tokenCount f_latestPlace f_stepCount f_waitingCount f_stackCount f_factorCount (d + 1) (nI j) a_tokenKind a_tokenContent a_stepKind a_stepToken a_waitingKind a_waitingToken a_present a_cells a_leftTop a_leftBottom a_rightTop a_rightBottom a_top a_bottom a_product a_quotient a_common a_spare a_rest a_divisor a_inverse a_numerator a_factorDegrees a_factorPowers a_factorCells := by
    intro J i hi hJ d
    induction d with
    | zero =>
      intro j a_product hj hx
      refine br_t ?_ (nm_r (nI_1 i) (hJ _ (xv_R1 hx (by omega))))
      rw [nI_add]; exact nI_le (a := 17) (by omega) (by omega)
    | succ d ih =>
      intro j a_product hj hx
      have e := pk_in (x := nI i + nI j) (i + j) 17 (by omega) (nI_add i j)
      refine br_f ?_ ⟨e, vp_in_nI (by omega) (by omega), vp_in_nI (by omega) (by omega), by decide, e, nm_e (nm_r (nI_1 j) (ih (j + 1) _ (by omega) ?_))⟩
      · rw [nI_add]; exact xl_17 (by omega)
      · rw [nI_add, nI_clamp (by omega), nI_clamp (by omega), nI_clamp (by omega), hA i hi, hB j (by omega)]
        exact xv_R2 hx (by omega)
  have outer : ∀ d i, ∀ a_product : Nat → Int32, i + d = 17 → xv a_product (pf_R P Q i) → wX_multiply__top_leftTop_product_7 post f_tokenCount f_latestPlace f_stepCount f_waitingCount f_stackCount f_factorCount (d + 1) (nI i) a_tokenKind a_tokenContent a_stepKind a_stepToken a_waitingKind a_waitingToken a_present a_cells a_leftTop a_leftBottom a_rightTop a_rightBottom a_top a_bottom a_product a_quotient a_common a_spare a_rest a_divisor a_inverse a_numerator a_factorDegrees a_factorPowers a_factorCells := by
    intro d
    induction d with
    | zero =>
      intro i a_product hi hx
      obtain rfl : i = 17 := by omega
      exact br_t (by decide) (h _ (xv_e hx (fun k hk => pf_R17 P Q hk)))
    | succ d ih =>
      intro i a_product hi hx
      exact br_f (xl_17 (by omega)) ⟨17 - i + 1, inner _ i (by omega) (fun a_product hx => ih (i + 1) _ (by omega) hx) (17 - i) 0 _ (by omega) (xv_R0 hx)⟩
  unfold wpX_multiply__top_leftTop_product
  exact xf_setNumber__product 0 (fun a_product hx => ⟨18, outer 17 0 _ rfl (xv_e hx (fun k _ => by rw [pf_c0]; rfl))⟩)
theorem xf_multiply__bottom_leftBottom_product {post : SX → Prop} {P Q : PF} (hA : xv a_bottom P) (hB : xv a_leftBottom Q) (h : ∀ a_product : Nat → Int32, xv a_product (pf_mul P Q) → post (f_tokenCount, f_latestPlace, f_stepCount, f_waitingCount, f_stackCount, f_factorCount, a_tokenKind, a_tokenContent, a_stepKind, a_stepToken, a_waitingKind, a_waitingToken, a_present, a_cells, a_leftTop, a_leftBottom, a_rightTop, a_rightBottom, a_top, a_bottom, a_product, a_quotient, a_common, a_spare, a_rest, a_divisor, a_inverse, a_numerator, a_factorDegrees, a_factorPowers, a_factorCells)) : wpX_multiply__bottom_leftBottom_product post (f_tokenCount, f_latestPlace, f_stepCount, f_waitingCount, f_stackCount, f_factorCount, a_tokenKind, a_tokenContent, a_stepKind, a_stepToken, a_waitingKind, a_waitingToken, a_present, a_cells, a_leftTop, a_leftBottom, a_rightTop, a_rightBottom, a_top, a_bottom, a_product, a_quotient, a_common, a_spare, a_rest, a_divisor, a_inverse, a_numerator, a_factorDegrees, a_factorPowers, a_factorCells) := by
  have inner : ∀ (J : Int32 → (Nat → Int32) → (Nat → Int32) → (Nat → Int32) → (Nat → Int32) → (Nat → Int32) → (Nat → Int32) → (Nat → Int32) → (Nat → Int32) → (Nat → Int32) → (Nat → Int32) → (Nat → Int32) → (Nat → Int32) → (Nat → Int32) → (Nat → Int32) → (Nat → Int32) → (Nat → Int32) → (Nat → Int32) → (Nat → Int32) → (Nat → Int32) → (Nat → Int32) → (Nat → Int32) → (Nat → Int32) → (Nat → Int32) → (Nat → Int32) → (Nat → Int32) → Prop) (i : Nat), i < 17 → (∀ a_product : Nat → Int32, xv a_product (pf_R P Q (i + 1)) → J (nI (i + 1)) a_tokenKind a_tokenContent a_stepKind a_stepToken a_waitingKind a_waitingToken a_present a_cells a_leftTop a_leftBottom a_rightTop a_rightBottom a_top a_bottom a_product a_quotient a_common a_spare a_rest a_divisor a_inverse a_numerator a_factorDegrees a_factorPowers a_factorCells) → ∀ d j, ∀ a_product : Nat → Int32, i + j + d = 17 → xv a_product (fun k => pf_R P Q i k + (if i ≤ k ∧ k < i + j then P i * Q (k - i) else 0)) → wX_multiply__bottom_leftBottom_product_16 post J (nI i) f_tokenCount f_latestPlace f_stepCount f_waitingCount f_stackCount f_factorCount (d + 1) (nI j) a_tokenKind a_tokenContent a_stepKind a_stepToken a_waitingKind a_waitingToken a_present a_cells a_leftTop a_leftBottom a_rightTop a_rightBottom a_top a_bottom a_product a_quotient a_common a_spare a_rest a_divisor a_inverse a_numerator a_factorDegrees a_factorPowers a_factorCells := by
    intro J i hi hJ d
    induction d with
    | zero =>
      intro j a_product hj hx
      refine br_t ?_ (nm_r (nI_1 i) (hJ _ (xv_R1 hx (by omega))))
      rw [nI_add]; exact nI_le (a := 17) (by omega) (by omega)
    | succ d ih =>
      intro j a_product hj hx
      have e := pk_in (x := nI i + nI j) (i + j) 17 (by omega) (nI_add i j)
      refine br_f ?_ ⟨e, vp_in_nI (by omega) (by omega), vp_in_nI (by omega) (by omega), by decide, e, nm_e (nm_r (nI_1 j) (ih (j + 1) _ (by omega) ?_))⟩
      · rw [nI_add]; exact xl_17 (by omega)
      · rw [nI_add, nI_clamp (by omega), nI_clamp (by omega), nI_clamp (by omega), hA i hi, hB j (by omega)]
        exact xv_R2 hx (by omega)
  have outer : ∀ d i, ∀ a_product : Nat → Int32, i + d = 17 → xv a_product (pf_R P Q i) → wX_multiply__bottom_leftBottom_product_7 post f_tokenCount f_latestPlace f_stepCount f_waitingCount f_stackCount f_factorCount (d + 1) (nI i) a_tokenKind a_tokenContent a_stepKind a_stepToken a_waitingKind a_waitingToken a_present a_cells a_leftTop a_leftBottom a_rightTop a_rightBottom a_top a_bottom a_product a_quotient a_common a_spare a_rest a_divisor a_inverse a_numerator a_factorDegrees a_factorPowers a_factorCells := by
    intro d
    induction d with
    | zero =>
      intro i a_product hi hx
      obtain rfl : i = 17 := by omega
      exact br_t (by decide) (h _ (xv_e hx (fun k hk => pf_R17 P Q hk)))
    | succ d ih =>
      intro i a_product hi hx
      exact br_f (xl_17 (by omega)) ⟨17 - i + 1, inner _ i (by omega) (fun a_product hx => ih (i + 1) _ (by omega) hx) (17 - i) 0 _ (by omega) (xv_R0 hx)⟩
  unfold wpX_multiply__bottom_leftBottom_product
  exact xf_setNumber__product 0 (fun a_product hx => ⟨18, outer 17 0 _ rfl (xv_e hx (fun k _ => by rw [pf_c0]; rfl))⟩)
theorem xf_multiply__spare_leftBottom_top {post : SX → Prop} {P Q : PF} (hA : xv a_spare P) (hB : xv a_leftBottom Q) (h : ∀ a_top : Nat → Int32, xv a_top (pf_mul P Q) → post (f_tokenCount, f_latestPlace, f_stepCount, f_waitingCount, f_stackCount, f_factorCount, a_tokenKind, a_tokenContent, a_stepKind, a_stepToken, a_waitingKind, a_waitingToken, a_present, a_cells, a_leftTop, a_leftBottom, a_rightTop, a_rightBottom, a_top, a_bottom, a_product, a_quotient, a_common, a_spare, a_rest, a_divisor, a_inverse, a_numerator, a_factorDegrees, a_factorPowers, a_factorCells)) : wpX_multiply__spare_leftBottom_top post (f_tokenCount, f_latestPlace, f_stepCount, f_waitingCount, f_stackCount, f_factorCount, a_tokenKind, a_tokenContent, a_stepKind, a_stepToken, a_waitingKind, a_waitingToken, a_present, a_cells, a_leftTop, a_leftBottom, a_rightTop, a_rightBottom, a_top, a_bottom, a_product, a_quotient, a_common, a_spare, a_rest, a_divisor, a_inverse, a_numerator, a_factorDegrees, a_factorPowers, a_factorCells) := by
  have inner : ∀ (J : Int32 → (Nat → Int32) → (Nat → Int32) → (Nat → Int32) → (Nat → Int32) → (Nat → Int32) → (Nat → Int32) → (Nat → Int32) → (Nat → Int32) → (Nat → Int32) → (Nat → Int32) → (Nat → Int32) → (Nat → Int32) → (Nat → Int32) → (Nat → Int32) → (Nat → Int32) → (Nat → Int32) → (Nat → Int32) → (Nat → Int32) → (Nat → Int32) → (Nat → Int32) → (Nat → Int32) → (Nat → Int32) → (Nat → Int32) → (Nat → Int32) → (Nat → Int32) → Prop) (i : Nat), i < 17 → (∀ a_top : Nat → Int32, xv a_top (pf_R P Q (i + 1)) → J (nI (i + 1)) a_tokenKind a_tokenContent a_stepKind a_stepToken a_waitingKind a_waitingToken a_present a_cells a_leftTop a_leftBottom a_rightTop a_rightBottom a_top a_bottom a_product a_quotient a_common a_spare a_rest a_divisor a_inverse a_numerator a_factorDegrees a_factorPowers a_factorCells) → ∀ d j, ∀ a_top : Nat → Int32, i + j + d = 17 → xv a_top (fun k => pf_R P Q i k + (if i ≤ k ∧ k < i + j then P i * Q (k - i) else 0)) → wX_multiply__spare_leftBottom_top_16 post J (nI i) f_tokenCount f_latestPlace f_stepCount f_waitingCount f_stackCount f_factorCount (d + 1) (nI j) a_tokenKind a_tokenContent a_stepKind a_stepToken a_waitingKind a_waitingToken a_present a_cells a_leftTop a_leftBottom a_rightTop a_rightBottom a_top a_bottom a_product a_quotient a_common a_spare a_rest a_divisor a_inverse a_numerator a_factorDegrees a_factorPowers a_factorCells := by
    intro J i hi hJ d
    induction d with
    | zero =>
      intro j a_top hj hx
      refine br_t ?_ (nm_r (nI_1 i) (hJ _ (xv_R1 hx (by omega))))
      rw [nI_add]; exact nI_le (a := 17) (by omega) (by omega)
    | succ d ih =>
      intro j a_top hj hx
      have e := pk_in (x := nI i + nI j) (i + j) 17 (by omega) (nI_add i j)
      refine br_f ?_ ⟨e, vp_in_nI (by omega) (by omega), vp_in_nI (by omega) (by omega), by decide, e, nm_e (nm_r (nI_1 j) (ih (j + 1) _ (by omega) ?_))⟩
      · rw [nI_add]; exact xl_17 (by omega)
      · rw [nI_add, nI_clamp (by omega), nI_clamp (by omega), nI_clamp (by omega), hA i hi, hB j (by omega)]
        exact xv_R2 hx (by omega)
  have outer : ∀ d i, ∀ a_top : Nat → Int32, i + d = 17 → xv a_top (pf_R P Q i) → wX_multiply__spare_leftBottom_top_7 post f_tokenCount f_latestPlace f_stepCount f_waitingCount f_stackCount f_factorCount (d + 1) (nI i) a_tokenKind a_tokenContent a_stepKind a_stepToken a_waitingKind a_waitingToken a_present a_cells a_leftTop a_leftBottom a_rightTop a_rightBottom a_top a_bottom a_product a_quotient a_common a_spare a_rest a_divisor a_inverse a_numerator a_factorDegrees a_factorPowers a_factorCells := by
    intro d
    induction d with
    | zero =>
      intro i a_top hi hx
      obtain rfl : i = 17 := by omega
      exact br_t (by decide) (h _ (xv_e hx (fun k hk => pf_R17 P Q hk)))
    | succ d ih =>
      intro i a_top hi hx
      exact br_f (xl_17 (by omega)) ⟨17 - i + 1, inner _ i (by omega) (fun a_top hx => ih (i + 1) _ (by omega) hx) (17 - i) 0 _ (by omega) (xv_R0 hx)⟩
  unfold wpX_multiply__spare_leftBottom_top
  exact xf_setNumber__top 0 (fun a_top hx => ⟨18, outer 17 0 _ rfl (xv_e hx (fun k _ => by rw [pf_c0]; rfl))⟩)
theorem xf_multiply__spare_leftTop_product {post : SX → Prop} {P Q : PF} (hA : xv a_spare P) (hB : xv a_leftTop Q) (h : ∀ a_product : Nat → Int32, xv a_product (pf_mul P Q) → post (f_tokenCount, f_latestPlace, f_stepCount, f_waitingCount, f_stackCount, f_factorCount, a_tokenKind, a_tokenContent, a_stepKind, a_stepToken, a_waitingKind, a_waitingToken, a_present, a_cells, a_leftTop, a_leftBottom, a_rightTop, a_rightBottom, a_top, a_bottom, a_product, a_quotient, a_common, a_spare, a_rest, a_divisor, a_inverse, a_numerator, a_factorDegrees, a_factorPowers, a_factorCells)) : wpX_multiply__spare_leftTop_product post (f_tokenCount, f_latestPlace, f_stepCount, f_waitingCount, f_stackCount, f_factorCount, a_tokenKind, a_tokenContent, a_stepKind, a_stepToken, a_waitingKind, a_waitingToken, a_present, a_cells, a_leftTop, a_leftBottom, a_rightTop, a_rightBottom, a_top, a_bottom, a_product, a_quotient, a_common, a_spare, a_rest, a_divisor, a_inverse, a_numerator, a_factorDegrees, a_factorPowers, a_factorCells) := by
  have inner : ∀ (J : Int32 → (Nat → Int32) → (Nat → Int32) → (Nat → Int32) → (Nat → Int32) → (Nat → Int32) → (Nat → Int32) → (Nat → Int32) → (Nat → Int32) → (Nat → Int32) → (Nat → Int32) → (Nat → Int32) → (Nat → Int32) → (Nat → Int32) → (Nat → Int32) → (Nat → Int32) → (Nat → Int32) → (Nat → Int32) → (Nat → Int32) → (Nat → Int32) → (Nat → Int32) → (Nat → Int32) → (Nat → Int32) → (Nat → Int32) → (Nat → Int32) → (Nat → Int32) → Prop) (i : Nat), i < 17 → (∀ a_product : Nat → Int32, xv a_product (pf_R P Q (i + 1)) → J (nI (i + 1)) a_tokenKind a_tokenContent a_stepKind a_stepToken a_waitingKind a_waitingToken a_present a_cells a_leftTop a_leftBottom a_rightTop a_rightBottom a_top a_bottom a_product a_quotient a_common a_spare a_rest a_divisor a_inverse a_numerator a_factorDegrees a_factorPowers a_factorCells) → ∀ d j, ∀ a_product : Nat → Int32, i + j + d = 17 → xv a_product (fun k => pf_R P Q i k + (if i ≤ k ∧ k < i + j then P i * Q (k - i) else 0)) → wX_multiply__spare_leftTop_product_16 post J (nI i) f_tokenCount f_latestPlace f_stepCount f_waitingCount f_stackCount f_factorCount (d + 1) (nI j) a_tokenKind a_tokenContent a_stepKind a_stepToken a_waitingKind a_waitingToken a_present a_cells a_leftTop a_leftBottom a_rightTop a_rightBottom a_top a_bottom a_product a_quotient a_common a_spare a_rest a_divisor a_inverse a_numerator a_factorDegrees a_factorPowers a_factorCells := by
    intro J i hi hJ d
    induction d with
    | zero =>
      intro j a_product hj hx
      refine br_t ?_ (nm_r (nI_1 i) (hJ _ (xv_R1 hx (by omega))))
      rw [nI_add]; exact nI_le (a := 17) (by omega) (by omega)
    | succ d ih =>
      intro j a_product hj hx
      have e := pk_in (x := nI i + nI j) (i + j) 17 (by omega) (nI_add i j)
      refine br_f ?_ ⟨e, vp_in_nI (by omega) (by omega), vp_in_nI (by omega) (by omega), by decide, e, nm_e (nm_r (nI_1 j) (ih (j + 1) _ (by omega) ?_))⟩
      · rw [nI_add]; exact xl_17 (by omega)
      · rw [nI_add, nI_clamp (by omega), nI_clamp (by omega), nI_clamp (by omega), hA i hi, hB j (by omega)]
        exact xv_R2 hx (by omega)
  have outer : ∀ d i, ∀ a_product : Nat → Int32, i + d = 17 → xv a_product (pf_R P Q i) → wX_multiply__spare_leftTop_product_7 post f_tokenCount f_latestPlace f_stepCount f_waitingCount f_stackCount f_factorCount (d + 1) (nI i) a_tokenKind a_tokenContent a_stepKind a_stepToken a_waitingKind a_waitingToken a_present a_cells a_leftTop a_leftBottom a_rightTop a_rightBottom a_top a_bottom a_product a_quotient a_common a_spare a_rest a_divisor a_inverse a_numerator a_factorDegrees a_factorPowers a_factorCells := by
    intro d
    induction d with
    | zero =>
      intro i a_product hi hx
      obtain rfl : i = 17 := by omega
      exact br_t (by decide) (h _ (xv_e hx (fun k hk => pf_R17 P Q hk)))
    | succ d ih =>
      intro i a_product hi hx
      exact br_f (xl_17 (by omega)) ⟨17 - i + 1, inner _ i (by omega) (fun a_product hx => ih (i + 1) _ (by omega) hx) (17 - i) 0 _ (by omega) (xv_R0 hx)⟩
  unfold wpX_multiply__spare_leftTop_product
  exact xf_setNumber__product 0 (fun a_product hx => ⟨18, outer 17 0 _ rfl (xv_e hx (fun k _ => by rw [pf_c0]; rfl))⟩)
theorem xf_multiply__leftBottom_leftBottom_bottom {post : SX → Prop} {P Q : PF} (hA : xv a_leftBottom P) (hB : xv a_leftBottom Q) (h : ∀ a_bottom : Nat → Int32, xv a_bottom (pf_mul P Q) → post (f_tokenCount, f_latestPlace, f_stepCount, f_waitingCount, f_stackCount, f_factorCount, a_tokenKind, a_tokenContent, a_stepKind, a_stepToken, a_waitingKind, a_waitingToken, a_present, a_cells, a_leftTop, a_leftBottom, a_rightTop, a_rightBottom, a_top, a_bottom, a_product, a_quotient, a_common, a_spare, a_rest, a_divisor, a_inverse, a_numerator, a_factorDegrees, a_factorPowers, a_factorCells)) : wpX_multiply__leftBottom_leftBottom_bottom post (f_tokenCount, f_latestPlace, f_stepCount, f_waitingCount, f_stackCount, f_factorCount, a_tokenKind, a_tokenContent, a_stepKind, a_stepToken, a_waitingKind, a_waitingToken, a_present, a_cells, a_leftTop, a_leftBottom, a_rightTop, a_rightBottom, a_top, a_bottom, a_product, a_quotient, a_common, a_spare, a_rest, a_divisor, a_inverse, a_numerator, a_factorDegrees, a_factorPowers, a_factorCells) := by
  have inner : ∀ (J : Int32 → (Nat → Int32) → (Nat → Int32) → (Nat → Int32) → (Nat → Int32) → (Nat → Int32) → (Nat → Int32) → (Nat → Int32) → (Nat → Int32) → (Nat → Int32) → (Nat → Int32) → (Nat → Int32) → (Nat → Int32) → (Nat → Int32) → (Nat → Int32) → (Nat → Int32) → (Nat → Int32) → (Nat → Int32) → (Nat → Int32) → (Nat → Int32) → (Nat → Int32) → (Nat → Int32) → (Nat → Int32) → (Nat → Int32) → (Nat → Int32) → (Nat → Int32) → Prop) (i : Nat), i < 17 → (∀ a_bottom : Nat → Int32, xv a_bottom (pf_R P Q (i + 1)) → J (nI (i + 1)) a_tokenKind a_tokenContent a_stepKind a_stepToken a_waitingKind a_waitingToken a_present a_cells a_leftTop a_leftBottom a_rightTop a_rightBottom a_top a_bottom a_product a_quotient a_common a_spare a_rest a_divisor a_inverse a_numerator a_factorDegrees a_factorPowers a_factorCells) → ∀ d j, ∀ a_bottom : Nat → Int32, i + j + d = 17 → xv a_bottom (fun k => pf_R P Q i k + (if i ≤ k ∧ k < i + j then P i * Q (k - i) else 0)) → wX_multiply__leftBottom_leftBottom_bottom_16 post J (nI i) f_tokenCount f_latestPlace f_stepCount f_waitingCount f_stackCount f_factorCount (d + 1) (nI j) a_tokenKind a_tokenContent a_stepKind a_stepToken a_waitingKind a_waitingToken a_present a_cells a_leftTop a_leftBottom a_rightTop a_rightBottom a_top a_bottom a_product a_quotient a_common a_spare a_rest a_divisor a_inverse a_numerator a_factorDegrees a_factorPowers a_factorCells := by
    intro J i hi hJ d
    induction d with
    | zero =>
      intro j a_bottom hj hx
      refine br_t ?_ (nm_r (nI_1 i) (hJ _ (xv_R1 hx (by omega))))
      rw [nI_add]; exact nI_le (a := 17) (by omega) (by omega)
    | succ d ih =>
      intro j a_bottom hj hx
      have e := pk_in (x := nI i + nI j) (i + j) 17 (by omega) (nI_add i j)
      refine br_f ?_ ⟨e, vp_in_nI (by omega) (by omega), vp_in_nI (by omega) (by omega), by decide, e, nm_e (nm_r (nI_1 j) (ih (j + 1) _ (by omega) ?_))⟩
      · rw [nI_add]; exact xl_17 (by omega)
      · rw [nI_add, nI_clamp (by omega), nI_clamp (by omega), nI_clamp (by omega), hA i hi, hB j (by omega)]
        exact xv_R2 hx (by omega)
  have outer : ∀ d i, ∀ a_bottom : Nat → Int32, i + d = 17 → xv a_bottom (pf_R P Q i) → wX_multiply__leftBottom_leftBottom_bottom_7 post f_tokenCount f_latestPlace f_stepCount f_waitingCount f_stackCount f_factorCount (d + 1) (nI i) a_tokenKind a_tokenContent a_stepKind a_stepToken a_waitingKind a_waitingToken a_present a_cells a_leftTop a_leftBottom a_rightTop a_rightBottom a_top a_bottom a_product a_quotient a_common a_spare a_rest a_divisor a_inverse a_numerator a_factorDegrees a_factorPowers a_factorCells := by
    intro d
    induction d with
    | zero =>
      intro i a_bottom hi hx
      obtain rfl : i = 17 := by omega
      exact br_t (by decide) (h _ (xv_e hx (fun k hk => pf_R17 P Q hk)))
    | succ d ih =>
      intro i a_bottom hi hx
      exact br_f (xl_17 (by omega)) ⟨17 - i + 1, inner _ i (by omega) (fun a_bottom hx => ih (i + 1) _ (by omega) hx) (17 - i) 0 _ (by omega) (xv_R0 hx)⟩
  unfold wpX_multiply__leftBottom_leftBottom_bottom
  exact xf_setNumber__bottom 0 (fun a_bottom hx => ⟨18, outer 17 0 _ rfl (xv_e hx (fun k _ => by rw [pf_c0]; rfl))⟩)
theorem xf_multiply__top_rightTop_product {post : SX → Prop} {P Q : PF} (hA : xv a_top P) (hB : xv a_rightTop Q) (h : ∀ a_product : Nat → Int32, xv a_product (pf_mul P Q) → post (f_tokenCount, f_latestPlace, f_stepCount, f_waitingCount, f_stackCount, f_factorCount, a_tokenKind, a_tokenContent, a_stepKind, a_stepToken, a_waitingKind, a_waitingToken, a_present, a_cells, a_leftTop, a_leftBottom, a_rightTop, a_rightBottom, a_top, a_bottom, a_product, a_quotient, a_common, a_spare, a_rest, a_divisor, a_inverse, a_numerator, a_factorDegrees, a_factorPowers, a_factorCells)) : wpX_multiply__top_rightTop_product post (f_tokenCount, f_latestPlace, f_stepCount, f_waitingCount, f_stackCount, f_factorCount, a_tokenKind, a_tokenContent, a_stepKind, a_stepToken, a_waitingKind, a_waitingToken, a_present, a_cells, a_leftTop, a_leftBottom, a_rightTop, a_rightBottom, a_top, a_bottom, a_product, a_quotient, a_common, a_spare, a_rest, a_divisor, a_inverse, a_numerator, a_factorDegrees, a_factorPowers, a_factorCells) := by
  have inner : ∀ (J : Int32 → (Nat → Int32) → (Nat → Int32) → (Nat → Int32) → (Nat → Int32) → (Nat → Int32) → (Nat → Int32) → (Nat → Int32) → (Nat → Int32) → (Nat → Int32) → (Nat → Int32) → (Nat → Int32) → (Nat → Int32) → (Nat → Int32) → (Nat → Int32) → (Nat → Int32) → (Nat → Int32) → (Nat → Int32) → (Nat → Int32) → (Nat → Int32) → (Nat → Int32) → (Nat → Int32) → (Nat → Int32) → (Nat → Int32) → (Nat → Int32) → (Nat → Int32) → Prop) (i : Nat), i < 17 → (∀ a_product : Nat → Int32, xv a_product (pf_R P Q (i + 1)) → J (nI (i + 1)) a_tokenKind a_tokenContent a_stepKind a_stepToken a_waitingKind a_waitingToken a_present a_cells a_leftTop a_leftBottom a_rightTop a_rightBottom a_top a_bottom a_product a_quotient a_common a_spare a_rest a_divisor a_inverse a_numerator a_factorDegrees a_factorPowers a_factorCells) → ∀ d j, ∀ a_product : Nat → Int32, i + j + d = 17 → xv a_product (fun k => pf_R P Q i k + (if i ≤ k ∧ k < i + j then P i * Q (k - i) else 0)) → wX_multiply__top_rightTop_product_16 post J (nI i) f_tokenCount f_latestPlace f_stepCount f_waitingCount f_stackCount f_factorCount (d + 1) (nI j) a_tokenKind a_tokenContent a_stepKind a_stepToken a_waitingKind a_waitingToken a_present a_cells a_leftTop a_leftBottom a_rightTop a_rightBottom a_top a_bottom a_product a_quotient a_common a_spare a_rest a_divisor a_inverse a_numerator a_factorDegrees a_factorPowers a_factorCells := by
    intro J i hi hJ d
    induction d with
    | zero =>
      intro j a_product hj hx
      refine br_t ?_ (nm_r (nI_1 i) (hJ _ (xv_R1 hx (by omega))))
      rw [nI_add]; exact nI_le (a := 17) (by omega) (by omega)
    | succ d ih =>
      intro j a_product hj hx
      have e := pk_in (x := nI i + nI j) (i + j) 17 (by omega) (nI_add i j)
      refine br_f ?_ ⟨e, vp_in_nI (by omega) (by omega), vp_in_nI (by omega) (by omega), by decide, e, nm_e (nm_r (nI_1 j) (ih (j + 1) _ (by omega) ?_))⟩
      · rw [nI_add]; exact xl_17 (by omega)
      · rw [nI_add, nI_clamp (by omega), nI_clamp (by omega), nI_clamp (by omega), hA i hi, hB j (by omega)]
        exact xv_R2 hx (by omega)
  have outer : ∀ d i, ∀ a_product : Nat → Int32, i + d = 17 → xv a_product (pf_R P Q i) → wX_multiply__top_rightTop_product_7 post f_tokenCount f_latestPlace f_stepCount f_waitingCount f_stackCount f_factorCount (d + 1) (nI i) a_tokenKind a_tokenContent a_stepKind a_stepToken a_waitingKind a_waitingToken a_present a_cells a_leftTop a_leftBottom a_rightTop a_rightBottom a_top a_bottom a_product a_quotient a_common a_spare a_rest a_divisor a_inverse a_numerator a_factorDegrees a_factorPowers a_factorCells := by
    intro d
    induction d with
    | zero =>
      intro i a_product hi hx
      obtain rfl : i = 17 := by omega
      exact br_t (by decide) (h _ (xv_e hx (fun k hk => pf_R17 P Q hk)))
    | succ d ih =>
      intro i a_product hi hx
      exact br_f (xl_17 (by omega)) ⟨17 - i + 1, inner _ i (by omega) (fun a_product hx => ih (i + 1) _ (by omega) hx) (17 - i) 0 _ (by omega) (xv_R0 hx)⟩
  unfold wpX_multiply__top_rightTop_product
  exact xf_setNumber__product 0 (fun a_product hx => ⟨18, outer 17 0 _ rfl (xv_e hx (fun k _ => by rw [pf_c0]; rfl))⟩)
theorem xf_multiply__spare_rightBottom_product {post : SX → Prop} {P Q : PF} (hA : xv a_spare P) (hB : xv a_rightBottom Q) (h : ∀ a_product : Nat → Int32, xv a_product (pf_mul P Q) → post (f_tokenCount, f_latestPlace, f_stepCount, f_waitingCount, f_stackCount, f_factorCount, a_tokenKind, a_tokenContent, a_stepKind, a_stepToken, a_waitingKind, a_waitingToken, a_present, a_cells, a_leftTop, a_leftBottom, a_rightTop, a_rightBottom, a_top, a_bottom, a_product, a_quotient, a_common, a_spare, a_rest, a_divisor, a_inverse, a_numerator, a_factorDegrees, a_factorPowers, a_factorCells)) : wpX_multiply__spare_rightBottom_product post (f_tokenCount, f_latestPlace, f_stepCount, f_waitingCount, f_stackCount, f_factorCount, a_tokenKind, a_tokenContent, a_stepKind, a_stepToken, a_waitingKind, a_waitingToken, a_present, a_cells, a_leftTop, a_leftBottom, a_rightTop, a_rightBottom, a_top, a_bottom, a_product, a_quotient, a_common, a_spare, a_rest, a_divisor, a_inverse, a_numerator, a_factorDegrees, a_factorPowers, a_factorCells) := by
  have inner : ∀ (J : Int32 → (Nat → Int32) → (Nat → Int32) → (Nat → Int32) → (Nat → Int32) → (Nat → Int32) → (Nat → Int32) → (Nat → Int32) → (Nat → Int32) → (Nat → Int32) → (Nat → Int32) → (Nat → Int32) → (Nat → Int32) → (Nat → Int32) → (Nat → Int32) → (Nat → Int32) → (Nat → Int32) → (Nat → Int32) → (Nat → Int32) → (Nat → Int32) → (Nat → Int32) → (Nat → Int32) → (Nat → Int32) → (Nat → Int32) → (Nat → Int32) → (Nat → Int32) → Prop) (i : Nat), i < 17 → (∀ a_product : Nat → Int32, xv a_product (pf_R P Q (i + 1)) → J (nI (i + 1)) a_tokenKind a_tokenContent a_stepKind a_stepToken a_waitingKind a_waitingToken a_present a_cells a_leftTop a_leftBottom a_rightTop a_rightBottom a_top a_bottom a_product a_quotient a_common a_spare a_rest a_divisor a_inverse a_numerator a_factorDegrees a_factorPowers a_factorCells) → ∀ d j, ∀ a_product : Nat → Int32, i + j + d = 17 → xv a_product (fun k => pf_R P Q i k + (if i ≤ k ∧ k < i + j then P i * Q (k - i) else 0)) → wX_multiply__spare_rightBottom_product_16 post J (nI i) f_tokenCount f_latestPlace f_stepCount f_waitingCount f_stackCount f_factorCount (d + 1) (nI j) a_tokenKind a_tokenContent a_stepKind a_stepToken a_waitingKind a_waitingToken a_present a_cells a_leftTop a_leftBottom a_rightTop a_rightBottom a_top a_bottom a_product a_quotient a_common a_spare a_rest a_divisor a_inverse a_numerator a_factorDegrees a_factorPowers a_factorCells := by
    intro J i hi hJ d
    induction d with
    | zero =>
      intro j a_product hj hx
      refine br_t ?_ (nm_r (nI_1 i) (hJ _ (xv_R1 hx (by omega))))
      rw [nI_add]; exact nI_le (a := 17) (by omega) (by omega)
    | succ d ih =>
      intro j a_product hj hx
      have e := pk_in (x := nI i + nI j) (i + j) 17 (by omega) (nI_add i j)
      refine br_f ?_ ⟨e, vp_in_nI (by omega) (by omega), vp_in_nI (by omega) (by omega), by decide, e, nm_e (nm_r (nI_1 j) (ih (j + 1) _ (by omega) ?_))⟩
      · rw [nI_add]; exact xl_17 (by omega)
      · rw [nI_add, nI_clamp (by omega), nI_clamp (by omega), nI_clamp (by omega), hA i hi, hB j (by omega)]
        exact xv_R2 hx (by omega)
  have outer : ∀ d i, ∀ a_product : Nat → Int32, i + d = 17 → xv a_product (pf_R P Q i) → wX_multiply__spare_rightBottom_product_7 post f_tokenCount f_latestPlace f_stepCount f_waitingCount f_stackCount f_factorCount (d + 1) (nI i) a_tokenKind a_tokenContent a_stepKind a_stepToken a_waitingKind a_waitingToken a_present a_cells a_leftTop a_leftBottom a_rightTop a_rightBottom a_top a_bottom a_product a_quotient a_common a_spare a_rest a_divisor a_inverse a_numerator a_factorDegrees a_factorPowers a_factorCells := by
    intro d
    induction d with
    | zero =>
      intro i a_product hi hx
      obtain rfl : i = 17 := by omega
      exact br_t (by decide) (h _ (xv_e hx (fun k hk => pf_R17 P Q hk)))
    | succ d ih =>
      intro i a_product hi hx
      exact br_f (xl_17 (by omega)) ⟨17 - i + 1, inner _ i (by omega) (fun a_product hx => ih (i + 1) _ (by omega) hx) (17 - i) 0 _ (by omega) (xv_R0 hx)⟩
  unfold wpX_multiply__spare_rightBottom_product
  exact xf_setNumber__product 0 (fun a_product hx => ⟨18, outer 17 0 _ rfl (xv_e hx (fun k _ => by rw [pf_c0]; rfl))⟩)
theorem xf_multiply__bottom_rightTop_product {post : SX → Prop} {P Q : PF} (hA : xv a_bottom P) (hB : xv a_rightTop Q) (h : ∀ a_product : Nat → Int32, xv a_product (pf_mul P Q) → post (f_tokenCount, f_latestPlace, f_stepCount, f_waitingCount, f_stackCount, f_factorCount, a_tokenKind, a_tokenContent, a_stepKind, a_stepToken, a_waitingKind, a_waitingToken, a_present, a_cells, a_leftTop, a_leftBottom, a_rightTop, a_rightBottom, a_top, a_bottom, a_product, a_quotient, a_common, a_spare, a_rest, a_divisor, a_inverse, a_numerator, a_factorDegrees, a_factorPowers, a_factorCells)) : wpX_multiply__bottom_rightTop_product post (f_tokenCount, f_latestPlace, f_stepCount, f_waitingCount, f_stackCount, f_factorCount, a_tokenKind, a_tokenContent, a_stepKind, a_stepToken, a_waitingKind, a_waitingToken, a_present, a_cells, a_leftTop, a_leftBottom, a_rightTop, a_rightBottom, a_top, a_bottom, a_product, a_quotient, a_common, a_spare, a_rest, a_divisor, a_inverse, a_numerator, a_factorDegrees, a_factorPowers, a_factorCells) := by
  have inner : ∀ (J : Int32 → (Nat → Int32) → (Nat → Int32) → (Nat → Int32) → (Nat → Int32) → (Nat → Int32) → (Nat → Int32) → (Nat → Int32) → (Nat → Int32) → (Nat → Int32) → (Nat → Int32) → (Nat → Int32) → (Nat → Int32) → (Nat → Int32) → (Nat → Int32) → (Nat → Int32) → (Nat → Int32) → (Nat → Int32) → (Nat → Int32) → (Nat → Int32) → (Nat → Int32) → (Nat → Int32) → (Nat → Int32) → (Nat → Int32) → (Nat → Int32) → (Nat → Int32) → Prop) (i : Nat), i < 17 → (∀ a_product : Nat → Int32, xv a_product (pf_R P Q (i + 1)) → J (nI (i + 1)) a_tokenKind a_tokenContent a_stepKind a_stepToken a_waitingKind a_waitingToken a_present a_cells a_leftTop a_leftBottom a_rightTop a_rightBottom a_top a_bottom a_product a_quotient a_common a_spare a_rest a_divisor a_inverse a_numerator a_factorDegrees a_factorPowers a_factorCells) → ∀ d j, ∀ a_product : Nat → Int32, i + j + d = 17 → xv a_product (fun k => pf_R P Q i k + (if i ≤ k ∧ k < i + j then P i * Q (k - i) else 0)) → wX_multiply__bottom_rightTop_product_16 post J (nI i) f_tokenCount f_latestPlace f_stepCount f_waitingCount f_stackCount f_factorCount (d + 1) (nI j) a_tokenKind a_tokenContent a_stepKind a_stepToken a_waitingKind a_waitingToken a_present a_cells a_leftTop a_leftBottom a_rightTop a_rightBottom a_top a_bottom a_product a_quotient a_common a_spare a_rest a_divisor a_inverse a_numerator a_factorDegrees a_factorPowers a_factorCells := by
    intro J i hi hJ d
    induction d with
    | zero =>
      intro j a_product hj hx
      refine br_t ?_ (nm_r (nI_1 i) (hJ _ (xv_R1 hx (by omega))))
      rw [nI_add]; exact nI_le (a := 17) (by omega) (by omega)
    | succ d ih =>
      intro j a_product hj hx
      have e := pk_in (x := nI i + nI j) (i + j) 17 (by omega) (nI_add i j)
      refine br_f ?_ ⟨e, vp_in_nI (by omega) (by omega), vp_in_nI (by omega) (by omega), by decide, e, nm_e (nm_r (nI_1 j) (ih (j + 1) _ (by omega) ?_))⟩
      · rw [nI_add]; exact xl_17 (by omega)
      · rw [nI_add, nI_clamp (by omega), nI_clamp (by omega), nI_clamp (by omega), hA i hi, hB j (by omega)]
        exact xv_R2 hx (by omega)
  have outer : ∀ d i, ∀ a_product : Nat → Int32, i + d = 17 → xv a_product (pf_R P Q i) → wX_multiply__bottom_rightTop_product_7 post f_tokenCount f_latestPlace f_stepCount f_waitingCount f_stackCount f_factorCount (d + 1) (nI i) a_tokenKind a_tokenContent a_stepKind a_stepToken a_waitingKind a_waitingToken a_present a_cells a_leftTop a_leftBottom a_rightTop a_rightBottom a_top a_bottom a_product a_quotient a_common a_spare a_rest a_divisor a_inverse a_numerator a_factorDegrees a_factorPowers a_factorCells := by
    intro d
    induction d with
    | zero =>
      intro i a_product hi hx
      obtain rfl : i = 17 := by omega
      exact br_t (by decide) (h _ (xv_e hx (fun k hk => pf_R17 P Q hk)))
    | succ d ih =>
      intro i a_product hi hx
      exact br_f (xl_17 (by omega)) ⟨17 - i + 1, inner _ i (by omega) (fun a_product hx => ih (i + 1) _ (by omega) hx) (17 - i) 0 _ (by omega) (xv_R0 hx)⟩
  unfold wpX_multiply__bottom_rightTop_product
  exact xf_setNumber__product 0 (fun a_product hx => ⟨18, outer 17 0 _ rfl (xv_e hx (fun k _ => by rw [pf_c0]; rfl))⟩)
theorem xf_multiply__spare_common_product {post : SX → Prop} {P Q : PF} (hA : xv a_spare P) (hB : xv a_common Q) (h : ∀ a_product : Nat → Int32, xv a_product (pf_mul P Q) → post (f_tokenCount, f_latestPlace, f_stepCount, f_waitingCount, f_stackCount, f_factorCount, a_tokenKind, a_tokenContent, a_stepKind, a_stepToken, a_waitingKind, a_waitingToken, a_present, a_cells, a_leftTop, a_leftBottom, a_rightTop, a_rightBottom, a_top, a_bottom, a_product, a_quotient, a_common, a_spare, a_rest, a_divisor, a_inverse, a_numerator, a_factorDegrees, a_factorPowers, a_factorCells)) : wpX_multiply__spare_common_product post (f_tokenCount, f_latestPlace, f_stepCount, f_waitingCount, f_stackCount, f_factorCount, a_tokenKind, a_tokenContent, a_stepKind, a_stepToken, a_waitingKind, a_waitingToken, a_present, a_cells, a_leftTop, a_leftBottom, a_rightTop, a_rightBottom, a_top, a_bottom, a_product, a_quotient, a_common, a_spare, a_rest, a_divisor, a_inverse, a_numerator, a_factorDegrees, a_factorPowers, a_factorCells) := by
  have inner : ∀ (J : Int32 → (Nat → Int32) → (Nat → Int32) → (Nat → Int32) → (Nat → Int32) → (Nat → Int32) → (Nat → Int32) → (Nat → Int32) → (Nat → Int32) → (Nat → Int32) → (Nat → Int32) → (Nat → Int32) → (Nat → Int32) → (Nat → Int32) → (Nat → Int32) → (Nat → Int32) → (Nat → Int32) → (Nat → Int32) → (Nat → Int32) → (Nat → Int32) → (Nat → Int32) → (Nat → Int32) → (Nat → Int32) → (Nat → Int32) → (Nat → Int32) → (Nat → Int32) → Prop) (i : Nat), i < 17 → (∀ a_product : Nat → Int32, xv a_product (pf_R P Q (i + 1)) → J (nI (i + 1)) a_tokenKind a_tokenContent a_stepKind a_stepToken a_waitingKind a_waitingToken a_present a_cells a_leftTop a_leftBottom a_rightTop a_rightBottom a_top a_bottom a_product a_quotient a_common a_spare a_rest a_divisor a_inverse a_numerator a_factorDegrees a_factorPowers a_factorCells) → ∀ d j, ∀ a_product : Nat → Int32, i + j + d = 17 → xv a_product (fun k => pf_R P Q i k + (if i ≤ k ∧ k < i + j then P i * Q (k - i) else 0)) → wX_multiply__spare_common_product_16 post J (nI i) f_tokenCount f_latestPlace f_stepCount f_waitingCount f_stackCount f_factorCount (d + 1) (nI j) a_tokenKind a_tokenContent a_stepKind a_stepToken a_waitingKind a_waitingToken a_present a_cells a_leftTop a_leftBottom a_rightTop a_rightBottom a_top a_bottom a_product a_quotient a_common a_spare a_rest a_divisor a_inverse a_numerator a_factorDegrees a_factorPowers a_factorCells := by
    intro J i hi hJ d
    induction d with
    | zero =>
      intro j a_product hj hx
      refine br_t ?_ (nm_r (nI_1 i) (hJ _ (xv_R1 hx (by omega))))
      rw [nI_add]; exact nI_le (a := 17) (by omega) (by omega)
    | succ d ih =>
      intro j a_product hj hx
      have e := pk_in (x := nI i + nI j) (i + j) 17 (by omega) (nI_add i j)
      refine br_f ?_ ⟨e, vp_in_nI (by omega) (by omega), vp_in_nI (by omega) (by omega), by decide, e, nm_e (nm_r (nI_1 j) (ih (j + 1) _ (by omega) ?_))⟩
      · rw [nI_add]; exact xl_17 (by omega)
      · rw [nI_add, nI_clamp (by omega), nI_clamp (by omega), nI_clamp (by omega), hA i hi, hB j (by omega)]
        exact xv_R2 hx (by omega)
  have outer : ∀ d i, ∀ a_product : Nat → Int32, i + d = 17 → xv a_product (pf_R P Q i) → wX_multiply__spare_common_product_7 post f_tokenCount f_latestPlace f_stepCount f_waitingCount f_stackCount f_factorCount (d + 1) (nI i) a_tokenKind a_tokenContent a_stepKind a_stepToken a_waitingKind a_waitingToken a_present a_cells a_leftTop a_leftBottom a_rightTop a_rightBottom a_top a_bottom a_product a_quotient a_common a_spare a_rest a_divisor a_inverse a_numerator a_factorDegrees a_factorPowers a_factorCells := by
    intro d
    induction d with
    | zero =>
      intro i a_product hi hx
      obtain rfl : i = 17 := by omega
      exact br_t (by decide) (h _ (xv_e hx (fun k hk => pf_R17 P Q hk)))
    | succ d ih =>
      intro i a_product hi hx
      exact br_f (xl_17 (by omega)) ⟨17 - i + 1, inner _ i (by omega) (fun a_product hx => ih (i + 1) _ (by omega) hx) (17 - i) 0 _ (by omega) (xv_R0 hx)⟩
  unfold wpX_multiply__spare_common_product
  exact xf_setNumber__product 0 (fun a_product hx => ⟨18, outer 17 0 _ rfl (xv_e hx (fun k _ => by rw [pf_c0]; rfl))⟩)
theorem xf_multiply__inverse_spare_product {post : SX → Prop} {P Q : PF} (hA : xv a_inverse P) (hB : xv a_spare Q) (h : ∀ a_product : Nat → Int32, xv a_product (pf_mul P Q) → post (f_tokenCount, f_latestPlace, f_stepCount, f_waitingCount, f_stackCount, f_factorCount, a_tokenKind, a_tokenContent, a_stepKind, a_stepToken, a_waitingKind, a_waitingToken, a_present, a_cells, a_leftTop, a_leftBottom, a_rightTop, a_rightBottom, a_top, a_bottom, a_product, a_quotient, a_common, a_spare, a_rest, a_divisor, a_inverse, a_numerator, a_factorDegrees, a_factorPowers, a_factorCells)) : wpX_multiply__inverse_spare_product post (f_tokenCount, f_latestPlace, f_stepCount, f_waitingCount, f_stackCount, f_factorCount, a_tokenKind, a_tokenContent, a_stepKind, a_stepToken, a_waitingKind, a_waitingToken, a_present, a_cells, a_leftTop, a_leftBottom, a_rightTop, a_rightBottom, a_top, a_bottom, a_product, a_quotient, a_common, a_spare, a_rest, a_divisor, a_inverse, a_numerator, a_factorDegrees, a_factorPowers, a_factorCells) := by
  have inner : ∀ (J : Int32 → (Nat → Int32) → (Nat → Int32) → (Nat → Int32) → (Nat → Int32) → (Nat → Int32) → (Nat → Int32) → (Nat → Int32) → (Nat → Int32) → (Nat → Int32) → (Nat → Int32) → (Nat → Int32) → (Nat → Int32) → (Nat → Int32) → (Nat → Int32) → (Nat → Int32) → (Nat → Int32) → (Nat → Int32) → (Nat → Int32) → (Nat → Int32) → (Nat → Int32) → (Nat → Int32) → (Nat → Int32) → (Nat → Int32) → (Nat → Int32) → (Nat → Int32) → Prop) (i : Nat), i < 17 → (∀ a_product : Nat → Int32, xv a_product (pf_R P Q (i + 1)) → J (nI (i + 1)) a_tokenKind a_tokenContent a_stepKind a_stepToken a_waitingKind a_waitingToken a_present a_cells a_leftTop a_leftBottom a_rightTop a_rightBottom a_top a_bottom a_product a_quotient a_common a_spare a_rest a_divisor a_inverse a_numerator a_factorDegrees a_factorPowers a_factorCells) → ∀ d j, ∀ a_product : Nat → Int32, i + j + d = 17 → xv a_product (fun k => pf_R P Q i k + (if i ≤ k ∧ k < i + j then P i * Q (k - i) else 0)) → wX_multiply__inverse_spare_product_16 post J (nI i) f_tokenCount f_latestPlace f_stepCount f_waitingCount f_stackCount f_factorCount (d + 1) (nI j) a_tokenKind a_tokenContent a_stepKind a_stepToken a_waitingKind a_waitingToken a_present a_cells a_leftTop a_leftBottom a_rightTop a_rightBottom a_top a_bottom a_product a_quotient a_common a_spare a_rest a_divisor a_inverse a_numerator a_factorDegrees a_factorPowers a_factorCells := by
    intro J i hi hJ d
    induction d with
    | zero =>
      intro j a_product hj hx
      refine br_t ?_ (nm_r (nI_1 i) (hJ _ (xv_R1 hx (by omega))))
      rw [nI_add]; exact nI_le (a := 17) (by omega) (by omega)
    | succ d ih =>
      intro j a_product hj hx
      have e := pk_in (x := nI i + nI j) (i + j) 17 (by omega) (nI_add i j)
      refine br_f ?_ ⟨e, vp_in_nI (by omega) (by omega), vp_in_nI (by omega) (by omega), by decide, e, nm_e (nm_r (nI_1 j) (ih (j + 1) _ (by omega) ?_))⟩
      · rw [nI_add]; exact xl_17 (by omega)
      · rw [nI_add, nI_clamp (by omega), nI_clamp (by omega), nI_clamp (by omega), hA i hi, hB j (by omega)]
        exact xv_R2 hx (by omega)
  have outer : ∀ d i, ∀ a_product : Nat → Int32, i + d = 17 → xv a_product (pf_R P Q i) → wX_multiply__inverse_spare_product_7 post f_tokenCount f_latestPlace f_stepCount f_waitingCount f_stackCount f_factorCount (d + 1) (nI i) a_tokenKind a_tokenContent a_stepKind a_stepToken a_waitingKind a_waitingToken a_present a_cells a_leftTop a_leftBottom a_rightTop a_rightBottom a_top a_bottom a_product a_quotient a_common a_spare a_rest a_divisor a_inverse a_numerator a_factorDegrees a_factorPowers a_factorCells := by
    intro d
    induction d with
    | zero =>
      intro i a_product hi hx
      obtain rfl : i = 17 := by omega
      exact br_t (by decide) (h _ (xv_e hx (fun k hk => pf_R17 P Q hk)))
    | succ d ih =>
      intro i a_product hi hx
      exact br_f (xl_17 (by omega)) ⟨17 - i + 1, inner _ i (by omega) (fun a_product hx => ih (i + 1) _ (by omega) hx) (17 - i) 0 _ (by omega) (xv_R0 hx)⟩
  unfold wpX_multiply__inverse_spare_product
  exact xf_setNumber__product 0 (fun a_product hx => ⟨18, outer 17 0 _ rfl (xv_e hx (fun k _ => by rw [pf_c0]; rfl))⟩)
theorem xf_multiply__numerator_inverse_product {post : SX → Prop} {P Q : PF} (hA : xv a_numerator P) (hB : xv a_inverse Q) (h : ∀ a_product : Nat → Int32, xv a_product (pf_mul P Q) → post (f_tokenCount, f_latestPlace, f_stepCount, f_waitingCount, f_stackCount, f_factorCount, a_tokenKind, a_tokenContent, a_stepKind, a_stepToken, a_waitingKind, a_waitingToken, a_present, a_cells, a_leftTop, a_leftBottom, a_rightTop, a_rightBottom, a_top, a_bottom, a_product, a_quotient, a_common, a_spare, a_rest, a_divisor, a_inverse, a_numerator, a_factorDegrees, a_factorPowers, a_factorCells)) : wpX_multiply__numerator_inverse_product post (f_tokenCount, f_latestPlace, f_stepCount, f_waitingCount, f_stackCount, f_factorCount, a_tokenKind, a_tokenContent, a_stepKind, a_stepToken, a_waitingKind, a_waitingToken, a_present, a_cells, a_leftTop, a_leftBottom, a_rightTop, a_rightBottom, a_top, a_bottom, a_product, a_quotient, a_common, a_spare, a_rest, a_divisor, a_inverse, a_numerator, a_factorDegrees, a_factorPowers, a_factorCells) := by
  have inner : ∀ (J : Int32 → (Nat → Int32) → (Nat → Int32) → (Nat → Int32) → (Nat → Int32) → (Nat → Int32) → (Nat → Int32) → (Nat → Int32) → (Nat → Int32) → (Nat → Int32) → (Nat → Int32) → (Nat → Int32) → (Nat → Int32) → (Nat → Int32) → (Nat → Int32) → (Nat → Int32) → (Nat → Int32) → (Nat → Int32) → (Nat → Int32) → (Nat → Int32) → (Nat → Int32) → (Nat → Int32) → (Nat → Int32) → (Nat → Int32) → (Nat → Int32) → (Nat → Int32) → Prop) (i : Nat), i < 17 → (∀ a_product : Nat → Int32, xv a_product (pf_R P Q (i + 1)) → J (nI (i + 1)) a_tokenKind a_tokenContent a_stepKind a_stepToken a_waitingKind a_waitingToken a_present a_cells a_leftTop a_leftBottom a_rightTop a_rightBottom a_top a_bottom a_product a_quotient a_common a_spare a_rest a_divisor a_inverse a_numerator a_factorDegrees a_factorPowers a_factorCells) → ∀ d j, ∀ a_product : Nat → Int32, i + j + d = 17 → xv a_product (fun k => pf_R P Q i k + (if i ≤ k ∧ k < i + j then P i * Q (k - i) else 0)) → wX_multiply__numerator_inverse_product_16 post J (nI i) f_tokenCount f_latestPlace f_stepCount f_waitingCount f_stackCount f_factorCount (d + 1) (nI j) a_tokenKind a_tokenContent a_stepKind a_stepToken a_waitingKind a_waitingToken a_present a_cells a_leftTop a_leftBottom a_rightTop a_rightBottom a_top a_bottom a_product a_quotient a_common a_spare a_rest a_divisor a_inverse a_numerator a_factorDegrees a_factorPowers a_factorCells := by
    intro J i hi hJ d
    induction d with
    | zero =>
      intro j a_product hj hx
      refine br_t ?_ (nm_r (nI_1 i) (hJ _ (xv_R1 hx (by omega))))
      rw [nI_add]; exact nI_le (a := 17) (by omega) (by omega)
    | succ d ih =>
      intro j a_product hj hx
      have e := pk_in (x := nI i + nI j) (i + j) 17 (by omega) (nI_add i j)
      refine br_f ?_ ⟨e, vp_in_nI (by omega) (by omega), vp_in_nI (by omega) (by omega), by decide, e, nm_e (nm_r (nI_1 j) (ih (j + 1) _ (by omega) ?_))⟩
      · rw [nI_add]; exact xl_17 (by omega)
      · rw [nI_add, nI_clamp (by omega), nI_clamp (by omega), nI_clamp (by omega), hA i hi, hB j (by omega)]
        exact xv_R2 hx (by omega)
  have outer : ∀ d i, ∀ a_product : Nat → Int32, i + d = 17 → xv a_product (pf_R P Q i) → wX_multiply__numerator_inverse_product_7 post f_tokenCount f_latestPlace f_stepCount f_waitingCount f_stackCount f_factorCount (d + 1) (nI i) a_tokenKind a_tokenContent a_stepKind a_stepToken a_waitingKind a_waitingToken a_present a_cells a_leftTop a_leftBottom a_rightTop a_rightBottom a_top a_bottom a_product a_quotient a_common a_spare a_rest a_divisor a_inverse a_numerator a_factorDegrees a_factorPowers a_factorCells := by
    intro d
    induction d with
    | zero =>
      intro i a_product hi hx
      obtain rfl : i = 17 := by omega
      exact br_t (by decide) (h _ (xv_e hx (fun k hk => pf_R17 P Q hk)))
    | succ d ih =>
      intro i a_product hi hx
      exact br_f (xl_17 (by omega)) ⟨17 - i + 1, inner _ i (by omega) (fun a_product hx => ih (i + 1) _ (by omega) hx) (17 - i) 0 _ (by omega) (xv_R0 hx)⟩
  unfold wpX_multiply__numerator_inverse_product
  exact xf_setNumber__product 0 (fun a_product hx => ⟨18, outer 17 0 _ rfl (xv_e hx (fun k _ => by rw [pf_c0]; rfl))⟩)
theorem xf_multiply__numerator_leftBottom_product {post : SX → Prop} {P Q : PF} (hA : xv a_numerator P) (hB : xv a_leftBottom Q) (h : ∀ a_product : Nat → Int32, xv a_product (pf_mul P Q) → post (f_tokenCount, f_latestPlace, f_stepCount, f_waitingCount, f_stackCount, f_factorCount, a_tokenKind, a_tokenContent, a_stepKind, a_stepToken, a_waitingKind, a_waitingToken, a_present, a_cells, a_leftTop, a_leftBottom, a_rightTop, a_rightBottom, a_top, a_bottom, a_product, a_quotient, a_common, a_spare, a_rest, a_divisor, a_inverse, a_numerator, a_factorDegrees, a_factorPowers, a_factorCells)) : wpX_multiply__numerator_leftBottom_product post (f_tokenCount, f_latestPlace, f_stepCount, f_waitingCount, f_stackCount, f_factorCount, a_tokenKind, a_tokenContent, a_stepKind, a_stepToken, a_waitingKind, a_waitingToken, a_present, a_cells, a_leftTop, a_leftBottom, a_rightTop, a_rightBottom, a_top, a_bottom, a_product, a_quotient, a_common, a_spare, a_rest, a_divisor, a_inverse, a_numerator, a_factorDegrees, a_factorPowers, a_factorCells) := by
  have inner : ∀ (J : Int32 → (Nat → Int32) → (Nat → Int32) → (Nat → Int32) → (Nat → Int32) → (Nat → Int32) → (Nat → Int32) → (Nat → Int32) → (Nat → Int32) → (Nat → Int32) → (Nat → Int32) → (Nat → Int32) → (Nat → Int32) → (Nat → Int32) → (Nat → Int32) → (Nat → Int32) → (Nat → Int32) → (Nat → Int32) → (Nat → Int32) → (Nat → Int32) → (Nat → Int32) → (Nat → Int32) → (Nat → Int32) → (Nat → Int32) → (Nat → Int32) → (Nat → Int32) → Prop) (i : Nat), i < 17 → (∀ a_product : Nat → Int32, xv a_product (pf_R P Q (i + 1)) → J (nI (i + 1)) a_tokenKind a_tokenContent a_stepKind a_stepToken a_waitingKind a_waitingToken a_present a_cells a_leftTop a_leftBottom a_rightTop a_rightBottom a_top a_bottom a_product a_quotient a_common a_spare a_rest a_divisor a_inverse a_numerator a_factorDegrees a_factorPowers a_factorCells) → ∀ d j, ∀ a_product : Nat → Int32, i + j + d = 17 → xv a_product (fun k => pf_R P Q i k + (if i ≤ k ∧ k < i + j then P i * Q (k - i) else 0)) → wX_multiply__numerator_leftBottom_product_16 post J (nI i) f_tokenCount f_latestPlace f_stepCount f_waitingCount f_stackCount f_factorCount (d + 1) (nI j) a_tokenKind a_tokenContent a_stepKind a_stepToken a_waitingKind a_waitingToken a_present a_cells a_leftTop a_leftBottom a_rightTop a_rightBottom a_top a_bottom a_product a_quotient a_common a_spare a_rest a_divisor a_inverse a_numerator a_factorDegrees a_factorPowers a_factorCells := by
    intro J i hi hJ d
    induction d with
    | zero =>
      intro j a_product hj hx
      refine br_t ?_ (nm_r (nI_1 i) (hJ _ (xv_R1 hx (by omega))))
      rw [nI_add]; exact nI_le (a := 17) (by omega) (by omega)
    | succ d ih =>
      intro j a_product hj hx
      have e := pk_in (x := nI i + nI j) (i + j) 17 (by omega) (nI_add i j)
      refine br_f ?_ ⟨e, vp_in_nI (by omega) (by omega), vp_in_nI (by omega) (by omega), by decide, e, nm_e (nm_r (nI_1 j) (ih (j + 1) _ (by omega) ?_))⟩
      · rw [nI_add]; exact xl_17 (by omega)
      · rw [nI_add, nI_clamp (by omega), nI_clamp (by omega), nI_clamp (by omega), hA i hi, hB j (by omega)]
        exact xv_R2 hx (by omega)
  have outer : ∀ d i, ∀ a_product : Nat → Int32, i + d = 17 → xv a_product (pf_R P Q i) → wX_multiply__numerator_leftBottom_product_7 post f_tokenCount f_latestPlace f_stepCount f_waitingCount f_stackCount f_factorCount (d + 1) (nI i) a_tokenKind a_tokenContent a_stepKind a_stepToken a_waitingKind a_waitingToken a_present a_cells a_leftTop a_leftBottom a_rightTop a_rightBottom a_top a_bottom a_product a_quotient a_common a_spare a_rest a_divisor a_inverse a_numerator a_factorDegrees a_factorPowers a_factorCells := by
    intro d
    induction d with
    | zero =>
      intro i a_product hi hx
      obtain rfl : i = 17 := by omega
      exact br_t (by decide) (h _ (xv_e hx (fun k hk => pf_R17 P Q hk)))
    | succ d ih =>
      intro i a_product hi hx
      exact br_f (xl_17 (by omega)) ⟨17 - i + 1, inner _ i (by omega) (fun a_product hx => ih (i + 1) _ (by omega) hx) (17 - i) 0 _ (by omega) (xv_R0 hx)⟩
  unfold wpX_multiply__numerator_leftBottom_product
  exact xf_setNumber__product 0 (fun a_product hx => ⟨18, outer 17 0 _ rfl (xv_e hx (fun k _ => by rw [pf_c0]; rfl))⟩)
end
