/-! The class's leaves: they end, whatever the arrays hold (written by wip/p2/gen_x.py) -/
section
variable {f_tokenCount f_latestPlace f_stepCount f_waitingCount f_stackCount f_factorCount : Int32} {a_tokenKind a_tokenContent a_stepKind a_stepToken a_waitingKind a_waitingToken a_present a_cells a_leftTop a_leftBottom a_rightTop a_rightBottom a_top a_bottom a_product a_quotient a_common a_spare a_rest a_divisor a_inverse a_numerator a_factorDegrees a_factorPowers a_factorCells : Nat → Int32}
theorem xl_multiply__leftTop_rightBottom_top {post : SX → Prop} (h : ∀ a_top : Nat → Int32, post (f_tokenCount, f_latestPlace, f_stepCount, f_waitingCount, f_stackCount, f_factorCount, a_tokenKind, a_tokenContent, a_stepKind, a_stepToken, a_waitingKind, a_waitingToken, a_present, a_cells, a_leftTop, a_leftBottom, a_rightTop, a_rightBottom, a_top, a_bottom, a_product, a_quotient, a_common, a_spare, a_rest, a_divisor, a_inverse, a_numerator, a_factorDegrees, a_factorPowers, a_factorCells)) : wpX_multiply__leftTop_rightBottom_top post (f_tokenCount, f_latestPlace, f_stepCount, f_waitingCount, f_stackCount, f_factorCount, a_tokenKind, a_tokenContent, a_stepKind, a_stepToken, a_waitingKind, a_waitingToken, a_present, a_cells, a_leftTop, a_leftBottom, a_rightTop, a_rightBottom, a_top, a_bottom, a_product, a_quotient, a_common, a_spare, a_rest, a_divisor, a_inverse, a_numerator, a_factorDegrees, a_factorPowers, a_factorCells) := by
  have inner : ∀ (J : Int32 → (Nat → Int32) → (Nat → Int32) → (Nat → Int32) → (Nat → Int32) → (Nat → Int32) → (Nat → Int32) → (Nat → Int32) → (Nat → Int32) → (Nat → Int32) → (Nat → Int32) → (Nat → Int32) → (Nat → Int32) → (Nat → Int32) → (Nat → Int32) → (Nat → Int32) → (Nat → Int32) → (Nat → Int32) → (Nat → Int32) → (Nat → Int32) → (Nat → Int32) → (Nat → Int32) → (Nat → Int32) → (Nat → Int32) → (Nat → Int32) → (Nat → Int32) → Prop) (i : Nat), i < 17 → (∀ a_top : Nat → Int32, J (nI (i + 1)) a_tokenKind a_tokenContent a_stepKind a_stepToken a_waitingKind a_waitingToken a_present a_cells a_leftTop a_leftBottom a_rightTop a_rightBottom a_top a_bottom a_product a_quotient a_common a_spare a_rest a_divisor a_inverse a_numerator a_factorDegrees a_factorPowers a_factorCells) → ∀ d j, ∀ a_top : Nat → Int32, i + j + d = 17 → wX_multiply__leftTop_rightBottom_top_16 post J (nI i) f_tokenCount f_latestPlace f_stepCount f_waitingCount f_stackCount f_factorCount (d + 1) (nI j) a_tokenKind a_tokenContent a_stepKind a_stepToken a_waitingKind a_waitingToken a_present a_cells a_leftTop a_leftBottom a_rightTop a_rightBottom a_top a_bottom a_product a_quotient a_common a_spare a_rest a_divisor a_inverse a_numerator a_factorDegrees a_factorPowers a_factorCells := by
    intro J i hi hJ d
    induction d with
    | zero =>
      intro j a_top hj
      refine br_t ?_ (nm_r (nI_1 i) (hJ _))
      rw [nI_add]; exact nI_le (a := 17) (by omega) (by omega)
    | succ d ih =>
      intro j a_top hj
      have e := pk_in (x := nI i + nI j) (i + j) 17 (by omega) (nI_add i j)
      refine br_f ?_ ⟨e, vp_in_nI (by omega) (by omega), vp_in_nI (by omega) (by omega), by decide, e, nm_e (nm_r (nI_1 j) (ih (j + 1) _ (by omega)))⟩
      rw [nI_add]; exact xl_17 (by omega)
  have outer : ∀ d i, ∀ a_top : Nat → Int32, i + d = 17 → wX_multiply__leftTop_rightBottom_top_7 post f_tokenCount f_latestPlace f_stepCount f_waitingCount f_stackCount f_factorCount (d + 1) (nI i) a_tokenKind a_tokenContent a_stepKind a_stepToken a_waitingKind a_waitingToken a_present a_cells a_leftTop a_leftBottom a_rightTop a_rightBottom a_top a_bottom a_product a_quotient a_common a_spare a_rest a_divisor a_inverse a_numerator a_factorDegrees a_factorPowers a_factorCells := by
    intro d
    induction d with
    | zero =>
      intro i a_top hi
      obtain rfl : i = 17 := by omega
      exact br_t (by decide) (h _)
    | succ d ih =>
      intro i a_top hi
      exact br_f (xl_17 (by omega)) ⟨17 - i + 1, inner _ i (by omega) (fun a_top => ih (i + 1) _ (by omega)) (17 - i) 0 _ (by omega)⟩
  unfold wpX_multiply__leftTop_rightBottom_top
  exact xl_setNumber__top (fun a_top => ⟨18, outer 17 0 _ rfl⟩)
theorem xl_multiply__rightTop_leftBottom_product {post : SX → Prop} (h : ∀ a_product : Nat → Int32, post (f_tokenCount, f_latestPlace, f_stepCount, f_waitingCount, f_stackCount, f_factorCount, a_tokenKind, a_tokenContent, a_stepKind, a_stepToken, a_waitingKind, a_waitingToken, a_present, a_cells, a_leftTop, a_leftBottom, a_rightTop, a_rightBottom, a_top, a_bottom, a_product, a_quotient, a_common, a_spare, a_rest, a_divisor, a_inverse, a_numerator, a_factorDegrees, a_factorPowers, a_factorCells)) : wpX_multiply__rightTop_leftBottom_product post (f_tokenCount, f_latestPlace, f_stepCount, f_waitingCount, f_stackCount, f_factorCount, a_tokenKind, a_tokenContent, a_stepKind, a_stepToken, a_waitingKind, a_waitingToken, a_present, a_cells, a_leftTop, a_leftBottom, a_rightTop, a_rightBottom, a_top, a_bottom, a_product, a_quotient, a_common, a_spare, a_rest, a_divisor, a_inverse, a_numerator, a_factorDegrees, a_factorPowers, a_factorCells) := by
  have inner : ∀ (J : Int32 → (Nat → Int32) → (Nat → Int32) → (Nat → Int32) → (Nat → Int32) → (Nat → Int32) → (Nat → Int32) → (Nat → Int32) → (Nat → Int32) → (Nat → Int32) → (Nat → Int32) → (Nat → Int32) → (Nat → Int32) → (Nat → Int32) → (Nat → Int32) → (Nat → Int32) → (Nat → Int32) → (Nat → Int32) → (Nat → Int32) → (Nat → Int32) → (Nat → Int32) → (Nat → Int32) → (Nat → Int32) → (Nat → Int32) → (Nat → Int32) → (Nat → Int32) → Prop) (i : Nat), i < 17 → (∀ a_product : Nat → Int32, J (nI (i + 1)) a_tokenKind a_tokenContent a_stepKind a_stepToken a_waitingKind a_waitingToken a_present a_cells a_leftTop a_leftBottom a_rightTop a_rightBottom a_top a_bottom a_product a_quotient a_common a_spare a_rest a_divisor a_inverse a_numerator a_factorDegrees a_factorPowers a_factorCells) → ∀ d j, ∀ a_product : Nat → Int32, i + j + d = 17 → wX_multiply__rightTop_leftBottom_product_16 post J (nI i) f_tokenCount f_latestPlace f_stepCount f_waitingCount f_stackCount f_factorCount (d + 1) (nI j) a_tokenKind a_tokenContent a_stepKind a_stepToken a_waitingKind a_waitingToken a_present a_cells a_leftTop a_leftBottom a_rightTop a_rightBottom a_top a_bottom a_product a_quotient a_common a_spare a_rest a_divisor a_inverse a_numerator a_factorDegrees a_factorPowers a_factorCells := by
    intro J i hi hJ d
    induction d with
    | zero =>
      intro j a_product hj
      refine br_t ?_ (nm_r (nI_1 i) (hJ _))
      rw [nI_add]; exact nI_le (a := 17) (by omega) (by omega)
    | succ d ih =>
      intro j a_product hj
      have e := pk_in (x := nI i + nI j) (i + j) 17 (by omega) (nI_add i j)
      refine br_f ?_ ⟨e, vp_in_nI (by omega) (by omega), vp_in_nI (by omega) (by omega), by decide, e, nm_e (nm_r (nI_1 j) (ih (j + 1) _ (by omega)))⟩
      rw [nI_add]; exact xl_17 (by omega)
  have outer : ∀ d i, ∀ a_product : Nat → Int32, i + d = 17 → wX_multiply__rightTop_leftBottom_product_7 post f_tokenCount f_latestPlace f_stepCount f_waitingCount f_stackCount f_factorCount (d + 1) (nI i) a_tokenKind a_tokenContent a_stepKind a_stepToken a_waitingKind a_waitingToken a_present a_cells a_leftTop a_leftBottom a_rightTop a_rightBottom a_top a_bottom a_product a_quotient a_common a_spare a_rest a_divisor a_inverse a_numerator a_factorDegrees a_factorPowers a_factorCells := by
    intro d
    induction d with
    | zero =>
      intro i a_product hi
      obtain rfl : i = 17 := by omega
      exact br_t (by decide) (h _)
    | succ d ih =>
      intro i a_product hi
      exact br_f (xl_17 (by omega)) ⟨17 - i + 1, inner _ i (by omega) (fun a_product => ih (i + 1) _ (by omega)) (17 - i) 0 _ (by omega)⟩
  unfold wpX_multiply__rightTop_leftBottom_product
  exact xl_setNumber__product (fun a_product => ⟨18, outer 17 0 _ rfl⟩)
theorem xl_multiply__leftBottom_rightBottom_bottom {post : SX → Prop} (h : ∀ a_bottom : Nat → Int32, post (f_tokenCount, f_latestPlace, f_stepCount, f_waitingCount, f_stackCount, f_factorCount, a_tokenKind, a_tokenContent, a_stepKind, a_stepToken, a_waitingKind, a_waitingToken, a_present, a_cells, a_leftTop, a_leftBottom, a_rightTop, a_rightBottom, a_top, a_bottom, a_product, a_quotient, a_common, a_spare, a_rest, a_divisor, a_inverse, a_numerator, a_factorDegrees, a_factorPowers, a_factorCells)) : wpX_multiply__leftBottom_rightBottom_bottom post (f_tokenCount, f_latestPlace, f_stepCount, f_waitingCount, f_stackCount, f_factorCount, a_tokenKind, a_tokenContent, a_stepKind, a_stepToken, a_waitingKind, a_waitingToken, a_present, a_cells, a_leftTop, a_leftBottom, a_rightTop, a_rightBottom, a_top, a_bottom, a_product, a_quotient, a_common, a_spare, a_rest, a_divisor, a_inverse, a_numerator, a_factorDegrees, a_factorPowers, a_factorCells) := by
  have inner : ∀ (J : Int32 → (Nat → Int32) → (Nat → Int32) → (Nat → Int32) → (Nat → Int32) → (Nat → Int32) → (Nat → Int32) → (Nat → Int32) → (Nat → Int32) → (Nat → Int32) → (Nat → Int32) → (Nat → Int32) → (Nat → Int32) → (Nat → Int32) → (Nat → Int32) → (Nat → Int32) → (Nat → Int32) → (Nat → Int32) → (Nat → Int32) → (Nat → Int32) → (Nat → Int32) → (Nat → Int32) → (Nat → Int32) → (Nat → Int32) → (Nat → Int32) → (Nat → Int32) → Prop) (i : Nat), i < 17 → (∀ a_bottom : Nat → Int32, J (nI (i + 1)) a_tokenKind a_tokenContent a_stepKind a_stepToken a_waitingKind a_waitingToken a_present a_cells a_leftTop a_leftBottom a_rightTop a_rightBottom a_top a_bottom a_product a_quotient a_common a_spare a_rest a_divisor a_inverse a_numerator a_factorDegrees a_factorPowers a_factorCells) → ∀ d j, ∀ a_bottom : Nat → Int32, i + j + d = 17 → wX_multiply__leftBottom_rightBottom_bottom_16 post J (nI i) f_tokenCount f_latestPlace f_stepCount f_waitingCount f_stackCount f_factorCount (d + 1) (nI j) a_tokenKind a_tokenContent a_stepKind a_stepToken a_waitingKind a_waitingToken a_present a_cells a_leftTop a_leftBottom a_rightTop a_rightBottom a_top a_bottom a_product a_quotient a_common a_spare a_rest a_divisor a_inverse a_numerator a_factorDegrees a_factorPowers a_factorCells := by
    intro J i hi hJ d
    induction d with
    | zero =>
      intro j a_bottom hj
      refine br_t ?_ (nm_r (nI_1 i) (hJ _))
      rw [nI_add]; exact nI_le (a := 17) (by omega) (by omega)
    | succ d ih =>
      intro j a_bottom hj
      have e := pk_in (x := nI i + nI j) (i + j) 17 (by omega) (nI_add i j)
      refine br_f ?_ ⟨e, vp_in_nI (by omega) (by omega), vp_in_nI (by omega) (by omega), by decide, e, nm_e (nm_r (nI_1 j) (ih (j + 1) _ (by omega)))⟩
      rw [nI_add]; exact xl_17 (by omega)
  have outer : ∀ d i, ∀ a_bottom : Nat → Int32, i + d = 17 → wX_multiply__leftBottom_rightBottom_bottom_7 post f_tokenCount f_latestPlace f_stepCount f_waitingCount f_stackCount f_factorCount (d + 1) (nI i) a_tokenKind a_tokenContent a_stepKind a_stepToken a_waitingKind a_waitingToken a_present a_cells a_leftTop a_leftBottom a_rightTop a_rightBottom a_top a_bottom a_product a_quotient a_common a_spare a_rest a_divisor a_inverse a_numerator a_factorDegrees a_factorPowers a_factorCells := by
    intro d
    induction d with
    | zero =>
      intro i a_bottom hi
      obtain rfl : i = 17 := by omega
      exact br_t (by decide) (h _)
    | succ d ih =>
      intro i a_bottom hi
      exact br_f (xl_17 (by omega)) ⟨17 - i + 1, inner _ i (by omega) (fun a_bottom => ih (i + 1) _ (by omega)) (17 - i) 0 _ (by omega)⟩
  unfold wpX_multiply__leftBottom_rightBottom_bottom
  exact xl_setNumber__bottom (fun a_bottom => ⟨18, outer 17 0 _ rfl⟩)
theorem xl_multiply__leftTop_rightTop_top {post : SX → Prop} (h : ∀ a_top : Nat → Int32, post (f_tokenCount, f_latestPlace, f_stepCount, f_waitingCount, f_stackCount, f_factorCount, a_tokenKind, a_tokenContent, a_stepKind, a_stepToken, a_waitingKind, a_waitingToken, a_present, a_cells, a_leftTop, a_leftBottom, a_rightTop, a_rightBottom, a_top, a_bottom, a_product, a_quotient, a_common, a_spare, a_rest, a_divisor, a_inverse, a_numerator, a_factorDegrees, a_factorPowers, a_factorCells)) : wpX_multiply__leftTop_rightTop_top post (f_tokenCount, f_latestPlace, f_stepCount, f_waitingCount, f_stackCount, f_factorCount, a_tokenKind, a_tokenContent, a_stepKind, a_stepToken, a_waitingKind, a_waitingToken, a_present, a_cells, a_leftTop, a_leftBottom, a_rightTop, a_rightBottom, a_top, a_bottom, a_product, a_quotient, a_common, a_spare, a_rest, a_divisor, a_inverse, a_numerator, a_factorDegrees, a_factorPowers, a_factorCells) := by
  have inner : ∀ (J : Int32 → (Nat → Int32) → (Nat → Int32) → (Nat → Int32) → (Nat → Int32) → (Nat → Int32) → (Nat → Int32) → (Nat → Int32) → (Nat → Int32) → (Nat → Int32) → (Nat → Int32) → (Nat → Int32) → (Nat → Int32) → (Nat → Int32) → (Nat → Int32) → (Nat → Int32) → (Nat → Int32) → (Nat → Int32) → (Nat → Int32) → (Nat → Int32) → (Nat → Int32) → (Nat → Int32) → (Nat → Int32) → (Nat → Int32) → (Nat → Int32) → (Nat → Int32) → Prop) (i : Nat), i < 17 → (∀ a_top : Nat → Int32, J (nI (i + 1)) a_tokenKind a_tokenContent a_stepKind a_stepToken a_waitingKind a_waitingToken a_present a_cells a_leftTop a_leftBottom a_rightTop a_rightBottom a_top a_bottom a_product a_quotient a_common a_spare a_rest a_divisor a_inverse a_numerator a_factorDegrees a_factorPowers a_factorCells) → ∀ d j, ∀ a_top : Nat → Int32, i + j + d = 17 → wX_multiply__leftTop_rightTop_top_16 post J (nI i) f_tokenCount f_latestPlace f_stepCount f_waitingCount f_stackCount f_factorCount (d + 1) (nI j) a_tokenKind a_tokenContent a_stepKind a_stepToken a_waitingKind a_waitingToken a_present a_cells a_leftTop a_leftBottom a_rightTop a_rightBottom a_top a_bottom a_product a_quotient a_common a_spare a_rest a_divisor a_inverse a_numerator a_factorDegrees a_factorPowers a_factorCells := by
    intro J i hi hJ d
    induction d with
    | zero =>
      intro j a_top hj
      refine br_t ?_ (nm_r (nI_1 i) (hJ _))
      rw [nI_add]; exact nI_le (a := 17) (by omega) (by omega)
    | succ d ih =>
      intro j a_top hj
      have e := pk_in (x := nI i + nI j) (i + j) 17 (by omega) (nI_add i j)
      refine br_f ?_ ⟨e, vp_in_nI (by omega) (by omega), vp_in_nI (by omega) (by omega), by decide, e, nm_e (nm_r (nI_1 j) (ih (j + 1) _ (by omega)))⟩
      rw [nI_add]; exact xl_17 (by omega)
  have outer : ∀ d i, ∀ a_top : Nat → Int32, i + d = 17 → wX_multiply__leftTop_rightTop_top_7 post f_tokenCount f_latestPlace f_stepCount f_waitingCount f_stackCount f_factorCount (d + 1) (nI i) a_tokenKind a_tokenContent a_stepKind a_stepToken a_waitingKind a_waitingToken a_present a_cells a_leftTop a_leftBottom a_rightTop a_rightBottom a_top a_bottom a_product a_quotient a_common a_spare a_rest a_divisor a_inverse a_numerator a_factorDegrees a_factorPowers a_factorCells := by
    intro d
    induction d with
    | zero =>
      intro i a_top hi
      obtain rfl : i = 17 := by omega
      exact br_t (by decide) (h _)
    | succ d ih =>
      intro i a_top hi
      exact br_f (xl_17 (by omega)) ⟨17 - i + 1, inner _ i (by omega) (fun a_top => ih (i + 1) _ (by omega)) (17 - i) 0 _ (by omega)⟩
  unfold wpX_multiply__leftTop_rightTop_top
  exact xl_setNumber__top (fun a_top => ⟨18, outer 17 0 _ rfl⟩)
theorem xl_multiply__leftBottom_rightTop_bottom {post : SX → Prop} (h : ∀ a_bottom : Nat → Int32, post (f_tokenCount, f_latestPlace, f_stepCount, f_waitingCount, f_stackCount, f_factorCount, a_tokenKind, a_tokenContent, a_stepKind, a_stepToken, a_waitingKind, a_waitingToken, a_present, a_cells, a_leftTop, a_leftBottom, a_rightTop, a_rightBottom, a_top, a_bottom, a_product, a_quotient, a_common, a_spare, a_rest, a_divisor, a_inverse, a_numerator, a_factorDegrees, a_factorPowers, a_factorCells)) : wpX_multiply__leftBottom_rightTop_bottom post (f_tokenCount, f_latestPlace, f_stepCount, f_waitingCount, f_stackCount, f_factorCount, a_tokenKind, a_tokenContent, a_stepKind, a_stepToken, a_waitingKind, a_waitingToken, a_present, a_cells, a_leftTop, a_leftBottom, a_rightTop, a_rightBottom, a_top, a_bottom, a_product, a_quotient, a_common, a_spare, a_rest, a_divisor, a_inverse, a_numerator, a_factorDegrees, a_factorPowers, a_factorCells) := by
  have inner : ∀ (J : Int32 → (Nat → Int32) → (Nat → Int32) → (Nat → Int32) → (Nat → Int32) → (Nat → Int32) → (Nat → Int32) → (Nat → Int32) → (Nat → Int32) → (Nat → Int32) → (Nat → Int32) → (Nat → Int32) → (Nat → Int32) → (Nat → Int32) → (Nat → Int32) → (Nat → Int32) → (Nat → Int32) → (Nat → Int32) → (Nat → Int32) → (Nat → Int32) → (Nat → Int32) → (Nat → Int32) → (Nat → Int32) → (Nat → Int32) → (Nat → Int32) → (Nat → Int32) → Prop) (i : Nat), i < 17 → (∀ a_bottom : Nat → Int32, J (nI (i + 1)) a_tokenKind a_tokenContent a_stepKind a_stepToken a_waitingKind a_waitingToken a_present a_cells a_leftTop a_leftBottom a_rightTop a_rightBottom a_top a_bottom a_product a_quotient a_common a_spare a_rest a_divisor a_inverse a_numerator a_factorDegrees a_factorPowers a_factorCells) → ∀ d j, ∀ a_bottom : Nat → Int32, i + j + d = 17 → wX_multiply__leftBottom_rightTop_bottom_16 post J (nI i) f_tokenCount f_latestPlace f_stepCount f_waitingCount f_stackCount f_factorCount (d + 1) (nI j) a_tokenKind a_tokenContent a_stepKind a_stepToken a_waitingKind a_waitingToken a_present a_cells a_leftTop a_leftBottom a_rightTop a_rightBottom a_top a_bottom a_product a_quotient a_common a_spare a_rest a_divisor a_inverse a_numerator a_factorDegrees a_factorPowers a_factorCells := by
    intro J i hi hJ d
    induction d with
    | zero =>
      intro j a_bottom hj
      refine br_t ?_ (nm_r (nI_1 i) (hJ _))
      rw [nI_add]; exact nI_le (a := 17) (by omega) (by omega)
    | succ d ih =>
      intro j a_bottom hj
      have e := pk_in (x := nI i + nI j) (i + j) 17 (by omega) (nI_add i j)
      refine br_f ?_ ⟨e, vp_in_nI (by omega) (by omega), vp_in_nI (by omega) (by omega), by decide, e, nm_e (nm_r (nI_1 j) (ih (j + 1) _ (by omega)))⟩
      rw [nI_add]; exact xl_17 (by omega)
  have outer : ∀ d i, ∀ a_bottom : Nat → Int32, i + d = 17 → wX_multiply__leftBottom_rightTop_bottom_7 post f_tokenCount f_latestPlace f_stepCount f_waitingCount f_stackCount f_factorCount (d + 1) (nI i) a_tokenKind a_tokenContent a_stepKind a_stepToken a_waitingKind a_waitingToken a_present a_cells a_leftTop a_leftBottom a_rightTop a_rightBottom a_top a_bottom a_product a_quotient a_common a_spare a_rest a_divisor a_inverse a_numerator a_factorDegrees a_factorPowers a_factorCells := by
    intro d
    induction d with
    | zero =>
      intro i a_bottom hi
      obtain rfl : i = 17 := by omega
      exact br_t (by decide) (h _)
    | succ d ih =>
      intro i a_bottom hi
      exact br_f (xl_17 (by omega)) ⟨17 - i + 1, inner _ i (by omega) (fun a_bottom => ih (i + 1) _ (by omega)) (17 - i) 0 _ (by omega)⟩
  unfold wpX_multiply__leftBottom_rightTop_bottom
  exact xl_setNumber__bottom (fun a_bottom => ⟨18, outer 17 0 _ rfl⟩)
theorem xl_multiply__top_leftTop_product {post : SX → Prop} (h : ∀ a_product : Nat → Int32, post (f_tokenCount, f_latestPlace, f_stepCount, f_waitingCount, f_stackCount, f_factorCount, a_tokenKind, a_tokenContent, a_stepKind, a_stepToken, a_waitingKind, a_waitingToken, a_present, a_cells, a_leftTop, a_leftBottom, a_rightTop, a_rightBottom, a_top, a_bottom, a_product, a_quotient, a_common, a_spare, a_rest, a_divisor, a_inverse, a_numerator, a_factorDegrees, a_factorPowers, a_factorCells)) : wpX_multiply__top_leftTop_product post (f_tokenCount, f_latestPlace, f_stepCount, f_waitingCount, f_stackCount, f_factorCount, a_tokenKind, a_tokenContent, a_stepKind, a_stepToken, a_waitingKind, a_waitingToken, a_present, a_cells, a_leftTop, a_leftBottom, a_rightTop, a_rightBottom, a_top, a_bottom, a_product, a_quotient, a_common, a_spare, a_rest, a_divisor, a_inverse, a_numerator, a_factorDegrees, a_factorPowers, a_factorCells) := by
  have inner : ∀ (J : Int32 → (Nat → Int32) → (Nat → Int32) → (Nat → Int32) → (Nat → Int32) → (Nat → Int32) → (Nat → Int32) → (Nat → Int32) → (Nat → Int32) → (Nat → Int32) → (Nat → Int32) → (Nat → Int32) → (Nat → Int32) → (Nat → Int32) → (Nat → Int32) → (Nat → Int32) → (Nat → Int32) → (Nat → Int32) → (Nat → Int32) → (Nat → Int32) → (Nat → Int32) → (Nat → Int32) → (Nat → Int32) → (Nat → Int32) → (Nat → Int32) → (Nat → Int32) → Prop) (i : Nat), i < 17 → (∀ a_product : Nat → Int32, J (nI (i + 1)) a_tokenKind a_tokenContent a_stepKind a_stepToken a_waitingKind a_waitingToken a_present a_cells a_leftTop a_leftBottom a_rightTop a_rightBottom a_top a_bottom a_product a_quotient a_common a_spare a_rest a_divisor a_inverse a_numerator a_factorDegrees a_factorPowers a_factorCells) → ∀ d j, ∀ a_product : Nat → Int32, i + j + d = 17 → wX_multiply__top_leftTop_product_16 post J (nI i) f_tokenCount f_latestPlace f_stepCount f_waitingCount f_stackCount f_factorCount (d + 1) (nI j) a_tokenKind a_tokenContent a_stepKind a_stepToken a_waitingKind a_waitingToken a_present a_cells a_leftTop a_leftBottom a_rightTop a_rightBottom a_top a_bottom a_product a_quotient a_common a_spare a_rest a_divisor a_inverse a_numerator a_factorDegrees a_factorPowers a_factorCells := by
    intro J i hi hJ d
    induction d with
    | zero =>
      intro j a_product hj
      refine br_t ?_ (nm_r (nI_1 i) (hJ _))
      rw [nI_add]; exact nI_le (a := 17) (by omega) (by omega)
    | succ d ih =>
      intro j a_product hj
      have e := pk_in (x := nI i + nI j) (i + j) 17 (by omega) (nI_add i j)
      refine br_f ?_ ⟨e, vp_in_nI (by omega) (by omega), vp_in_nI (by omega) (by omega), by decide, e, nm_e (nm_r (nI_1 j) (ih (j + 1) _ (by omega)))⟩
      rw [nI_add]; exact xl_17 (by omega)
  have outer : ∀ d i, ∀ a_product : Nat → Int32, i + d = 17 → wX_multiply__top_leftTop_product_7 post f_tokenCount f_latestPlace f_stepCount f_waitingCount f_stackCount f_factorCount (d + 1) (nI i) a_tokenKind a_tokenContent a_stepKind a_stepToken a_waitingKind a_waitingToken a_present a_cells a_leftTop a_leftBottom a_rightTop a_rightBottom a_top a_bottom a_product a_quotient a_common a_spare a_rest a_divisor a_inverse a_numerator a_factorDegrees a_factorPowers a_factorCells := by
    intro d
    induction d with
    | zero =>
      intro i a_product hi
      obtain rfl : i = 17 := by omega
      exact br_t (by decide) (h _)
    | succ d ih =>
      intro i a_product hi
      exact br_f (xl_17 (by omega)) ⟨17 - i + 1, inner _ i (by omega) (fun a_product => ih (i + 1) _ (by omega)) (17 - i) 0 _ (by omega)⟩
  unfold wpX_multiply__top_leftTop_product
  exact xl_setNumber__product (fun a_product => ⟨18, outer 17 0 _ rfl⟩)
theorem xl_multiply__bottom_leftBottom_product {post : SX → Prop} (h : ∀ a_product : Nat → Int32, post (f_tokenCount, f_latestPlace, f_stepCount, f_waitingCount, f_stackCount, f_factorCount, a_tokenKind, a_tokenContent, a_stepKind, a_stepToken, a_waitingKind, a_waitingToken, a_present, a_cells, a_leftTop, a_leftBottom, a_rightTop, a_rightBottom, a_top, a_bottom, a_product, a_quotient, a_common, a_spare, a_rest, a_divisor, a_inverse, a_numerator, a_factorDegrees, a_factorPowers, a_factorCells)) : wpX_multiply__bottom_leftBottom_product post (f_tokenCount, f_latestPlace, f_stepCount, f_waitingCount, f_stackCount, f_factorCount, a_tokenKind, a_tokenContent, a_stepKind, a_stepToken, a_waitingKind, a_waitingToken, a_present, a_cells, a_leftTop, a_leftBottom, a_rightTop, a_rightBottom, a_top, a_bottom, a_product, a_quotient, a_common, a_spare, a_rest, a_divisor, a_inverse, a_numerator, a_factorDegrees, a_factorPowers, a_factorCells) := by
  have inner : ∀ (J : Int32 → (Nat → Int32) → (Nat → Int32) → (Nat → Int32) → (Nat → Int32) → (Nat → Int32) → (Nat → Int32) → (Nat → Int32) → (Nat → Int32) → (Nat → Int32) → (Nat → Int32) → (Nat → Int32) → (Nat → Int32) → (Nat → Int32) → (Nat → Int32) → (Nat → Int32) → (Nat → Int32) → (Nat → Int32) → (Nat → Int32) → (Nat → Int32) → (Nat → Int32) → (Nat → Int32) → (Nat → Int32) → (Nat → Int32) → (Nat → Int32) → (Nat → Int32) → Prop) (i : Nat), i < 17 → (∀ a_product : Nat → Int32, J (nI (i + 1)) a_tokenKind a_tokenContent a_stepKind a_stepToken a_waitingKind a_waitingToken a_present a_cells a_leftTop a_leftBottom a_rightTop a_rightBottom a_top a_bottom a_product a_quotient a_common a_spare a_rest a_divisor a_inverse a_numerator a_factorDegrees a_factorPowers a_factorCells) → ∀ d j, ∀ a_product : Nat → Int32, i + j + d = 17 → wX_multiply__bottom_leftBottom_product_16 post J (nI i) f_tokenCount f_latestPlace f_stepCount f_waitingCount f_stackCount f_factorCount (d + 1) (nI j) a_tokenKind a_tokenContent a_stepKind a_stepToken a_waitingKind a_waitingToken a_present a_cells a_leftTop a_leftBottom a_rightTop a_rightBottom a_top a_bottom a_product a_quotient a_common a_spare a_rest a_divisor a_inverse a_numerator a_factorDegrees a_factorPowers a_factorCells := by
    intro J i hi hJ d
    induction d with
    | zero =>
      intro j a_product hj
      refine br_t ?_ (nm_r (nI_1 i) (hJ _))
      rw [nI_add]; exact nI_le (a := 17) (by omega) (by omega)
    | succ d ih =>
      intro j a_product hj
      have e := pk_in (x := nI i + nI j) (i + j) 17 (by omega) (nI_add i j)
      refine br_f ?_ ⟨e, vp_in_nI (by omega) (by omega), vp_in_nI (by omega) (by omega), by decide, e, nm_e (nm_r (nI_1 j) (ih (j + 1) _ (by omega)))⟩
      rw [nI_add]; exact xl_17 (by omega)
  have outer : ∀ d i, ∀ a_product : Nat → Int32, i + d = 17 → wX_multiply__bottom_leftBottom_product_7 post f_tokenCount f_latestPlace f_stepCount f_waitingCount f_stackCount f_factorCount (d + 1) (nI i) a_tokenKind a_tokenContent a_stepKind a_stepToken a_waitingKind a_waitingToken a_present a_cells a_leftTop a_leftBottom a_rightTop a_rightBottom a_top a_bottom a_product a_quotient a_common a_spare a_rest a_divisor a_inverse a_numerator a_factorDegrees a_factorPowers a_factorCells := by
    intro d
    induction d with
    | zero =>
      intro i a_product hi
      obtain rfl : i = 17 := by omega
      exact br_t (by decide) (h _)
    | succ d ih =>
      intro i a_product hi
      exact br_f (xl_17 (by omega)) ⟨17 - i + 1, inner _ i (by omega) (fun a_product => ih (i + 1) _ (by omega)) (17 - i) 0 _ (by omega)⟩
  unfold wpX_multiply__bottom_leftBottom_product
  exact xl_setNumber__product (fun a_product => ⟨18, outer 17 0 _ rfl⟩)
theorem xl_multiply__spare_leftBottom_top {post : SX → Prop} (h : ∀ a_top : Nat → Int32, post (f_tokenCount, f_latestPlace, f_stepCount, f_waitingCount, f_stackCount, f_factorCount, a_tokenKind, a_tokenContent, a_stepKind, a_stepToken, a_waitingKind, a_waitingToken, a_present, a_cells, a_leftTop, a_leftBottom, a_rightTop, a_rightBottom, a_top, a_bottom, a_product, a_quotient, a_common, a_spare, a_rest, a_divisor, a_inverse, a_numerator, a_factorDegrees, a_factorPowers, a_factorCells)) : wpX_multiply__spare_leftBottom_top post (f_tokenCount, f_latestPlace, f_stepCount, f_waitingCount, f_stackCount, f_factorCount, a_tokenKind, a_tokenContent, a_stepKind, a_stepToken, a_waitingKind, a_waitingToken, a_present, a_cells, a_leftTop, a_leftBottom, a_rightTop, a_rightBottom, a_top, a_bottom, a_product, a_quotient, a_common, a_spare, a_rest, a_divisor, a_inverse, a_numerator, a_factorDegrees, a_factorPowers, a_factorCells) := by
  have inner : ∀ (J : Int32 → (Nat → Int32) → (Nat → Int32) → (Nat → Int32) → (Nat → Int32) → (Nat → Int32) → (Nat → Int32) → (Nat → Int32) → (Nat → Int32) → (Nat → Int32) → (Nat → Int32) → (Nat → Int32) → (Nat → Int32) → (Nat → Int32) → (Nat → Int32) → (Nat → Int32) → (Nat → Int32) → (Nat → Int32) → (Nat → Int32) → (Nat → Int32) → (Nat → Int32) → (Nat → Int32) → (Nat → Int32) → (Nat → Int32) → (Nat → Int32) → (Nat → Int32) → Prop) (i : Nat), i < 17 → (∀ a_top : Nat → Int32, J (nI (i + 1)) a_tokenKind a_tokenContent a_stepKind a_stepToken a_waitingKind a_waitingToken a_present a_cells a_leftTop a_leftBottom a_rightTop a_rightBottom a_top a_bottom a_product a_quotient a_common a_spare a_rest a_divisor a_inverse a_numerator a_factorDegrees a_factorPowers a_factorCells) → ∀ d j, ∀ a_top : Nat → Int32, i + j + d = 17 → wX_multiply__spare_leftBottom_top_16 post J (nI i) f_tokenCount f_latestPlace f_stepCount f_waitingCount f_stackCount f_factorCount (d + 1) (nI j) a_tokenKind a_tokenContent a_stepKind a_stepToken a_waitingKind a_waitingToken a_present a_cells a_leftTop a_leftBottom a_rightTop a_rightBottom a_top a_bottom a_product a_quotient a_common a_spare a_rest a_divisor a_inverse a_numerator a_factorDegrees a_factorPowers a_factorCells := by
    intro J i hi hJ d
    induction d with
    | zero =>
      intro j a_top hj
      refine br_t ?_ (nm_r (nI_1 i) (hJ _))
      rw [nI_add]; exact nI_le (a := 17) (by omega) (by omega)
    | succ d ih =>
      intro j a_top hj
      have e := pk_in (x := nI i + nI j) (i + j) 17 (by omega) (nI_add i j)
      refine br_f ?_ ⟨e, vp_in_nI (by omega) (by omega), vp_in_nI (by omega) (by omega), by decide, e, nm_e (nm_r (nI_1 j) (ih (j + 1) _ (by omega)))⟩
      rw [nI_add]; exact xl_17 (by omega)
  have outer : ∀ d i, ∀ a_top : Nat → Int32, i + d = 17 → wX_multiply__spare_leftBottom_top_7 post f_tokenCount f_latestPlace f_stepCount f_waitingCount f_stackCount f_factorCount (d + 1) (nI i) a_tokenKind a_tokenContent a_stepKind a_stepToken a_waitingKind a_waitingToken a_present a_cells a_leftTop a_leftBottom a_rightTop a_rightBottom a_top a_bottom a_product a_quotient a_common a_spare a_rest a_divisor a_inverse a_numerator a_factorDegrees a_factorPowers a_factorCells := by
    intro d
    induction d with
    | zero =>
      intro i a_top hi
      obtain rfl : i = 17 := by omega
      exact br_t (by decide) (h _)
    | succ d ih =>
      intro i a_top hi
      exact br_f (xl_17 (by omega)) ⟨17 - i + 1, inner _ i (by omega) (fun a_top => ih (i + 1) _ (by omega)) (17 - i) 0 _ (by omega)⟩
  unfold wpX_multiply__spare_leftBottom_top
  exact xl_setNumber__top (fun a_top => ⟨18, outer 17 0 _ rfl⟩)
theorem xl_multiply__spare_leftTop_product {post : SX → Prop} (h : ∀ a_product : Nat → Int32, post (f_tokenCount, f_latestPlace, f_stepCount, f_waitingCount, f_stackCount, f_factorCount, a_tokenKind, a_tokenContent, a_stepKind, a_stepToken, a_waitingKind, a_waitingToken, a_present, a_cells, a_leftTop, a_leftBottom, a_rightTop, a_rightBottom, a_top, a_bottom, a_product, a_quotient, a_common, a_spare, a_rest, a_divisor, a_inverse, a_numerator, a_factorDegrees, a_factorPowers, a_factorCells)) : wpX_multiply__spare_leftTop_product post (f_tokenCount, f_latestPlace, f_stepCount, f_waitingCount, f_stackCount, f_factorCount, a_tokenKind, a_tokenContent, a_stepKind, a_stepToken, a_waitingKind, a_waitingToken, a_present, a_cells, a_leftTop, a_leftBottom, a_rightTop, a_rightBottom, a_top, a_bottom, a_product, a_quotient, a_common, a_spare, a_rest, a_divisor, a_inverse, a_numerator, a_factorDegrees, a_factorPowers, a_factorCells) := by
  have inner : ∀ (J : Int32 → (Nat → Int32) → (Nat → Int32) → (Nat → Int32) → (Nat → Int32) → (Nat → Int32) → (Nat → Int32) → (Nat → Int32) → (Nat → Int32) → (Nat → Int32) → (Nat → Int32) → (Nat → Int32) → (Nat → Int32) → (Nat → Int32) → (Nat → Int32) → (Nat → Int32) → (Nat → Int32) → (Nat → Int32) → (Nat → Int32) → (Nat → Int32) → (Nat → Int32) → (Nat → Int32) → (Nat → Int32) → (Nat → Int32) → (Nat → Int32) → (Nat → Int32) → Prop) (i : Nat), i < 17 → (∀ a_product : Nat → Int32, J (nI (i + 1)) a_tokenKind a_tokenContent a_stepKind a_stepToken a_waitingKind a_waitingToken a_present a_cells a_leftTop a_leftBottom a_rightTop a_rightBottom a_top a_bottom a_product a_quotient a_common a_spare a_rest a_divisor a_inverse a_numerator a_factorDegrees a_factorPowers a_factorCells) → ∀ d j, ∀ a_product : Nat → Int32, i + j + d = 17 → wX_multiply__spare_leftTop_product_16 post J (nI i) f_tokenCount f_latestPlace f_stepCount f_waitingCount f_stackCount f_factorCount (d + 1) (nI j) a_tokenKind a_tokenContent a_stepKind a_stepToken a_waitingKind a_waitingToken a_present a_cells a_leftTop a_leftBottom a_rightTop a_rightBottom a_top a_bottom a_product a_quotient a_common a_spare a_rest a_divisor a_inverse a_numerator a_factorDegrees a_factorPowers a_factorCells := by
    intro J i hi hJ d
    induction d with
    | zero =>
      intro j a_product hj
      refine br_t ?_ (nm_r (nI_1 i) (hJ _))
      rw [nI_add]; exact nI_le (a := 17) (by omega) (by omega)
    | succ d ih =>
      intro j a_product hj
      have e := pk_in (x := nI i + nI j) (i + j) 17 (by omega) (nI_add i j)
      refine br_f ?_ ⟨e, vp_in_nI (by omega) (by omega), vp_in_nI (by omega) (by omega), by decide, e, nm_e (nm_r (nI_1 j) (ih (j + 1) _ (by omega)))⟩
      rw [nI_add]; exact xl_17 (by omega)
  have outer : ∀ d i, ∀ a_product : Nat → Int32, i + d = 17 → wX_multiply__spare_leftTop_product_7 post f_tokenCount f_latestPlace f_stepCount f_waitingCount f_stackCount f_factorCount (d + 1) (nI i) a_tokenKind a_tokenContent a_stepKind a_stepToken a_waitingKind a_waitingToken a_present a_cells a_leftTop a_leftBottom a_rightTop a_rightBottom a_top a_bottom a_product a_quotient a_common a_spare a_rest a_divisor a_inverse a_numerator a_factorDegrees a_factorPowers a_factorCells := by
    intro d
    induction d with
    | zero =>
      intro i a_product hi
      obtain rfl : i = 17 := by omega
      exact br_t (by decide) (h _)
    | succ d ih =>
      intro i a_product hi
      exact br_f (xl_17 (by omega)) ⟨17 - i + 1, inner _ i (by omega) (fun a_product => ih (i + 1) _ (by omega)) (17 - i) 0 _ (by omega)⟩
  unfold wpX_multiply__spare_leftTop_product
  exact xl_setNumber__product (fun a_product => ⟨18, outer 17 0 _ rfl⟩)
theorem xl_multiply__leftBottom_leftBottom_bottom {post : SX → Prop} (h : ∀ a_bottom : Nat → Int32, post (f_tokenCount, f_latestPlace, f_stepCount, f_waitingCount, f_stackCount, f_factorCount, a_tokenKind, a_tokenContent, a_stepKind, a_stepToken, a_waitingKind, a_waitingToken, a_present, a_cells, a_leftTop, a_leftBottom, a_rightTop, a_rightBottom, a_top, a_bottom, a_product, a_quotient, a_common, a_spare, a_rest, a_divisor, a_inverse, a_numerator, a_factorDegrees, a_factorPowers, a_factorCells)) : wpX_multiply__leftBottom_leftBottom_bottom post (f_tokenCount, f_latestPlace, f_stepCount, f_waitingCount, f_stackCount, f_factorCount, a_tokenKind, a_tokenContent, a_stepKind, a_stepToken, a_waitingKind, a_waitingToken, a_present, a_cells, a_leftTop, a_leftBottom, a_rightTop, a_rightBottom, a_top, a_bottom, a_product, a_quotient, a_common, a_spare, a_rest, a_divisor, a_inverse, a_numerator, a_factorDegrees, a_factorPowers, a_factorCells) := by
  have inner : ∀ (J : Int32 → (Nat → Int32) → (Nat → Int32) → (Nat → Int32) → (Nat → Int32) → (Nat → Int32) → (Nat → Int32) → (Nat → Int32) → (Nat → Int32) → (Nat → Int32) → (Nat → Int32) → (Nat → Int32) → (Nat → Int32) → (Nat → Int32) → (Nat → Int32) → (Nat → Int32) → (Nat → Int32) → (Nat → Int32) → (Nat → Int32) → (Nat → Int32) → (Nat → Int32) → (Nat → Int32) → (Nat → Int32) → (Nat → Int32) → (Nat → Int32) → (Nat → Int32) → Prop) (i : Nat), i < 17 → (∀ a_bottom : Nat → Int32, J (nI (i + 1)) a_tokenKind a_tokenContent a_stepKind a_stepToken a_waitingKind a_waitingToken a_present a_cells a_leftTop a_leftBottom a_rightTop a_rightBottom a_top a_bottom a_product a_quotient a_common a_spare a_rest a_divisor a_inverse a_numerator a_factorDegrees a_factorPowers a_factorCells) → ∀ d j, ∀ a_bottom : Nat → Int32, i + j + d = 17 → wX_multiply__leftBottom_leftBottom_bottom_16 post J (nI i) f_tokenCount f_latestPlace f_stepCount f_waitingCount f_stackCount f_factorCount (d + 1) (nI j) a_tokenKind a_tokenContent a_stepKind a_stepToken a_waitingKind a_waitingToken a_present a_cells a_leftTop a_leftBottom a_rightTop a_rightBottom a_top a_bottom a_product a_quotient a_common a_spare a_rest a_divisor a_inverse a_numerator a_factorDegrees a_factorPowers a_factorCells := by
    intro J i hi hJ d
    induction d with
    | zero =>
      intro j a_bottom hj
      refine br_t ?_ (nm_r (nI_1 i) (hJ _))
      rw [nI_add]; exact nI_le (a := 17) (by omega) (by omega)
    | succ d ih =>
      intro j a_bottom hj
      have e := pk_in (x := nI i + nI j) (i + j) 17 (by omega) (nI_add i j)
      refine br_f ?_ ⟨e, vp_in_nI (by omega) (by omega), vp_in_nI (by omega) (by omega), by decide, e, nm_e (nm_r (nI_1 j) (ih (j + 1) _ (by omega)))⟩
      rw [nI_add]; exact xl_17 (by omega)
  have outer : ∀ d i, ∀ a_bottom : Nat → Int32, i + d = 17 → wX_multiply__leftBottom_leftBottom_bottom_7 post f_tokenCount f_latestPlace f_stepCount f_waitingCount f_stackCount f_factorCount (d + 1) (nI i) a_tokenKind a_tokenContent a_stepKind a_stepToken a_waitingKind a_waitingToken a_present a_cells a_leftTop a_leftBottom a_rightTop a_rightBottom a_top a_bottom a_product a_quotient a_common a_spare a_rest a_divisor a_inverse a_numerator a_factorDegrees a_factorPowers a_factorCells := by
    intro d
    induction d with
    | zero =>
      intro i a_bottom hi
      obtain rfl : i = 17 := by omega
      exact br_t (by decide) (h _)
    | succ d ih =>
      intro i a_bottom hi
      exact br_f (xl_17 (by omega)) ⟨17 - i + 1, inner _ i (by omega) (fun a_bottom => ih (i + 1) _ (by omega)) (17 - i) 0 _ (by omega)⟩
  unfold wpX_multiply__leftBottom_leftBottom_bottom
  exact xl_setNumber__bottom (fun a_bottom => ⟨18, outer 17 0 _ rfl⟩)
theorem xl_multiply__top_rightTop_product {post : SX → Prop} (h : ∀ a_product : Nat → Int32, post (f_tokenCount, f_latestPlace, f_stepCount, f_waitingCount, f_stackCount, f_factorCount, a_tokenKind, a_tokenContent, a_stepKind, a_stepToken, a_waitingKind, a_waitingToken, a_present, a_cells, a_leftTop, a_leftBottom, a_rightTop, a_rightBottom, a_top, a_bottom, a_product, a_quotient, a_common, a_spare, a_rest, a_divisor, a_inverse, a_numerator, a_factorDegrees, a_factorPowers, a_factorCells)) : wpX_multiply__top_rightTop_product post (f_tokenCount, f_latestPlace, f_stepCount, f_waitingCount, f_stackCount, f_factorCount, a_tokenKind, a_tokenContent, a_stepKind, a_stepToken, a_waitingKind, a_waitingToken, a_present, a_cells, a_leftTop, a_leftBottom, a_rightTop, a_rightBottom, a_top, a_bottom, a_product, a_quotient, a_common, a_spare, a_rest, a_divisor, a_inverse, a_numerator, a_factorDegrees, a_factorPowers, a_factorCells) := by
  have inner : ∀ (J : Int32 → (Nat → Int32) → (Nat → Int32) → (Nat → Int32) → (Nat → Int32) → (Nat → Int32) → (Nat → Int32) → (Nat → Int32) → (Nat → Int32) → (Nat → Int32) → (Nat → Int32) → (Nat → Int32) → (Nat → Int32) → (Nat → Int32) → (Nat → Int32) → (Nat → Int32) → (Nat → Int32) → (Nat → Int32) → (Nat → Int32) → (Nat → Int32) → (Nat → Int32) → (Nat → Int32) → (Nat → Int32) → (Nat → Int32) → (Nat → Int32) → (Nat → Int32) → Prop) (i : Nat), i < 17 → (∀ a_product : Nat → Int32, J (nI (i + 1)) a_tokenKind a_tokenContent a_stepKind a_stepToken a_waitingKind a_waitingToken a_present a_cells a_leftTop a_leftBottom a_rightTop a_rightBottom a_top a_bottom a_product a_quotient a_common a_spare a_rest a_divisor a_inverse a_numerator a_factorDegrees a_factorPowers a_factorCells) → ∀ d j, ∀ a_product : Nat → Int32, i + j + d = 17 → wX_multiply__top_rightTop_product_16 post J (nI i) f_tokenCount f_latestPlace f_stepCount f_waitingCount f_stackCount f_factorCount (d + 1) (nI j) a_tokenKind a_tokenContent a_stepKind a_stepToken a_waitingKind a_waitingToken a_present a_cells a_leftTop a_leftBottom a_rightTop a_rightBottom a_top a_bottom a_product a_quotient a_common a_spare a_rest a_divisor a_inverse a_numerator a_factorDegrees a_factorPowers a_factorCells := by
    intro J i hi hJ d
    induction d with
    | zero =>
      intro j a_product hj
      refine br_t ?_ (nm_r (nI_1 i) (hJ _))
      rw [nI_add]; exact nI_le (a := 17) (by omega) (by omega)
    | succ d ih =>
      intro j a_product hj
      have e := pk_in (x := nI i + nI j) (i + j) 17 (by omega) (nI_add i j)
      refine br_f ?_ ⟨e, vp_in_nI (by omega) (by omega), vp_in_nI (by omega) (by omega), by decide, e, nm_e (nm_r (nI_1 j) (ih (j + 1) _ (by omega)))⟩
      rw [nI_add]; exact xl_17 (by omega)
  have outer : ∀ d i, ∀ a_product : Nat → Int32, i + d = 17 → wX_multiply__top_rightTop_product_7 post f_tokenCount f_latestPlace f_stepCount f_waitingCount f_stackCount f_factorCount (d + 1) (nI i) a_tokenKind a_tokenContent a_stepKind a_stepToken a_waitingKind a_waitingToken a_present a_cells a_leftTop a_leftBottom a_rightTop a_rightBottom a_top a_bottom a_product a_quotient a_common a_spare a_rest a_divisor a_inverse a_numerator a_factorDegrees a_factorPowers a_factorCells := by
    intro d
    induction d with
    | zero =>
      intro i a_product hi
      obtain rfl : i = 17 := by omega
      exact br_t (by decide) (h _)
    | succ d ih =>
      intro i a_product hi
      exact br_f (xl_17 (by omega)) ⟨17 - i + 1, inner _ i (by omega) (fun a_product => ih (i + 1) _ (by omega)) (17 - i) 0 _ (by omega)⟩
  unfold wpX_multiply__top_rightTop_product
  exact xl_setNumber__product (fun a_product => ⟨18, outer 17 0 _ rfl⟩)
theorem xl_multiply__spare_rightBottom_product {post : SX → Prop} (h : ∀ a_product : Nat → Int32, post (f_tokenCount, f_latestPlace, f_stepCount, f_waitingCount, f_stackCount, f_factorCount, a_tokenKind, a_tokenContent, a_stepKind, a_stepToken, a_waitingKind, a_waitingToken, a_present, a_cells, a_leftTop, a_leftBottom, a_rightTop, a_rightBottom, a_top, a_bottom, a_product, a_quotient, a_common, a_spare, a_rest, a_divisor, a_inverse, a_numerator, a_factorDegrees, a_factorPowers, a_factorCells)) : wpX_multiply__spare_rightBottom_product post (f_tokenCount, f_latestPlace, f_stepCount, f_waitingCount, f_stackCount, f_factorCount, a_tokenKind, a_tokenContent, a_stepKind, a_stepToken, a_waitingKind, a_waitingToken, a_present, a_cells, a_leftTop, a_leftBottom, a_rightTop, a_rightBottom, a_top, a_bottom, a_product, a_quotient, a_common, a_spare, a_rest, a_divisor, a_inverse, a_numerator, a_factorDegrees, a_factorPowers, a_factorCells) := by
  have inner : ∀ (J : Int32 → (Nat → Int32) → (Nat → Int32) → (Nat → Int32) → (Nat → Int32) → (Nat → Int32) → (Nat → Int32) → (Nat → Int32) → (Nat → Int32) → (Nat → Int32) → (Nat → Int32) → (Nat → Int32) → (Nat → Int32) → (Nat → Int32) → (Nat → Int32) → (Nat → Int32) → (Nat → Int32) → (Nat → Int32) → (Nat → Int32) → (Nat → Int32) → (Nat → Int32) → (Nat → Int32) → (Nat → Int32) → (Nat → Int32) → (Nat → Int32) → (Nat → Int32) → Prop) (i : Nat), i < 17 → (∀ a_product : Nat → Int32, J (nI (i + 1)) a_tokenKind a_tokenContent a_stepKind a_stepToken a_waitingKind a_waitingToken a_present a_cells a_leftTop a_leftBottom a_rightTop a_rightBottom a_top a_bottom a_product a_quotient a_common a_spare a_rest a_divisor a_inverse a_numerator a_factorDegrees a_factorPowers a_factorCells) → ∀ d j, ∀ a_product : Nat → Int32, i + j + d = 17 → wX_multiply__spare_rightBottom_product_16 post J (nI i) f_tokenCount f_latestPlace f_stepCount f_waitingCount f_stackCount f_factorCount (d + 1) (nI j) a_tokenKind a_tokenContent a_stepKind a_stepToken a_waitingKind a_waitingToken a_present a_cells a_leftTop a_leftBottom a_rightTop a_rightBottom a_top a_bottom a_product a_quotient a_common a_spare a_rest a_divisor a_inverse a_numerator a_factorDegrees a_factorPowers a_factorCells := by
    intro J i hi hJ d
    induction d with
    | zero =>
      intro j a_product hj
      refine br_t ?_ (nm_r (nI_1 i) (hJ _))
      rw [nI_add]; exact nI_le (a := 17) (by omega) (by omega)
    | succ d ih =>
      intro j a_product hj
      have e := pk_in (x := nI i + nI j) (i + j) 17 (by omega) (nI_add i j)
      refine br_f ?_ ⟨e, vp_in_nI (by omega) (by omega), vp_in_nI (by omega) (by omega), by decide, e, nm_e (nm_r (nI_1 j) (ih (j + 1) _ (by omega)))⟩
      rw [nI_add]; exact xl_17 (by omega)
  have outer : ∀ d i, ∀ a_product : Nat → Int32, i + d = 17 → wX_multiply__spare_rightBottom_product_7 post f_tokenCount f_latestPlace f_stepCount f_waitingCount f_stackCount f_factorCount (d + 1) (nI i) a_tokenKind a_tokenContent a_stepKind a_stepToken a_waitingKind a_waitingToken a_present a_cells a_leftTop a_leftBottom a_rightTop a_rightBottom a_top a_bottom a_product a_quotient a_common a_spare a_rest a_divisor a_inverse a_numerator a_factorDegrees a_factorPowers a_factorCells := by
    intro d
    induction d with
    | zero =>
      intro i a_product hi
      obtain rfl : i = 17 := by omega
      exact br_t (by decide) (h _)
    | succ d ih =>
      intro i a_product hi
      exact br_f (xl_17 (by omega)) ⟨17 - i + 1, inner _ i (by omega) (fun a_product => ih (i + 1) _ (by omega)) (17 - i) 0 _ (by omega)⟩
  unfold wpX_multiply__spare_rightBottom_product
  exact xl_setNumber__product (fun a_product => ⟨18, outer 17 0 _ rfl⟩)
theorem xl_multiply__bottom_rightTop_product {post : SX → Prop} (h : ∀ a_product : Nat → Int32, post (f_tokenCount, f_latestPlace, f_stepCount, f_waitingCount, f_stackCount, f_factorCount, a_tokenKind, a_tokenContent, a_stepKind, a_stepToken, a_waitingKind, a_waitingToken, a_present, a_cells, a_leftTop, a_leftBottom, a_rightTop, a_rightBottom, a_top, a_bottom, a_product, a_quotient, a_common, a_spare, a_rest, a_divisor, a_inverse, a_numerator, a_factorDegrees, a_factorPowers, a_factorCells)) : wpX_multiply__bottom_rightTop_product post (f_tokenCount, f_latestPlace, f_stepCount, f_waitingCount, f_stackCount, f_factorCount, a_tokenKind, a_tokenContent, a_stepKind, a_stepToken, a_waitingKind, a_waitingToken, a_present, a_cells, a_leftTop, a_leftBottom, a_rightTop, a_rightBottom, a_top, a_bottom, a_product, a_quotient, a_common, a_spare, a_rest, a_divisor, a_inverse, a_numerator, a_factorDegrees, a_factorPowers, a_factorCells) := by
  have inner : ∀ (J : Int32 → (Nat → Int32) → (Nat → Int32) → (Nat → Int32) → (Nat → Int32) → (Nat → Int32) → (Nat → Int32) → (Nat → Int32) → (Nat → Int32) → (Nat → Int32) → (Nat → Int32) → (Nat → Int32) → (Nat → Int32) → (Nat → Int32) → (Nat → Int32) → (Nat → Int32) → (Nat → Int32) → (Nat → Int32) → (Nat → Int32) → (Nat → Int32) → (Nat → Int32) → (Nat → Int32) → (Nat → Int32) → (Nat → Int32) → (Nat → Int32) → (Nat → Int32) → Prop) (i : Nat), i < 17 → (∀ a_product : Nat → Int32, J (nI (i + 1)) a_tokenKind a_tokenContent a_stepKind a_stepToken a_waitingKind a_waitingToken a_present a_cells a_leftTop a_leftBottom a_rightTop a_rightBottom a_top a_bottom a_product a_quotient a_common a_spare a_rest a_divisor a_inverse a_numerator a_factorDegrees a_factorPowers a_factorCells) → ∀ d j, ∀ a_product : Nat → Int32, i + j + d = 17 → wX_multiply__bottom_rightTop_product_16 post J (nI i) f_tokenCount f_latestPlace f_stepCount f_waitingCount f_stackCount f_factorCount (d + 1) (nI j) a_tokenKind a_tokenContent a_stepKind a_stepToken a_waitingKind a_waitingToken a_present a_cells a_leftTop a_leftBottom a_rightTop a_rightBottom a_top a_bottom a_product a_quotient a_common a_spare a_rest a_divisor a_inverse a_numerator a_factorDegrees a_factorPowers a_factorCells := by
    intro J i hi hJ d
    induction d with
    | zero =>
      intro j a_product hj
      refine br_t ?_ (nm_r (nI_1 i) (hJ _))
      rw [nI_add]; exact nI_le (a := 17) (by omega) (by omega)
    | succ d ih =>
      intro j a_product hj
      have e := pk_in (x := nI i + nI j) (i + j) 17 (by omega) (nI_add i j)
      refine br_f ?_ ⟨e, vp_in_nI (by omega) (by omega), vp_in_nI (by omega) (by omega), by decide, e, nm_e (nm_r (nI_1 j) (ih (j + 1) _ (by omega)))⟩
      rw [nI_add]; exact xl_17 (by omega)
  have outer : ∀ d i, ∀ a_product : Nat → Int32, i + d = 17 → wX_multiply__bottom_rightTop_product_7 post f_tokenCount f_latestPlace f_stepCount f_waitingCount f_stackCount f_factorCount (d + 1) (nI i) a_tokenKind a_tokenContent a_stepKind a_stepToken a_waitingKind a_waitingToken a_present a_cells a_leftTop a_leftBottom a_rightTop a_rightBottom a_top a_bottom a_product a_quotient a_common a_spare a_rest a_divisor a_inverse a_numerator a_factorDegrees a_factorPowers a_factorCells := by
    intro d
    induction d with
    | zero =>
      intro i a_product hi
      obtain rfl : i = 17 := by omega
      exact br_t (by decide) (h _)
    | succ d ih =>
      intro i a_product hi
      exact br_f (xl_17 (by omega)) ⟨17 - i + 1, inner _ i (by omega) (fun a_product => ih (i + 1) _ (by omega)) (17 - i) 0 _ (by omega)⟩
  unfold wpX_multiply__bottom_rightTop_product
  exact xl_setNumber__product (fun a_product => ⟨18, outer 17 0 _ rfl⟩)
theorem xl_multiply__spare_common_product {post : SX → Prop} (h : ∀ a_product : Nat → Int32, post (f_tokenCount, f_latestPlace, f_stepCount, f_waitingCount, f_stackCount, f_factorCount, a_tokenKind, a_tokenContent, a_stepKind, a_stepToken, a_waitingKind, a_waitingToken, a_present, a_cells, a_leftTop, a_leftBottom, a_rightTop, a_rightBottom, a_top, a_bottom, a_product, a_quotient, a_common, a_spare, a_rest, a_divisor, a_inverse, a_numerator, a_factorDegrees, a_factorPowers, a_factorCells)) : wpX_multiply__spare_common_product post (f_tokenCount, f_latestPlace, f_stepCount, f_waitingCount, f_stackCount, f_factorCount, a_tokenKind, a_tokenContent, a_stepKind, a_stepToken, a_waitingKind, a_waitingToken, a_present, a_cells, a_leftTop, a_leftBottom, a_rightTop, a_rightBottom, a_top, a_bottom, a_product, a_quotient, a_common, a_spare, a_rest, a_divisor, a_inverse, a_numerator, a_factorDegrees, a_factorPowers, a_factorCells) := by
  have inner : ∀ (J : Int32 → (Nat → Int32) → (Nat → Int32) → (Nat → Int32) → (Nat → Int32) → (Nat → Int32) → (Nat → Int32) → (Nat → Int32) → (Nat → Int32) → (Nat → Int32) → (Nat → Int32) → (Nat → Int32) → (Nat → Int32) → (Nat → Int32) → (Nat → Int32) → (Nat → Int32) → (Nat → Int32) → (Nat → Int32) → (Nat → Int32) → (Nat → Int32) → (Nat → Int32) → (Nat → Int32) → (Nat → Int32) → (Nat → Int32) → (Nat → Int32) → (Nat → Int32) → Prop) (i : Nat), i < 17 → (∀ a_product : Nat → Int32, J (nI (i + 1)) a_tokenKind a_tokenContent a_stepKind a_stepToken a_waitingKind a_waitingToken a_present a_cells a_leftTop a_leftBottom a_rightTop a_rightBottom a_top a_bottom a_product a_quotient a_common a_spare a_rest a_divisor a_inverse a_numerator a_factorDegrees a_factorPowers a_factorCells) → ∀ d j, ∀ a_product : Nat → Int32, i + j + d = 17 → wX_multiply__spare_common_product_16 post J (nI i) f_tokenCount f_latestPlace f_stepCount f_waitingCount f_stackCount f_factorCount (d + 1) (nI j) a_tokenKind a_tokenContent a_stepKind a_stepToken a_waitingKind a_waitingToken a_present a_cells a_leftTop a_leftBottom a_rightTop a_rightBottom a_top a_bottom a_product a_quotient a_common a_spare a_rest a_divisor a_inverse a_numerator a_factorDegrees a_factorPowers a_factorCells := by
    intro J i hi hJ d
    induction d with
    | zero =>
      intro j a_product hj
      refine br_t ?_ (nm_r (nI_1 i) (hJ _))
      rw [nI_add]; exact nI_le (a := 17) (by omega) (by omega)
    | succ d ih =>
      intro j a_product hj
      have e := pk_in (x := nI i + nI j) (i + j) 17 (by omega) (nI_add i j)
      refine br_f ?_ ⟨e, vp_in_nI (by omega) (by omega), vp_in_nI (by omega) (by omega), by decide, e, nm_e (nm_r (nI_1 j) (ih (j + 1) _ (by omega)))⟩
      rw [nI_add]; exact xl_17 (by omega)
  have outer : ∀ d i, ∀ a_product : Nat → Int32, i + d = 17 → wX_multiply__spare_common_product_7 post f_tokenCount f_latestPlace f_stepCount f_waitingCount f_stackCount f_factorCount (d + 1) (nI i) a_tokenKind a_tokenContent a_stepKind a_stepToken a_waitingKind a_waitingToken a_present a_cells a_leftTop a_leftBottom a_rightTop a_rightBottom a_top a_bottom a_product a_quotient a_common a_spare a_rest a_divisor a_inverse a_numerator a_factorDegrees a_factorPowers a_factorCells := by
    intro d
    induction d with
    | zero =>
      intro i a_product hi
      obtain rfl : i = 17 := by omega
      exact br_t (by decide) (h _)
    | succ d ih =>
      intro i a_product hi
      exact br_f (xl_17 (by omega)) ⟨17 - i + 1, inner _ i (by omega) (fun a_product => ih (i + 1) _ (by omega)) (17 - i) 0 _ (by omega)⟩
  unfold wpX_multiply__spare_common_product
  exact xl_setNumber__product (fun a_product => ⟨18, outer 17 0 _ rfl⟩)
theorem xl_multiply__inverse_spare_product {post : SX → Prop} (h : ∀ a_product : Nat → Int32, post (f_tokenCount, f_latestPlace, f_stepCount, f_waitingCount, f_stackCount, f_factorCount, a_tokenKind, a_tokenContent, a_stepKind, a_stepToken, a_waitingKind, a_waitingToken, a_present, a_cells, a_leftTop, a_leftBottom, a_rightTop, a_rightBottom, a_top, a_bottom, a_product, a_quotient, a_common, a_spare, a_rest, a_divisor, a_inverse, a_numerator, a_factorDegrees, a_factorPowers, a_factorCells)) : wpX_multiply__inverse_spare_product post (f_tokenCount, f_latestPlace, f_stepCount, f_waitingCount, f_stackCount, f_factorCount, a_tokenKind, a_tokenContent, a_stepKind, a_stepToken, a_waitingKind, a_waitingToken, a_present, a_cells, a_leftTop, a_leftBottom, a_rightTop, a_rightBottom, a_top, a_bottom, a_product, a_quotient, a_common, a_spare, a_rest, a_divisor, a_inverse, a_numerator, a_factorDegrees, a_factorPowers, a_factorCells) := by
  have inner : ∀ (J : Int32 → (Nat → Int32) → (Nat → Int32) → (Nat → Int32) → (Nat → Int32) → (Nat → Int32) → (Nat → Int32) → (Nat → Int32) → (Nat → Int32) → (Nat → Int32) → (Nat → Int32) → (Nat → Int32) → (Nat → Int32) → (Nat → Int32) → (Nat → Int32) → (Nat → Int32) → (Nat → Int32) → (Nat → Int32) → (Nat → Int32) → (Nat → Int32) → (Nat → Int32) → (Nat → Int32) → (Nat → Int32) → (Nat → Int32) → (Nat → Int32) → (Nat → Int32) → Prop) (i : Nat), i < 17 → (∀ a_product : Nat → Int32, J (nI (i + 1)) a_tokenKind a_tokenContent a_stepKind a_stepToken a_waitingKind a_waitingToken a_present a_cells a_leftTop a_leftBottom a_rightTop a_rightBottom a_top a_bottom a_product a_quotient a_common a_spare a_rest a_divisor a_inverse a_numerator a_factorDegrees a_factorPowers a_factorCells) → ∀ d j, ∀ a_product : Nat → Int32, i + j + d = 17 → wX_multiply__inverse_spare_product_16 post J (nI i) f_tokenCount f_latestPlace f_stepCount f_waitingCount f_stackCount f_factorCount (d + 1) (nI j) a_tokenKind a_tokenContent a_stepKind a_stepToken a_waitingKind a_waitingToken a_present a_cells a_leftTop a_leftBottom a_rightTop a_rightBottom a_top a_bottom a_product a_quotient a_common a_spare a_rest a_divisor a_inverse a_numerator a_factorDegrees a_factorPowers a_factorCells := by
    intro J i hi hJ d
    induction d with
    | zero =>
      intro j a_product hj
      refine br_t ?_ (nm_r (nI_1 i) (hJ _))
      rw [nI_add]; exact nI_le (a := 17) (by omega) (by omega)
    | succ d ih =>
      intro j a_product hj
      have e := pk_in (x := nI i + nI j) (i + j) 17 (by omega) (nI_add i j)
      refine br_f ?_ ⟨e, vp_in_nI (by omega) (by omega), vp_in_nI (by omega) (by omega), by decide, e, nm_e (nm_r (nI_1 j) (ih (j + 1) _ (by omega)))⟩
      rw [nI_add]; exact xl_17 (by omega)
  have outer : ∀ d i, ∀ a_product : Nat → Int32, i + d = 17 → wX_multiply__inverse_spare_product_7 post f_tokenCount f_latestPlace f_stepCount f_waitingCount f_stackCount f_factorCount (d + 1) (nI i) a_tokenKind a_tokenContent a_stepKind a_stepToken a_waitingKind a_waitingToken a_present a_cells a_leftTop a_leftBottom a_rightTop a_rightBottom a_top a_bottom a_product a_quotient a_common a_spare a_rest a_divisor a_inverse a_numerator a_factorDegrees a_factorPowers a_factorCells := by
    intro d
    induction d with
    | zero =>
      intro i a_product hi
      obtain rfl : i = 17 := by omega
      exact br_t (by decide) (h _)
    | succ d ih =>
      intro i a_product hi
      exact br_f (xl_17 (by omega)) ⟨17 - i + 1, inner _ i (by omega) (fun a_product => ih (i + 1) _ (by omega)) (17 - i) 0 _ (by omega)⟩
  unfold wpX_multiply__inverse_spare_product
  exact xl_setNumber__product (fun a_product => ⟨18, outer 17 0 _ rfl⟩)
theorem xl_multiply__numerator_inverse_product {post : SX → Prop} (h : ∀ a_product : Nat → Int32, post (f_tokenCount, f_latestPlace, f_stepCount, f_waitingCount, f_stackCount, f_factorCount, a_tokenKind, a_tokenContent, a_stepKind, a_stepToken, a_waitingKind, a_waitingToken, a_present, a_cells, a_leftTop, a_leftBottom, a_rightTop, a_rightBottom, a_top, a_bottom, a_product, a_quotient, a_common, a_spare, a_rest, a_divisor, a_inverse, a_numerator, a_factorDegrees, a_factorPowers, a_factorCells)) : wpX_multiply__numerator_inverse_product post (f_tokenCount, f_latestPlace, f_stepCount, f_waitingCount, f_stackCount, f_factorCount, a_tokenKind, a_tokenContent, a_stepKind, a_stepToken, a_waitingKind, a_waitingToken, a_present, a_cells, a_leftTop, a_leftBottom, a_rightTop, a_rightBottom, a_top, a_bottom, a_product, a_quotient, a_common, a_spare, a_rest, a_divisor, a_inverse, a_numerator, a_factorDegrees, a_factorPowers, a_factorCells) := by
  have inner : ∀ (J : Int32 → (Nat → Int32) → (Nat → Int32) → (Nat → Int32) → (Nat → Int32) → (Nat → Int32) → (Nat → Int32) → (Nat → Int32) → (Nat → Int32) → (Nat → Int32) → (Nat → Int32) → (Nat → Int32) → (Nat → Int32) → (Nat → Int32) → (Nat → Int32) → (Nat → Int32) → (Nat → Int32) → (Nat → Int32) → (Nat → Int32) → (Nat → Int32) → (Nat → Int32) → (Nat → Int32) → (Nat → Int32) → (Nat → Int32) → (Nat → Int32) → (Nat → Int32) → Prop) (i : Nat), i < 17 → (∀ a_product : Nat → Int32, J (nI (i + 1)) a_tokenKind a_tokenContent a_stepKind a_stepToken a_waitingKind a_waitingToken a_present a_cells a_leftTop a_leftBottom a_rightTop a_rightBottom a_top a_bottom a_product a_quotient a_common a_spare a_rest a_divisor a_inverse a_numerator a_factorDegrees a_factorPowers a_factorCells) → ∀ d j, ∀ a_product : Nat → Int32, i + j + d = 17 → wX_multiply__numerator_inverse_product_16 post J (nI i) f_tokenCount f_latestPlace f_stepCount f_waitingCount f_stackCount f_factorCount (d + 1) (nI j) a_tokenKind a_tokenContent a_stepKind a_stepToken a_waitingKind a_waitingToken a_present a_cells a_leftTop a_leftBottom a_rightTop a_rightBottom a_top a_bottom a_product a_quotient a_common a_spare a_rest a_divisor a_inverse a_numerator a_factorDegrees a_factorPowers a_factorCells := by
    intro J i hi hJ d
    induction d with
    | zero =>
      intro j a_product hj
      refine br_t ?_ (nm_r (nI_1 i) (hJ _))
      rw [nI_add]; exact nI_le (a := 17) (by omega) (by omega)
    | succ d ih =>
      intro j a_product hj
      have e := pk_in (x := nI i + nI j) (i + j) 17 (by omega) (nI_add i j)
      refine br_f ?_ ⟨e, vp_in_nI (by omega) (by omega), vp_in_nI (by omega) (by omega), by decide, e, nm_e (nm_r (nI_1 j) (ih (j + 1) _ (by omega)))⟩
      rw [nI_add]; exact xl_17 (by omega)
  have outer : ∀ d i, ∀ a_product : Nat → Int32, i + d = 17 → wX_multiply__numerator_inverse_product_7 post f_tokenCount f_latestPlace f_stepCount f_waitingCount f_stackCount f_factorCount (d + 1) (nI i) a_tokenKind a_tokenContent a_stepKind a_stepToken a_waitingKind a_waitingToken a_present a_cells a_leftTop a_leftBottom a_rightTop a_rightBottom a_top a_bottom a_product a_quotient a_common a_spare a_rest a_divisor a_inverse a_numerator a_factorDegrees a_factorPowers a_factorCells := by
    intro d
    induction d with
    | zero =>
      intro i a_product hi
      obtain rfl : i = 17 := by omega
      exact br_t (by decide) (h _)
    | succ d ih =>
      intro i a_product hi
      exact br_f (xl_17 (by omega)) ⟨17 - i + 1, inner _ i (by omega) (fun a_product => ih (i + 1) _ (by omega)) (17 - i) 0 _ (by omega)⟩
  unfold wpX_multiply__numerator_inverse_product
  exact xl_setNumber__product (fun a_product => ⟨18, outer 17 0 _ rfl⟩)
theorem xl_multiply__numerator_leftBottom_product {post : SX → Prop} (h : ∀ a_product : Nat → Int32, post (f_tokenCount, f_latestPlace, f_stepCount, f_waitingCount, f_stackCount, f_factorCount, a_tokenKind, a_tokenContent, a_stepKind, a_stepToken, a_waitingKind, a_waitingToken, a_present, a_cells, a_leftTop, a_leftBottom, a_rightTop, a_rightBottom, a_top, a_bottom, a_product, a_quotient, a_common, a_spare, a_rest, a_divisor, a_inverse, a_numerator, a_factorDegrees, a_factorPowers, a_factorCells)) : wpX_multiply__numerator_leftBottom_product post (f_tokenCount, f_latestPlace, f_stepCount, f_waitingCount, f_stackCount, f_factorCount, a_tokenKind, a_tokenContent, a_stepKind, a_stepToken, a_waitingKind, a_waitingToken, a_present, a_cells, a_leftTop, a_leftBottom, a_rightTop, a_rightBottom, a_top, a_bottom, a_product, a_quotient, a_common, a_spare, a_rest, a_divisor, a_inverse, a_numerator, a_factorDegrees, a_factorPowers, a_factorCells) := by
  have inner : ∀ (J : Int32 → (Nat → Int32) → (Nat → Int32) → (Nat → Int32) → (Nat → Int32) → (Nat → Int32) → (Nat → Int32) → (Nat → Int32) → (Nat → Int32) → (Nat → Int32) → (Nat → Int32) → (Nat → Int32) → (Nat → Int32) → (Nat → Int32) → (Nat → Int32) → (Nat → Int32) → (Nat → Int32) → (Nat → Int32) → (Nat → Int32) → (Nat → Int32) → (Nat → Int32) → (Nat → Int32) → (Nat → Int32) → (Nat → Int32) → (Nat → Int32) → (Nat → Int32) → Prop) (i : Nat), i < 17 → (∀ a_product : Nat → Int32, J (nI (i + 1)) a_tokenKind a_tokenContent a_stepKind a_stepToken a_waitingKind a_waitingToken a_present a_cells a_leftTop a_leftBottom a_rightTop a_rightBottom a_top a_bottom a_product a_quotient a_common a_spare a_rest a_divisor a_inverse a_numerator a_factorDegrees a_factorPowers a_factorCells) → ∀ d j, ∀ a_product : Nat → Int32, i + j + d = 17 → wX_multiply__numerator_leftBottom_product_16 post J (nI i) f_tokenCount f_latestPlace f_stepCount f_waitingCount f_stackCount f_factorCount (d + 1) (nI j) a_tokenKind a_tokenContent a_stepKind a_stepToken a_waitingKind a_waitingToken a_present a_cells a_leftTop a_leftBottom a_rightTop a_rightBottom a_top a_bottom a_product a_quotient a_common a_spare a_rest a_divisor a_inverse a_numerator a_factorDegrees a_factorPowers a_factorCells := by
    intro J i hi hJ d
    induction d with
    | zero =>
      intro j a_product hj
      refine br_t ?_ (nm_r (nI_1 i) (hJ _))
      rw [nI_add]; exact nI_le (a := 17) (by omega) (by omega)
    | succ d ih =>
      intro j a_product hj
      have e := pk_in (x := nI i + nI j) (i + j) 17 (by omega) (nI_add i j)
      refine br_f ?_ ⟨e, vp_in_nI (by omega) (by omega), vp_in_nI (by omega) (by omega), by decide, e, nm_e (nm_r (nI_1 j) (ih (j + 1) _ (by omega)))⟩
      rw [nI_add]; exact xl_17 (by omega)
  have outer : ∀ d i, ∀ a_product : Nat → Int32, i + d = 17 → wX_multiply__numerator_leftBottom_product_7 post f_tokenCount f_latestPlace f_stepCount f_waitingCount f_stackCount f_factorCount (d + 1) (nI i) a_tokenKind a_tokenContent a_stepKind a_stepToken a_waitingKind a_waitingToken a_present a_cells a_leftTop a_leftBottom a_rightTop a_rightBottom a_top a_bottom a_product a_quotient a_common a_spare a_rest a_divisor a_inverse a_numerator a_factorDegrees a_factorPowers a_factorCells := by
    intro d
    induction d with
    | zero =>
      intro i a_product hi
      obtain rfl : i = 17 := by omega
      exact br_t (by decide) (h _)
    | succ d ih =>
      intro i a_product hi
      exact br_f (xl_17 (by omega)) ⟨17 - i + 1, inner _ i (by omega) (fun a_product => ih (i + 1) _ (by omega)) (17 - i) 0 _ (by omega)⟩
  unfold wpX_multiply__numerator_leftBottom_product
  exact xl_setNumber__product (fun a_product => ⟨18, outer 17 0 _ rfl⟩)
end
