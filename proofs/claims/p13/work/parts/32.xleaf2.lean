/-! The class's leaves: they end, whatever the arrays hold (written by wip/p2/gen_x.py) -/
section
variable {f_tokenCount f_latestPlace f_stepCount f_waitingCount f_stackCount f_factorCount : Int32} {a_tokenKind a_tokenContent a_stepKind a_stepToken a_waitingKind a_waitingToken a_present a_cells a_leftTop a_leftBottom a_rightTop a_rightBottom a_top a_bottom a_product a_quotient a_common a_spare a_rest a_divisor a_inverse a_numerator a_factorDegrees a_factorPowers a_factorCells : Nat → Int32}
theorem xl_load__leftTop {post : SX → Prop} {p0 p1 : Int32} (hp : p1 = 0 ∨ p1 = 1) (h : ∀ a_leftTop : Nat → Int32, post (f_tokenCount, f_latestPlace, f_stepCount, f_waitingCount, f_stackCount, f_factorCount, a_tokenKind, a_tokenContent, a_stepKind, a_stepToken, a_waitingKind, a_waitingToken, a_present, a_cells, a_leftTop, a_leftBottom, a_rightTop, a_rightBottom, a_top, a_bottom, a_product, a_quotient, a_common, a_spare, a_rest, a_divisor, a_inverse, a_numerator, a_factorDegrees, a_factorPowers, a_factorCells)) : wpX_load__leftTop post (f_tokenCount, f_latestPlace, f_stepCount, f_waitingCount, f_stackCount, f_factorCount, a_tokenKind, a_tokenContent, a_stepKind, a_stepToken, a_waitingKind, a_waitingToken, a_present, a_cells, a_leftTop, a_leftBottom, a_rightTop, a_rightBottom, a_top, a_bottom, a_product, a_quotient, a_common, a_spare, a_rest, a_divisor, a_inverse, a_numerator, a_factorDegrees, a_factorPowers, a_factorCells) p0 p1 := by
  have key : ∀ s d j, ∀ a_leftTop : Nat → Int32, s + 9 ≤ 558 → j + d = 9 → wX_load__leftTop_28 post (nI s) f_tokenCount f_latestPlace f_stepCount f_waitingCount f_stackCount f_factorCount (d + 1) (nI j) a_tokenKind a_tokenContent a_stepKind a_stepToken a_waitingKind a_waitingToken a_present a_cells a_leftTop a_leftBottom a_rightTop a_rightBottom a_top a_bottom a_product a_quotient a_common a_spare a_rest a_divisor a_inverse a_numerator a_factorDegrees a_factorPowers a_factorCells := by
    intro s d
    induction d with
    | zero =>
      intro j a_leftTop hs hj
      obtain rfl : j = 9 := by omega
      exact br_t (by decide) (h _)
    | succ d ih =>
      intro j a_leftTop hs hj
      exact br_f (nI_ge (b := 9) (by omega) (by decide)) ⟨pk_in (s + j) 558 (by omega) (nI_add s j), vp_in_nI (by omega) (by omega), nm_e (nm_r (nI_1 j) (ih (j + 1) _ hs (by omega)))⟩
  unfold wpX_load__leftTop
  refine xl_setNumber__leftTop (fun a_leftTop => ?_)
  by_cases c0 : p0 < 0
  · exact br_t c0 (h _)
  · by_cases c1 : 31 ≤ p0
    · exact br_f c0 (br_t c1 (h _))
    · obtain ⟨s, hs, e⟩ := xl_st c0 c1 hp
      refine br_f c0 (br_f c1 (nm_r e ⟨10, key s 9 0 _ hs rfl⟩))
theorem xl_load__leftBottom {post : SX → Prop} {p0 p1 : Int32} (hp : p1 = 0 ∨ p1 = 1) (h : ∀ a_leftBottom : Nat → Int32, post (f_tokenCount, f_latestPlace, f_stepCount, f_waitingCount, f_stackCount, f_factorCount, a_tokenKind, a_tokenContent, a_stepKind, a_stepToken, a_waitingKind, a_waitingToken, a_present, a_cells, a_leftTop, a_leftBottom, a_rightTop, a_rightBottom, a_top, a_bottom, a_product, a_quotient, a_common, a_spare, a_rest, a_divisor, a_inverse, a_numerator, a_factorDegrees, a_factorPowers, a_factorCells)) : wpX_load__leftBottom post (f_tokenCount, f_latestPlace, f_stepCount, f_waitingCount, f_stackCount, f_factorCount, a_tokenKind, a_tokenContent, a_stepKind, a_stepToken, a_waitingKind, a_waitingToken, a_present, a_cells, a_leftTop, a_leftBottom, a_rightTop, a_rightBottom, a_top, a_bottom, a_product, a_quotient, a_common, a_spare, a_rest, a_divisor, a_inverse, a_numerator, a_factorDegrees, a_factorPowers, a_factorCells) p0 p1 := by
  have key : ∀ s d j, ∀ a_leftBottom : Nat → Int32, s + 9 ≤ 558 → j + d = 9 → wX_load__leftBottom_28 post (nI s) f_tokenCount f_latestPlace f_stepCount f_waitingCount f_stackCount f_factorCount (d + 1) (nI j) a_tokenKind a_tokenContent a_stepKind a_stepToken a_waitingKind a_waitingToken a_present a_cells a_leftTop a_leftBottom a_rightTop a_rightBottom a_top a_bottom a_product a_quotient a_common a_spare a_rest a_divisor a_inverse a_numerator a_factorDegrees a_factorPowers a_factorCells := by
    intro s d
    induction d with
    | zero =>
      intro j a_leftBottom hs hj
      obtain rfl : j = 9 := by omega
      exact br_t (by decide) (h _)
    | succ d ih =>
      intro j a_leftBottom hs hj
      exact br_f (nI_ge (b := 9) (by omega) (by decide)) ⟨pk_in (s + j) 558 (by omega) (nI_add s j), vp_in_nI (by omega) (by omega), nm_e (nm_r (nI_1 j) (ih (j + 1) _ hs (by omega)))⟩
  unfold wpX_load__leftBottom
  refine xl_setNumber__leftBottom (fun a_leftBottom => ?_)
  by_cases c0 : p0 < 0
  · exact br_t c0 (h _)
  · by_cases c1 : 31 ≤ p0
    · exact br_f c0 (br_t c1 (h _))
    · obtain ⟨s, hs, e⟩ := xl_st c0 c1 hp
      refine br_f c0 (br_f c1 (nm_r e ⟨10, key s 9 0 _ hs rfl⟩))
theorem xl_load__rightTop {post : SX → Prop} {p0 p1 : Int32} (hp : p1 = 0 ∨ p1 = 1) (h : ∀ a_rightTop : Nat → Int32, post (f_tokenCount, f_latestPlace, f_stepCount, f_waitingCount, f_stackCount, f_factorCount, a_tokenKind, a_tokenContent, a_stepKind, a_stepToken, a_waitingKind, a_waitingToken, a_present, a_cells, a_leftTop, a_leftBottom, a_rightTop, a_rightBottom, a_top, a_bottom, a_product, a_quotient, a_common, a_spare, a_rest, a_divisor, a_inverse, a_numerator, a_factorDegrees, a_factorPowers, a_factorCells)) : wpX_load__rightTop post (f_tokenCount, f_latestPlace, f_stepCount, f_waitingCount, f_stackCount, f_factorCount, a_tokenKind, a_tokenContent, a_stepKind, a_stepToken, a_waitingKind, a_waitingToken, a_present, a_cells, a_leftTop, a_leftBottom, a_rightTop, a_rightBottom, a_top, a_bottom, a_product, a_quotient, a_common, a_spare, a_rest, a_divisor, a_inverse, a_numerator, a_factorDegrees, a_factorPowers, a_factorCells) p0 p1 := by
  have key : ∀ s d j, ∀ a_rightTop : Nat → Int32, s + 9 ≤ 558 → j + d = 9 → wX_load__rightTop_28 post (nI s) f_tokenCount f_latestPlace f_stepCount f_waitingCount f_stackCount f_factorCount (d + 1) (nI j) a_tokenKind a_tokenContent a_stepKind a_stepToken a_waitingKind a_waitingToken a_present a_cells a_leftTop a_leftBottom a_rightTop a_rightBottom a_top a_bottom a_product a_quotient a_common a_spare a_rest a_divisor a_inverse a_numerator a_factorDegrees a_factorPowers a_factorCells := by
    intro s d
    induction d with
    | zero =>
      intro j a_rightTop hs hj
      obtain rfl : j = 9 := by omega
      exact br_t (by decide) (h _)
    | succ d ih =>
      intro j a_rightTop hs hj
      exact br_f (nI_ge (b := 9) (by omega) (by decide)) ⟨pk_in (s + j) 558 (by omega) (nI_add s j), vp_in_nI (by omega) (by omega), nm_e (nm_r (nI_1 j) (ih (j + 1) _ hs (by omega)))⟩
  unfold wpX_load__rightTop
  refine xl_setNumber__rightTop (fun a_rightTop => ?_)
  by_cases c0 : p0 < 0
  · exact br_t c0 (h _)
  · by_cases c1 : 31 ≤ p0
    · exact br_f c0 (br_t c1 (h _))
    · obtain ⟨s, hs, e⟩ := xl_st c0 c1 hp
      refine br_f c0 (br_f c1 (nm_r e ⟨10, key s 9 0 _ hs rfl⟩))
theorem xl_load__rightBottom {post : SX → Prop} {p0 p1 : Int32} (hp : p1 = 0 ∨ p1 = 1) (h : ∀ a_rightBottom : Nat → Int32, post (f_tokenCount, f_latestPlace, f_stepCount, f_waitingCount, f_stackCount, f_factorCount, a_tokenKind, a_tokenContent, a_stepKind, a_stepToken, a_waitingKind, a_waitingToken, a_present, a_cells, a_leftTop, a_leftBottom, a_rightTop, a_rightBottom, a_top, a_bottom, a_product, a_quotient, a_common, a_spare, a_rest, a_divisor, a_inverse, a_numerator, a_factorDegrees, a_factorPowers, a_factorCells)) : wpX_load__rightBottom post (f_tokenCount, f_latestPlace, f_stepCount, f_waitingCount, f_stackCount, f_factorCount, a_tokenKind, a_tokenContent, a_stepKind, a_stepToken, a_waitingKind, a_waitingToken, a_present, a_cells, a_leftTop, a_leftBottom, a_rightTop, a_rightBottom, a_top, a_bottom, a_product, a_quotient, a_common, a_spare, a_rest, a_divisor, a_inverse, a_numerator, a_factorDegrees, a_factorPowers, a_factorCells) p0 p1 := by
  have key : ∀ s d j, ∀ a_rightBottom : Nat → Int32, s + 9 ≤ 558 → j + d = 9 → wX_load__rightBottom_28 post (nI s) f_tokenCount f_latestPlace f_stepCount f_waitingCount f_stackCount f_factorCount (d + 1) (nI j) a_tokenKind a_tokenContent a_stepKind a_stepToken a_waitingKind a_waitingToken a_present a_cells a_leftTop a_leftBottom a_rightTop a_rightBottom a_top a_bottom a_product a_quotient a_common a_spare a_rest a_divisor a_inverse a_numerator a_factorDegrees a_factorPowers a_factorCells := by
    intro s d
    induction d with
    | zero =>
      intro j a_rightBottom hs hj
      obtain rfl : j = 9 := by omega
      exact br_t (by decide) (h _)
    | succ d ih =>
      intro j a_rightBottom hs hj
      exact br_f (nI_ge (b := 9) (by omega) (by decide)) ⟨pk_in (s + j) 558 (by omega) (nI_add s j), vp_in_nI (by omega) (by omega), nm_e (nm_r (nI_1 j) (ih (j + 1) _ hs (by omega)))⟩
  unfold wpX_load__rightBottom
  refine xl_setNumber__rightBottom (fun a_rightBottom => ?_)
  by_cases c0 : p0 < 0
  · exact br_t c0 (h _)
  · by_cases c1 : 31 ≤ p0
    · exact br_f c0 (br_t c1 (h _))
    · obtain ⟨s, hs, e⟩ := xl_st c0 c1 hp
      refine br_f c0 (br_f c1 (nm_r e ⟨10, key s 9 0 _ hs rfl⟩))
theorem xl_load__top {post : SX → Prop} {p0 p1 : Int32} (hp : p1 = 0 ∨ p1 = 1) (h : ∀ a_top : Nat → Int32, post (f_tokenCount, f_latestPlace, f_stepCount, f_waitingCount, f_stackCount, f_factorCount, a_tokenKind, a_tokenContent, a_stepKind, a_stepToken, a_waitingKind, a_waitingToken, a_present, a_cells, a_leftTop, a_leftBottom, a_rightTop, a_rightBottom, a_top, a_bottom, a_product, a_quotient, a_common, a_spare, a_rest, a_divisor, a_inverse, a_numerator, a_factorDegrees, a_factorPowers, a_factorCells)) : wpX_load__top post (f_tokenCount, f_latestPlace, f_stepCount, f_waitingCount, f_stackCount, f_factorCount, a_tokenKind, a_tokenContent, a_stepKind, a_stepToken, a_waitingKind, a_waitingToken, a_present, a_cells, a_leftTop, a_leftBottom, a_rightTop, a_rightBottom, a_top, a_bottom, a_product, a_quotient, a_common, a_spare, a_rest, a_divisor, a_inverse, a_numerator, a_factorDegrees, a_factorPowers, a_factorCells) p0 p1 := by
  have key : ∀ s d j, ∀ a_top : Nat → Int32, s + 9 ≤ 558 → j + d = 9 → wX_load__top_28 post (nI s) f_tokenCount f_latestPlace f_stepCount f_waitingCount f_stackCount f_factorCount (d + 1) (nI j) a_tokenKind a_tokenContent a_stepKind a_stepToken a_waitingKind a_waitingToken a_present a_cells a_leftTop a_leftBottom a_rightTop a_rightBottom a_top a_bottom a_product a_quotient a_common a_spare a_rest a_divisor a_inverse a_numerator a_factorDegrees a_factorPowers a_factorCells := by
    intro s d
    induction d with
    | zero =>
      intro j a_top hs hj
      obtain rfl : j = 9 := by omega
      exact br_t (by decide) (h _)
    | succ d ih =>
      intro j a_top hs hj
      exact br_f (nI_ge (b := 9) (by omega) (by decide)) ⟨pk_in (s + j) 558 (by omega) (nI_add s j), vp_in_nI (by omega) (by omega), nm_e (nm_r (nI_1 j) (ih (j + 1) _ hs (by omega)))⟩
  unfold wpX_load__top
  refine xl_setNumber__top (fun a_top => ?_)
  by_cases c0 : p0 < 0
  · exact br_t c0 (h _)
  · by_cases c1 : 31 ≤ p0
    · exact br_f c0 (br_t c1 (h _))
    · obtain ⟨s, hs, e⟩ := xl_st c0 c1 hp
      refine br_f c0 (br_f c1 (nm_r e ⟨10, key s 9 0 _ hs rfl⟩))
theorem xl_load__bottom {post : SX → Prop} {p0 p1 : Int32} (hp : p1 = 0 ∨ p1 = 1) (h : ∀ a_bottom : Nat → Int32, post (f_tokenCount, f_latestPlace, f_stepCount, f_waitingCount, f_stackCount, f_factorCount, a_tokenKind, a_tokenContent, a_stepKind, a_stepToken, a_waitingKind, a_waitingToken, a_present, a_cells, a_leftTop, a_leftBottom, a_rightTop, a_rightBottom, a_top, a_bottom, a_product, a_quotient, a_common, a_spare, a_rest, a_divisor, a_inverse, a_numerator, a_factorDegrees, a_factorPowers, a_factorCells)) : wpX_load__bottom post (f_tokenCount, f_latestPlace, f_stepCount, f_waitingCount, f_stackCount, f_factorCount, a_tokenKind, a_tokenContent, a_stepKind, a_stepToken, a_waitingKind, a_waitingToken, a_present, a_cells, a_leftTop, a_leftBottom, a_rightTop, a_rightBottom, a_top, a_bottom, a_product, a_quotient, a_common, a_spare, a_rest, a_divisor, a_inverse, a_numerator, a_factorDegrees, a_factorPowers, a_factorCells) p0 p1 := by
  have key : ∀ s d j, ∀ a_bottom : Nat → Int32, s + 9 ≤ 558 → j + d = 9 → wX_load__bottom_28 post (nI s) f_tokenCount f_latestPlace f_stepCount f_waitingCount f_stackCount f_factorCount (d + 1) (nI j) a_tokenKind a_tokenContent a_stepKind a_stepToken a_waitingKind a_waitingToken a_present a_cells a_leftTop a_leftBottom a_rightTop a_rightBottom a_top a_bottom a_product a_quotient a_common a_spare a_rest a_divisor a_inverse a_numerator a_factorDegrees a_factorPowers a_factorCells := by
    intro s d
    induction d with
    | zero =>
      intro j a_bottom hs hj
      obtain rfl : j = 9 := by omega
      exact br_t (by decide) (h _)
    | succ d ih =>
      intro j a_bottom hs hj
      exact br_f (nI_ge (b := 9) (by omega) (by decide)) ⟨pk_in (s + j) 558 (by omega) (nI_add s j), vp_in_nI (by omega) (by omega), nm_e (nm_r (nI_1 j) (ih (j + 1) _ hs (by omega)))⟩
  unfold wpX_load__bottom
  refine xl_setNumber__bottom (fun a_bottom => ?_)
  by_cases c0 : p0 < 0
  · exact br_t c0 (h _)
  · by_cases c1 : 31 ≤ p0
    · exact br_f c0 (br_t c1 (h _))
    · obtain ⟨s, hs, e⟩ := xl_st c0 c1 hp
      refine br_f c0 (br_f c1 (nm_r e ⟨10, key s 9 0 _ hs rfl⟩))
theorem xl_keep__top {post : SX → Prop} {p0 p1 : Int32} (hp : p1 = 0 ∨ p1 = 1) (h : ∀ a_cells : Nat → Int32, post (f_tokenCount, f_latestPlace, f_stepCount, f_waitingCount, f_stackCount, f_factorCount, a_tokenKind, a_tokenContent, a_stepKind, a_stepToken, a_waitingKind, a_waitingToken, a_present, a_cells, a_leftTop, a_leftBottom, a_rightTop, a_rightBottom, a_top, a_bottom, a_product, a_quotient, a_common, a_spare, a_rest, a_divisor, a_inverse, a_numerator, a_factorDegrees, a_factorPowers, a_factorCells)) : wpX_keep__top post (f_tokenCount, f_latestPlace, f_stepCount, f_waitingCount, f_stackCount, f_factorCount, a_tokenKind, a_tokenContent, a_stepKind, a_stepToken, a_waitingKind, a_waitingToken, a_present, a_cells, a_leftTop, a_leftBottom, a_rightTop, a_rightBottom, a_top, a_bottom, a_product, a_quotient, a_common, a_spare, a_rest, a_divisor, a_inverse, a_numerator, a_factorDegrees, a_factorPowers, a_factorCells) p0 p1 := by
  have key : ∀ s d j, ∀ a_cells : Nat → Int32, s + 9 ≤ 558 → j + d = 9 → wX_keep__top_23 post (nI s) f_tokenCount f_latestPlace f_stepCount f_waitingCount f_stackCount f_factorCount (d + 1) (nI j) a_tokenKind a_tokenContent a_stepKind a_stepToken a_waitingKind a_waitingToken a_present a_cells a_leftTop a_leftBottom a_rightTop a_rightBottom a_top a_bottom a_product a_quotient a_common a_spare a_rest a_divisor a_inverse a_numerator a_factorDegrees a_factorPowers a_factorCells := by
    intro s d
    induction d with
    | zero =>
      intro j a_cells hs hj
      obtain rfl : j = 9 := by omega
      exact br_t (by decide) (h _)
    | succ d ih =>
      intro j a_cells hs hj
      exact br_f (nI_ge (b := 9) (by omega) (by decide)) ⟨vp_in_nI (by omega) (by omega), pk_in (s + j) 558 (by omega) (nI_add s j), nm_e (nm_r (nI_1 j) (ih (j + 1) _ hs (by omega)))⟩
  unfold wpX_keep__top
  by_cases c0 : p0 < 0
  · exact br_t c0 (h _)
  · by_cases c1 : 31 ≤ p0
    · exact br_f c0 (br_t c1 (h _))
    · obtain ⟨s, hs, e⟩ := xl_st c0 c1 hp
      refine br_f c0 (br_f c1 (nm_r e ⟨10, key s 9 0 _ hs rfl⟩))
theorem xl_keep__bottom {post : SX → Prop} {p0 p1 : Int32} (hp : p1 = 0 ∨ p1 = 1) (h : ∀ a_cells : Nat → Int32, post (f_tokenCount, f_latestPlace, f_stepCount, f_waitingCount, f_stackCount, f_factorCount, a_tokenKind, a_tokenContent, a_stepKind, a_stepToken, a_waitingKind, a_waitingToken, a_present, a_cells, a_leftTop, a_leftBottom, a_rightTop, a_rightBottom, a_top, a_bottom, a_product, a_quotient, a_common, a_spare, a_rest, a_divisor, a_inverse, a_numerator, a_factorDegrees, a_factorPowers, a_factorCells)) : wpX_keep__bottom post (f_tokenCount, f_latestPlace, f_stepCount, f_waitingCount, f_stackCount, f_factorCount, a_tokenKind, a_tokenContent, a_stepKind, a_stepToken, a_waitingKind, a_waitingToken, a_present, a_cells, a_leftTop, a_leftBottom, a_rightTop, a_rightBottom, a_top, a_bottom, a_product, a_quotient, a_common, a_spare, a_rest, a_divisor, a_inverse, a_numerator, a_factorDegrees, a_factorPowers, a_factorCells) p0 p1 := by
  have key : ∀ s d j, ∀ a_cells : Nat → Int32, s + 9 ≤ 558 → j + d = 9 → wX_keep__bottom_23 post (nI s) f_tokenCount f_latestPlace f_stepCount f_waitingCount f_stackCount f_factorCount (d + 1) (nI j) a_tokenKind a_tokenContent a_stepKind a_stepToken a_waitingKind a_waitingToken a_present a_cells a_leftTop a_leftBottom a_rightTop a_rightBottom a_top a_bottom a_product a_quotient a_common a_spare a_rest a_divisor a_inverse a_numerator a_factorDegrees a_factorPowers a_factorCells := by
    intro s d
    induction d with
    | zero =>
      intro j a_cells hs hj
      obtain rfl : j = 9 := by omega
      exact br_t (by decide) (h _)
    | succ d ih =>
      intro j a_cells hs hj
      exact br_f (nI_ge (b := 9) (by omega) (by decide)) ⟨vp_in_nI (by omega) (by omega), pk_in (s + j) 558 (by omega) (nI_add s j), nm_e (nm_r (nI_1 j) (ih (j + 1) _ hs (by omega)))⟩
  unfold wpX_keep__bottom
  by_cases c0 : p0 < 0
  · exact br_t c0 (h _)
  · by_cases c1 : 31 ≤ p0
    · exact br_f c0 (br_t c1 (h _))
    · obtain ⟨s, hs, e⟩ := xl_st c0 c1 hp
      refine br_f c0 (br_f c1 (nm_r e ⟨10, key s 9 0 _ hs rfl⟩))
theorem xl_load__rest {post : SX → Prop} {p0 p1 : Int32} (hp : p1 = 0 ∨ p1 = 1) (h : ∀ a_rest : Nat → Int32, post (f_tokenCount, f_latestPlace, f_stepCount, f_waitingCount, f_stackCount, f_factorCount, a_tokenKind, a_tokenContent, a_stepKind, a_stepToken, a_waitingKind, a_waitingToken, a_present, a_cells, a_leftTop, a_leftBottom, a_rightTop, a_rightBottom, a_top, a_bottom, a_product, a_quotient, a_common, a_spare, a_rest, a_divisor, a_inverse, a_numerator, a_factorDegrees, a_factorPowers, a_factorCells)) : wpX_load__rest post (f_tokenCount, f_latestPlace, f_stepCount, f_waitingCount, f_stackCount, f_factorCount, a_tokenKind, a_tokenContent, a_stepKind, a_stepToken, a_waitingKind, a_waitingToken, a_present, a_cells, a_leftTop, a_leftBottom, a_rightTop, a_rightBottom, a_top, a_bottom, a_product, a_quotient, a_common, a_spare, a_rest, a_divisor, a_inverse, a_numerator, a_factorDegrees, a_factorPowers, a_factorCells) p0 p1 := by
  have key : ∀ s d j, ∀ a_rest : Nat → Int32, s + 9 ≤ 558 → j + d = 9 → wX_load__rest_28 post (nI s) f_tokenCount f_latestPlace f_stepCount f_waitingCount f_stackCount f_factorCount (d + 1) (nI j) a_tokenKind a_tokenContent a_stepKind a_stepToken a_waitingKind a_waitingToken a_present a_cells a_leftTop a_leftBottom a_rightTop a_rightBottom a_top a_bottom a_product a_quotient a_common a_spare a_rest a_divisor a_inverse a_numerator a_factorDegrees a_factorPowers a_factorCells := by
    intro s d
    induction d with
    | zero =>
      intro j a_rest hs hj
      obtain rfl : j = 9 := by omega
      exact br_t (by decide) (h _)
    | succ d ih =>
      intro j a_rest hs hj
      exact br_f (nI_ge (b := 9) (by omega) (by decide)) ⟨pk_in (s + j) 558 (by omega) (nI_add s j), vp_in_nI (by omega) (by omega), nm_e (nm_r (nI_1 j) (ih (j + 1) _ hs (by omega)))⟩
  unfold wpX_load__rest
  refine xl_setNumber__rest (fun a_rest => ?_)
  by_cases c0 : p0 < 0
  · exact br_t c0 (h _)
  · by_cases c1 : 31 ≤ p0
    · exact br_f c0 (br_t c1 (h _))
    · obtain ⟨s, hs, e⟩ := xl_st c0 c1 hp
      refine br_f c0 (br_f c1 (nm_r e ⟨10, key s 9 0 _ hs rfl⟩))
end
