/-! The class's leaves: they end, whatever the arrays hold (written by wip/p2/gen_x.py) -/
section
variable {f_tokenCount f_latestPlace f_stepCount f_waitingCount f_stackCount f_factorCount : Int32} {a_tokenKind a_tokenContent a_stepKind a_stepToken a_waitingKind a_waitingToken a_present a_cells a_leftTop a_leftBottom a_rightTop a_rightBottom a_top a_bottom a_product a_quotient a_common a_spare a_rest a_divisor a_inverse a_numerator a_factorDegrees a_factorPowers a_factorCells : Nat → Int32}
theorem xl_sizeOf__leftTop_leftBottom {post : Int32 → Prop} (h : ∀ r : Int32, (r = -1 ∨ ∃ k, k < 17 ∧ r = nI k) → post r) : wpX_sizeOf__leftTop_leftBottom post (f_tokenCount, f_latestPlace, f_stepCount, f_waitingCount, f_stackCount, f_factorCount, a_tokenKind, a_tokenContent, a_stepKind, a_stepToken, a_waitingKind, a_waitingToken, a_present, a_cells, a_leftTop, a_leftBottom, a_rightTop, a_rightBottom, a_top, a_bottom, a_product, a_quotient, a_common, a_spare, a_rest, a_divisor, a_inverse, a_numerator, a_factorDegrees, a_factorPowers, a_factorCells) := by
  unfold wpX_sizeOf__leftTop_leftBottom
  exact xl_degreeOf__leftTop (fun r1 h1 => xl_degreeOf__leftBottom (fun r2 h2 => br_c (fun _ => h r2 h2) (fun _ => h r1 h1)))
theorem xl_sizeOf__rightTop_rightBottom {post : Int32 → Prop} (h : ∀ r : Int32, (r = -1 ∨ ∃ k, k < 17 ∧ r = nI k) → post r) : wpX_sizeOf__rightTop_rightBottom post (f_tokenCount, f_latestPlace, f_stepCount, f_waitingCount, f_stackCount, f_factorCount, a_tokenKind, a_tokenContent, a_stepKind, a_stepToken, a_waitingKind, a_waitingToken, a_present, a_cells, a_leftTop, a_leftBottom, a_rightTop, a_rightBottom, a_top, a_bottom, a_product, a_quotient, a_common, a_spare, a_rest, a_divisor, a_inverse, a_numerator, a_factorDegrees, a_factorPowers, a_factorCells) := by
  unfold wpX_sizeOf__rightTop_rightBottom
  exact xl_degreeOf__rightTop (fun r1 h1 => xl_degreeOf__rightBottom (fun r2 h2 => br_c (fun _ => h r2 h2) (fun _ => h r1 h1)))
theorem xl_divide__common_spare_quotient {post : SX → Prop} {p : Int32} (h : ∀ a_common a_quotient : Nat → Int32, post (f_tokenCount, f_latestPlace, f_stepCount, f_waitingCount, f_stackCount, f_factorCount, a_tokenKind, a_tokenContent, a_stepKind, a_stepToken, a_waitingKind, a_waitingToken, a_present, a_cells, a_leftTop, a_leftBottom, a_rightTop, a_rightBottom, a_top, a_bottom, a_product, a_quotient, a_common, a_spare, a_rest, a_divisor, a_inverse, a_numerator, a_factorDegrees, a_factorPowers, a_factorCells)) : wpX_divide__common_spare_quotient post (f_tokenCount, f_latestPlace, f_stepCount, f_waitingCount, f_stackCount, f_factorCount, a_tokenKind, a_tokenContent, a_stepKind, a_stepToken, a_waitingKind, a_waitingToken, a_present, a_cells, a_leftTop, a_leftBottom, a_rightTop, a_rightBottom, a_top, a_bottom, a_product, a_quotient, a_common, a_spare, a_rest, a_divisor, a_inverse, a_numerator, a_factorDegrees, a_factorPowers, a_factorCells) p := by
  have inner : ∀ (J : Int32 → (Nat → Int32) → (Nat → Int32) → (Nat → Int32) → (Nat → Int32) → (Nat → Int32) → (Nat → Int32) → (Nat → Int32) → (Nat → Int32) → (Nat → Int32) → (Nat → Int32) → (Nat → Int32) → (Nat → Int32) → (Nat → Int32) → (Nat → Int32) → (Nat → Int32) → (Nat → Int32) → (Nat → Int32) → (Nat → Int32) → (Nat → Int32) → (Nat → Int32) → (Nat → Int32) → (Nat → Int32) → (Nat → Int32) → (Nat → Int32) → (Nat → Int32) → Prop) (x4 x6 : Int32) (e d : Nat), e + d < 17 → (∀ a_common a_quotient : Nat → Int32, J (nI e + (-1)) a_tokenKind a_tokenContent a_stepKind a_stepToken a_waitingKind a_waitingToken a_present a_cells a_leftTop a_leftBottom a_rightTop a_rightBottom a_top a_bottom a_product a_quotient a_common a_spare a_rest a_divisor a_inverse a_numerator a_factorDegrees a_factorPowers a_factorCells) → ∀ m k, ∀ a_common a_quotient : Nat → Int32, k + m = d + 1 → wX_divide__common_spare_quotient_57 post J (nI d) x4 (nI e) x6 f_tokenCount f_latestPlace f_stepCount f_waitingCount f_stackCount f_factorCount (m + 1) (nI k) a_tokenKind a_tokenContent a_stepKind a_stepToken a_waitingKind a_waitingToken a_present a_cells a_leftTop a_leftBottom a_rightTop a_rightBottom a_top a_bottom a_product a_quotient a_common a_spare a_rest a_divisor a_inverse a_numerator a_factorDegrees a_factorPowers a_factorCells := by
    intro J x4 x6 e d hed hJ m
    induction m with
    | zero =>
      intro k a_common a_quotient hk
      exact br_t (nI_lt (by omega) (by omega)) (nm_e (hJ _ _))
    | succ m ih =>
      intro k a_common a_quotient hk
      have i1 := pk_in (x := nI e + nI k) (e + k) 17 (by omega) (nI_add e k)
      exact br_f (nI_nlt (by omega) (by omega)) ⟨i1, vp_in_nI (by omega) (by omega), by decide, i1, nm_e (nm_r (nI_1 k) (ih (k + 1) _ _ (by omega)))⟩
  have key : ∀ (x4 : Int32) (d : Nat), d < 17 → ∀ j n, ∀ a_common a_quotient : Nat → Int32, j + d ≤ 17 → j < n → wX_divide__common_spare_quotient_30 post (nI d) x4 f_tokenCount f_latestPlace f_stepCount f_waitingCount f_stackCount f_factorCount n (nI j + (-1)) a_tokenKind a_tokenContent a_stepKind a_stepToken a_waitingKind a_waitingToken a_present a_cells a_leftTop a_leftBottom a_rightTop a_rightBottom a_top a_bottom a_product a_quotient a_common a_spare a_rest a_divisor a_inverse a_numerator a_factorDegrees a_factorPowers a_factorCells := by
    intro x4 d hd j
    induction j with
    | zero =>
      intro n a_common a_quotient _ hn
      obtain ⟨n, rfl⟩ : ∃ m, n = m + 1 := ⟨n - 1, by omega⟩
      have e0 : nI 0 + (-1) = -1 := by decide
      rw [e0]
      exact br_t (by decide) (h _ _)
    | succ j ih =>
      intro n a_common a_quotient hj hn
      obtain ⟨n, rfl⟩ : ∃ m, n = m + 1 := ⟨n - 1, by omega⟩
      rw [pk_m1]
      exact br_f (nI_pos (by omega)) ⟨pk_in (j + d) 17 (by omega) (nI_add j d), by decide, nm_e ⟨vp_in_nI (by omega) (by omega), nm_e ⟨d + 2, inner _ x4 _ j d (by omega) (fun a_common a_quotient => ih n _ _ (by omega) (by omega)) (d + 1) 0 _ _ (by omega)⟩⟩⟩
  unfold wpX_divide__common_spare_quotient
  refine xl_setNumber__quotient (fun a_quotient => ?_)
  by_cases c0 : p < 0
  · exact br_t c0 (h _ _)
  · by_cases c1 : p < 17
    · obtain ⟨d, hd, rfl⟩ := nI_of c0
      have hd17 : d < 17 := (nI_ltI (b := 17) hd (by omega)).mp c1
      have e16 : (16 : Int32) - nI d = nI (17 - d) + (-1) := by
        have e1 : 17 - d = (16 - d) + 1 := by omega
        rw [e1, pk_m1]; exact pk_sub (a := 16) (by omega)
      exact br_f c0 (br_t c1 ⟨vp_in_nI hd17 (by omega), by decide, nm_r e16 ⟨18 - d, key _ d hd17 (17 - d) (18 - d) _ _ (by omega) (by omega)⟩⟩)
    · exact br_f c0 (br_f c1 (h _ _))
theorem xl_divide__top_common_quotient {post : SX → Prop} {p : Int32} (h : ∀ a_top a_quotient : Nat → Int32, post (f_tokenCount, f_latestPlace, f_stepCount, f_waitingCount, f_stackCount, f_factorCount, a_tokenKind, a_tokenContent, a_stepKind, a_stepToken, a_waitingKind, a_waitingToken, a_present, a_cells, a_leftTop, a_leftBottom, a_rightTop, a_rightBottom, a_top, a_bottom, a_product, a_quotient, a_common, a_spare, a_rest, a_divisor, a_inverse, a_numerator, a_factorDegrees, a_factorPowers, a_factorCells)) : wpX_divide__top_common_quotient post (f_tokenCount, f_latestPlace, f_stepCount, f_waitingCount, f_stackCount, f_factorCount, a_tokenKind, a_tokenContent, a_stepKind, a_stepToken, a_waitingKind, a_waitingToken, a_present, a_cells, a_leftTop, a_leftBottom, a_rightTop, a_rightBottom, a_top, a_bottom, a_product, a_quotient, a_common, a_spare, a_rest, a_divisor, a_inverse, a_numerator, a_factorDegrees, a_factorPowers, a_factorCells) p := by
  have inner : ∀ (J : Int32 → (Nat → Int32) → (Nat → Int32) → (Nat → Int32) → (Nat → Int32) → (Nat → Int32) → (Nat → Int32) → (Nat → Int32) → (Nat → Int32) → (Nat → Int32) → (Nat → Int32) → (Nat → Int32) → (Nat → Int32) → (Nat → Int32) → (Nat → Int32) → (Nat → Int32) → (Nat → Int32) → (Nat → Int32) → (Nat → Int32) → (Nat → Int32) → (Nat → Int32) → (Nat → Int32) → (Nat → Int32) → (Nat → Int32) → (Nat → Int32) → (Nat → Int32) → Prop) (x4 x6 : Int32) (e d : Nat), e + d < 17 → (∀ a_top a_quotient : Nat → Int32, J (nI e + (-1)) a_tokenKind a_tokenContent a_stepKind a_stepToken a_waitingKind a_waitingToken a_present a_cells a_leftTop a_leftBottom a_rightTop a_rightBottom a_top a_bottom a_product a_quotient a_common a_spare a_rest a_divisor a_inverse a_numerator a_factorDegrees a_factorPowers a_factorCells) → ∀ m k, ∀ a_top a_quotient : Nat → Int32, k + m = d + 1 → wX_divide__top_common_quotient_57 post J (nI d) x4 (nI e) x6 f_tokenCount f_latestPlace f_stepCount f_waitingCount f_stackCount f_factorCount (m + 1) (nI k) a_tokenKind a_tokenContent a_stepKind a_stepToken a_waitingKind a_waitingToken a_present a_cells a_leftTop a_leftBottom a_rightTop a_rightBottom a_top a_bottom a_product a_quotient a_common a_spare a_rest a_divisor a_inverse a_numerator a_factorDegrees a_factorPowers a_factorCells := by
    intro J x4 x6 e d hed hJ m
    induction m with
    | zero =>
      intro k a_top a_quotient hk
      exact br_t (nI_lt (by omega) (by omega)) (nm_e (hJ _ _))
    | succ m ih =>
      intro k a_top a_quotient hk
      have i1 := pk_in (x := nI e + nI k) (e + k) 17 (by omega) (nI_add e k)
      exact br_f (nI_nlt (by omega) (by omega)) ⟨i1, vp_in_nI (by omega) (by omega), by decide, i1, nm_e (nm_r (nI_1 k) (ih (k + 1) _ _ (by omega)))⟩
  have key : ∀ (x4 : Int32) (d : Nat), d < 17 → ∀ j n, ∀ a_top a_quotient : Nat → Int32, j + d ≤ 17 → j < n → wX_divide__top_common_quotient_30 post (nI d) x4 f_tokenCount f_latestPlace f_stepCount f_waitingCount f_stackCount f_factorCount n (nI j + (-1)) a_tokenKind a_tokenContent a_stepKind a_stepToken a_waitingKind a_waitingToken a_present a_cells a_leftTop a_leftBottom a_rightTop a_rightBottom a_top a_bottom a_product a_quotient a_common a_spare a_rest a_divisor a_inverse a_numerator a_factorDegrees a_factorPowers a_factorCells := by
    intro x4 d hd j
    induction j with
    | zero =>
      intro n a_top a_quotient _ hn
      obtain ⟨n, rfl⟩ : ∃ m, n = m + 1 := ⟨n - 1, by omega⟩
      have e0 : nI 0 + (-1) = -1 := by decide
      rw [e0]
      exact br_t (by decide) (h _ _)
    | succ j ih =>
      intro n a_top a_quotient hj hn
      obtain ⟨n, rfl⟩ : ∃ m, n = m + 1 := ⟨n - 1, by omega⟩
      rw [pk_m1]
      exact br_f (nI_pos (by omega)) ⟨pk_in (j + d) 17 (by omega) (nI_add j d), by decide, nm_e ⟨vp_in_nI (by omega) (by omega), nm_e ⟨d + 2, inner _ x4 _ j d (by omega) (fun a_top a_quotient => ih n _ _ (by omega) (by omega)) (d + 1) 0 _ _ (by omega)⟩⟩⟩
  unfold wpX_divide__top_common_quotient
  refine xl_setNumber__quotient (fun a_quotient => ?_)
  by_cases c0 : p < 0
  · exact br_t c0 (h _ _)
  · by_cases c1 : p < 17
    · obtain ⟨d, hd, rfl⟩ := nI_of c0
      have hd17 : d < 17 := (nI_ltI (b := 17) hd (by omega)).mp c1
      have e16 : (16 : Int32) - nI d = nI (17 - d) + (-1) := by
        have e1 : 17 - d = (16 - d) + 1 := by omega
        rw [e1, pk_m1]; exact pk_sub (a := 16) (by omega)
      exact br_f c0 (br_t c1 ⟨vp_in_nI hd17 (by omega), by decide, nm_r e16 ⟨18 - d, key _ d hd17 (17 - d) (18 - d) _ _ (by omega) (by omega)⟩⟩)
    · exact br_f c0 (br_f c1 (h _ _))
theorem xl_divide__bottom_common_quotient {post : SX → Prop} {p : Int32} (h : ∀ a_bottom a_quotient : Nat → Int32, post (f_tokenCount, f_latestPlace, f_stepCount, f_waitingCount, f_stackCount, f_factorCount, a_tokenKind, a_tokenContent, a_stepKind, a_stepToken, a_waitingKind, a_waitingToken, a_present, a_cells, a_leftTop, a_leftBottom, a_rightTop, a_rightBottom, a_top, a_bottom, a_product, a_quotient, a_common, a_spare, a_rest, a_divisor, a_inverse, a_numerator, a_factorDegrees, a_factorPowers, a_factorCells)) : wpX_divide__bottom_common_quotient post (f_tokenCount, f_latestPlace, f_stepCount, f_waitingCount, f_stackCount, f_factorCount, a_tokenKind, a_tokenContent, a_stepKind, a_stepToken, a_waitingKind, a_waitingToken, a_present, a_cells, a_leftTop, a_leftBottom, a_rightTop, a_rightBottom, a_top, a_bottom, a_product, a_quotient, a_common, a_spare, a_rest, a_divisor, a_inverse, a_numerator, a_factorDegrees, a_factorPowers, a_factorCells) p := by
  have inner : ∀ (J : Int32 → (Nat → Int32) → (Nat → Int32) → (Nat → Int32) → (Nat → Int32) → (Nat → Int32) → (Nat → Int32) → (Nat → Int32) → (Nat → Int32) → (Nat → Int32) → (Nat → Int32) → (Nat → Int32) → (Nat → Int32) → (Nat → Int32) → (Nat → Int32) → (Nat → Int32) → (Nat → Int32) → (Nat → Int32) → (Nat → Int32) → (Nat → Int32) → (Nat → Int32) → (Nat → Int32) → (Nat → Int32) → (Nat → Int32) → (Nat → Int32) → (Nat → Int32) → Prop) (x4 x6 : Int32) (e d : Nat), e + d < 17 → (∀ a_bottom a_quotient : Nat → Int32, J (nI e + (-1)) a_tokenKind a_tokenContent a_stepKind a_stepToken a_waitingKind a_waitingToken a_present a_cells a_leftTop a_leftBottom a_rightTop a_rightBottom a_top a_bottom a_product a_quotient a_common a_spare a_rest a_divisor a_inverse a_numerator a_factorDegrees a_factorPowers a_factorCells) → ∀ m k, ∀ a_bottom a_quotient : Nat → Int32, k + m = d + 1 → wX_divide__bottom_common_quotient_57 post J (nI d) x4 (nI e) x6 f_tokenCount f_latestPlace f_stepCount f_waitingCount f_stackCount f_factorCount (m + 1) (nI k) a_tokenKind a_tokenContent a_stepKind a_stepToken a_waitingKind a_waitingToken a_present a_cells a_leftTop a_leftBottom a_rightTop a_rightBottom a_top a_bottom a_product a_quotient a_common a_spare a_rest a_divisor a_inverse a_numerator a_factorDegrees a_factorPowers a_factorCells := by
    intro J x4 x6 e d hed hJ m
    induction m with
    | zero =>
      intro k a_bottom a_quotient hk
      exact br_t (nI_lt (by omega) (by omega)) (nm_e (hJ _ _))
    | succ m ih =>
      intro k a_bottom a_quotient hk
      have i1 := pk_in (x := nI e + nI k) (e + k) 17 (by omega) (nI_add e k)
      exact br_f (nI_nlt (by omega) (by omega)) ⟨i1, vp_in_nI (by omega) (by omega), by decide, i1, nm_e (nm_r (nI_1 k) (ih (k + 1) _ _ (by omega)))⟩
  have key : ∀ (x4 : Int32) (d : Nat), d < 17 → ∀ j n, ∀ a_bottom a_quotient : Nat → Int32, j + d ≤ 17 → j < n → wX_divide__bottom_common_quotient_30 post (nI d) x4 f_tokenCount f_latestPlace f_stepCount f_waitingCount f_stackCount f_factorCount n (nI j + (-1)) a_tokenKind a_tokenContent a_stepKind a_stepToken a_waitingKind a_waitingToken a_present a_cells a_leftTop a_leftBottom a_rightTop a_rightBottom a_top a_bottom a_product a_quotient a_common a_spare a_rest a_divisor a_inverse a_numerator a_factorDegrees a_factorPowers a_factorCells := by
    intro x4 d hd j
    induction j with
    | zero =>
      intro n a_bottom a_quotient _ hn
      obtain ⟨n, rfl⟩ : ∃ m, n = m + 1 := ⟨n - 1, by omega⟩
      have e0 : nI 0 + (-1) = -1 := by decide
      rw [e0]
      exact br_t (by decide) (h _ _)
    | succ j ih =>
      intro n a_bottom a_quotient hj hn
      obtain ⟨n, rfl⟩ : ∃ m, n = m + 1 := ⟨n - 1, by omega⟩
      rw [pk_m1]
      exact br_f (nI_pos (by omega)) ⟨pk_in (j + d) 17 (by omega) (nI_add j d), by decide, nm_e ⟨vp_in_nI (by omega) (by omega), nm_e ⟨d + 2, inner _ x4 _ j d (by omega) (fun a_bottom a_quotient => ih n _ _ (by omega) (by omega)) (d + 1) 0 _ _ (by omega)⟩⟩⟩
  unfold wpX_divide__bottom_common_quotient
  refine xl_setNumber__quotient (fun a_quotient => ?_)
  by_cases c0 : p < 0
  · exact br_t c0 (h _ _)
  · by_cases c1 : p < 17
    · obtain ⟨d, hd, rfl⟩ := nI_of c0
      have hd17 : d < 17 := (nI_ltI (b := 17) hd (by omega)).mp c1
      have e16 : (16 : Int32) - nI d = nI (17 - d) + (-1) := by
        have e1 : 17 - d = (16 - d) + 1 := by omega
        rw [e1, pk_m1]; exact pk_sub (a := 16) (by omega)
      exact br_f c0 (br_t c1 ⟨vp_in_nI hd17 (by omega), by decide, nm_r e16 ⟨18 - d, key _ d hd17 (17 - d) (18 - d) _ _ (by omega) (by omega)⟩⟩)
    · exact br_f c0 (br_f c1 (h _ _))
theorem xl_sizeOf__top_bottom {post : Int32 → Prop} (h : ∀ r : Int32, (r = -1 ∨ ∃ k, k < 17 ∧ r = nI k) → post r) : wpX_sizeOf__top_bottom post (f_tokenCount, f_latestPlace, f_stepCount, f_waitingCount, f_stackCount, f_factorCount, a_tokenKind, a_tokenContent, a_stepKind, a_stepToken, a_waitingKind, a_waitingToken, a_present, a_cells, a_leftTop, a_leftBottom, a_rightTop, a_rightBottom, a_top, a_bottom, a_product, a_quotient, a_common, a_spare, a_rest, a_divisor, a_inverse, a_numerator, a_factorDegrees, a_factorPowers, a_factorCells) := by
  unfold wpX_sizeOf__top_bottom
  exact xl_degreeOf__top (fun r1 h1 => xl_degreeOf__bottom (fun r2 h2 => br_c (fun _ => h r2 h2) (fun _ => h r1 h1)))
theorem xl_divide__spare_divisor_quotient {post : SX → Prop} {p : Int32} (h : ∀ a_spare a_quotient : Nat → Int32, post (f_tokenCount, f_latestPlace, f_stepCount, f_waitingCount, f_stackCount, f_factorCount, a_tokenKind, a_tokenContent, a_stepKind, a_stepToken, a_waitingKind, a_waitingToken, a_present, a_cells, a_leftTop, a_leftBottom, a_rightTop, a_rightBottom, a_top, a_bottom, a_product, a_quotient, a_common, a_spare, a_rest, a_divisor, a_inverse, a_numerator, a_factorDegrees, a_factorPowers, a_factorCells)) : wpX_divide__spare_divisor_quotient post (f_tokenCount, f_latestPlace, f_stepCount, f_waitingCount, f_stackCount, f_factorCount, a_tokenKind, a_tokenContent, a_stepKind, a_stepToken, a_waitingKind, a_waitingToken, a_present, a_cells, a_leftTop, a_leftBottom, a_rightTop, a_rightBottom, a_top, a_bottom, a_product, a_quotient, a_common, a_spare, a_rest, a_divisor, a_inverse, a_numerator, a_factorDegrees, a_factorPowers, a_factorCells) p := by
  have inner : ∀ (J : Int32 → (Nat → Int32) → (Nat → Int32) → (Nat → Int32) → (Nat → Int32) → (Nat → Int32) → (Nat → Int32) → (Nat → Int32) → (Nat → Int32) → (Nat → Int32) → (Nat → Int32) → (Nat → Int32) → (Nat → Int32) → (Nat → Int32) → (Nat → Int32) → (Nat → Int32) → (Nat → Int32) → (Nat → Int32) → (Nat → Int32) → (Nat → Int32) → (Nat → Int32) → (Nat → Int32) → (Nat → Int32) → (Nat → Int32) → (Nat → Int32) → (Nat → Int32) → Prop) (x4 x6 : Int32) (e d : Nat), e + d < 17 → (∀ a_spare a_quotient : Nat → Int32, J (nI e + (-1)) a_tokenKind a_tokenContent a_stepKind a_stepToken a_waitingKind a_waitingToken a_present a_cells a_leftTop a_leftBottom a_rightTop a_rightBottom a_top a_bottom a_product a_quotient a_common a_spare a_rest a_divisor a_inverse a_numerator a_factorDegrees a_factorPowers a_factorCells) → ∀ m k, ∀ a_spare a_quotient : Nat → Int32, k + m = d + 1 → wX_divide__spare_divisor_quotient_57 post J (nI d) x4 (nI e) x6 f_tokenCount f_latestPlace f_stepCount f_waitingCount f_stackCount f_factorCount (m + 1) (nI k) a_tokenKind a_tokenContent a_stepKind a_stepToken a_waitingKind a_waitingToken a_present a_cells a_leftTop a_leftBottom a_rightTop a_rightBottom a_top a_bottom a_product a_quotient a_common a_spare a_rest a_divisor a_inverse a_numerator a_factorDegrees a_factorPowers a_factorCells := by
    intro J x4 x6 e d hed hJ m
    induction m with
    | zero =>
      intro k a_spare a_quotient hk
      exact br_t (nI_lt (by omega) (by omega)) (nm_e (hJ _ _))
    | succ m ih =>
      intro k a_spare a_quotient hk
      have i1 := pk_in (x := nI e + nI k) (e + k) 17 (by omega) (nI_add e k)
      exact br_f (nI_nlt (by omega) (by omega)) ⟨i1, vp_in_nI (by omega) (by omega), by decide, i1, nm_e (nm_r (nI_1 k) (ih (k + 1) _ _ (by omega)))⟩
  have key : ∀ (x4 : Int32) (d : Nat), d < 17 → ∀ j n, ∀ a_spare a_quotient : Nat → Int32, j + d ≤ 17 → j < n → wX_divide__spare_divisor_quotient_30 post (nI d) x4 f_tokenCount f_latestPlace f_stepCount f_waitingCount f_stackCount f_factorCount n (nI j + (-1)) a_tokenKind a_tokenContent a_stepKind a_stepToken a_waitingKind a_waitingToken a_present a_cells a_leftTop a_leftBottom a_rightTop a_rightBottom a_top a_bottom a_product a_quotient a_common a_spare a_rest a_divisor a_inverse a_numerator a_factorDegrees a_factorPowers a_factorCells := by
    intro x4 d hd j
    induction j with
    | zero =>
      intro n a_spare a_quotient _ hn
      obtain ⟨n, rfl⟩ : ∃ m, n = m + 1 := ⟨n - 1, by omega⟩
      have e0 : nI 0 + (-1) = -1 := by decide
      rw [e0]
      exact br_t (by decide) (h _ _)
    | succ j ih =>
      intro n a_spare a_quotient hj hn
      obtain ⟨n, rfl⟩ : ∃ m, n = m + 1 := ⟨n - 1, by omega⟩
      rw [pk_m1]
      exact br_f (nI_pos (by omega)) ⟨pk_in (j + d) 17 (by omega) (nI_add j d), by decide, nm_e ⟨vp_in_nI (by omega) (by omega), nm_e ⟨d + 2, inner _ x4 _ j d (by omega) (fun a_spare a_quotient => ih n _ _ (by omega) (by omega)) (d + 1) 0 _ _ (by omega)⟩⟩⟩
  unfold wpX_divide__spare_divisor_quotient
  refine xl_setNumber__quotient (fun a_quotient => ?_)
  by_cases c0 : p < 0
  · exact br_t c0 (h _ _)
  · by_cases c1 : p < 17
    · obtain ⟨d, hd, rfl⟩ := nI_of c0
      have hd17 : d < 17 := (nI_ltI (b := 17) hd (by omega)).mp c1
      have e16 : (16 : Int32) - nI d = nI (17 - d) + (-1) := by
        have e1 : 17 - d = (16 - d) + 1 := by omega
        rw [e1, pk_m1]; exact pk_sub (a := 16) (by omega)
      exact br_f c0 (br_t c1 ⟨vp_in_nI hd17 (by omega), by decide, nm_r e16 ⟨18 - d, key _ d hd17 (17 - d) (18 - d) _ _ (by omega) (by omega)⟩⟩)
    · exact br_f c0 (br_f c1 (h _ _))
theorem xl_divide__leftTop_leftBottom_quotient {post : SX → Prop} {p : Int32} (h : ∀ a_leftTop a_quotient : Nat → Int32, post (f_tokenCount, f_latestPlace, f_stepCount, f_waitingCount, f_stackCount, f_factorCount, a_tokenKind, a_tokenContent, a_stepKind, a_stepToken, a_waitingKind, a_waitingToken, a_present, a_cells, a_leftTop, a_leftBottom, a_rightTop, a_rightBottom, a_top, a_bottom, a_product, a_quotient, a_common, a_spare, a_rest, a_divisor, a_inverse, a_numerator, a_factorDegrees, a_factorPowers, a_factorCells)) : wpX_divide__leftTop_leftBottom_quotient post (f_tokenCount, f_latestPlace, f_stepCount, f_waitingCount, f_stackCount, f_factorCount, a_tokenKind, a_tokenContent, a_stepKind, a_stepToken, a_waitingKind, a_waitingToken, a_present, a_cells, a_leftTop, a_leftBottom, a_rightTop, a_rightBottom, a_top, a_bottom, a_product, a_quotient, a_common, a_spare, a_rest, a_divisor, a_inverse, a_numerator, a_factorDegrees, a_factorPowers, a_factorCells) p := by
  have inner : ∀ (J : Int32 → (Nat → Int32) → (Nat → Int32) → (Nat → Int32) → (Nat → Int32) → (Nat → Int32) → (Nat → Int32) → (Nat → Int32) → (Nat → Int32) → (Nat → Int32) → (Nat → Int32) → (Nat → Int32) → (Nat → Int32) → (Nat → Int32) → (Nat → Int32) → (Nat → Int32) → (Nat → Int32) → (Nat → Int32) → (Nat → Int32) → (Nat → Int32) → (Nat → Int32) → (Nat → Int32) → (Nat → Int32) → (Nat → Int32) → (Nat → Int32) → (Nat → Int32) → Prop) (x4 x6 : Int32) (e d : Nat), e + d < 17 → (∀ a_leftTop a_quotient : Nat → Int32, J (nI e + (-1)) a_tokenKind a_tokenContent a_stepKind a_stepToken a_waitingKind a_waitingToken a_present a_cells a_leftTop a_leftBottom a_rightTop a_rightBottom a_top a_bottom a_product a_quotient a_common a_spare a_rest a_divisor a_inverse a_numerator a_factorDegrees a_factorPowers a_factorCells) → ∀ m k, ∀ a_leftTop a_quotient : Nat → Int32, k + m = d + 1 → wX_divide__leftTop_leftBottom_quotient_57 post J (nI d) x4 (nI e) x6 f_tokenCount f_latestPlace f_stepCount f_waitingCount f_stackCount f_factorCount (m + 1) (nI k) a_tokenKind a_tokenContent a_stepKind a_stepToken a_waitingKind a_waitingToken a_present a_cells a_leftTop a_leftBottom a_rightTop a_rightBottom a_top a_bottom a_product a_quotient a_common a_spare a_rest a_divisor a_inverse a_numerator a_factorDegrees a_factorPowers a_factorCells := by
    intro J x4 x6 e d hed hJ m
    induction m with
    | zero =>
      intro k a_leftTop a_quotient hk
      exact br_t (nI_lt (by omega) (by omega)) (nm_e (hJ _ _))
    | succ m ih =>
      intro k a_leftTop a_quotient hk
      have i1 := pk_in (x := nI e + nI k) (e + k) 17 (by omega) (nI_add e k)
      exact br_f (nI_nlt (by omega) (by omega)) ⟨i1, vp_in_nI (by omega) (by omega), by decide, i1, nm_e (nm_r (nI_1 k) (ih (k + 1) _ _ (by omega)))⟩
  have key : ∀ (x4 : Int32) (d : Nat), d < 17 → ∀ j n, ∀ a_leftTop a_quotient : Nat → Int32, j + d ≤ 17 → j < n → wX_divide__leftTop_leftBottom_quotient_30 post (nI d) x4 f_tokenCount f_latestPlace f_stepCount f_waitingCount f_stackCount f_factorCount n (nI j + (-1)) a_tokenKind a_tokenContent a_stepKind a_stepToken a_waitingKind a_waitingToken a_present a_cells a_leftTop a_leftBottom a_rightTop a_rightBottom a_top a_bottom a_product a_quotient a_common a_spare a_rest a_divisor a_inverse a_numerator a_factorDegrees a_factorPowers a_factorCells := by
    intro x4 d hd j
    induction j with
    | zero =>
      intro n a_leftTop a_quotient _ hn
      obtain ⟨n, rfl⟩ : ∃ m, n = m + 1 := ⟨n - 1, by omega⟩
      have e0 : nI 0 + (-1) = -1 := by decide
      rw [e0]
      exact br_t (by decide) (h _ _)
    | succ j ih =>
      intro n a_leftTop a_quotient hj hn
      obtain ⟨n, rfl⟩ : ∃ m, n = m + 1 := ⟨n - 1, by omega⟩
      rw [pk_m1]
      exact br_f (nI_pos (by omega)) ⟨pk_in (j + d) 17 (by omega) (nI_add j d), by decide, nm_e ⟨vp_in_nI (by omega) (by omega), nm_e ⟨d + 2, inner _ x4 _ j d (by omega) (fun a_leftTop a_quotient => ih n _ _ (by omega) (by omega)) (d + 1) 0 _ _ (by omega)⟩⟩⟩
  unfold wpX_divide__leftTop_leftBottom_quotient
  refine xl_setNumber__quotient (fun a_quotient => ?_)
  by_cases c0 : p < 0
  · exact br_t c0 (h _ _)
  · by_cases c1 : p < 17
    · obtain ⟨d, hd, rfl⟩ := nI_of c0
      have hd17 : d < 17 := (nI_ltI (b := 17) hd (by omega)).mp c1
      have e16 : (16 : Int32) - nI d = nI (17 - d) + (-1) := by
        have e1 : 17 - d = (16 - d) + 1 := by omega
        rw [e1, pk_m1]; exact pk_sub (a := 16) (by omega)
      exact br_f c0 (br_t c1 ⟨vp_in_nI hd17 (by omega), by decide, nm_r e16 ⟨18 - d, key _ d hd17 (17 - d) (18 - d) _ _ (by omega) (by omega)⟩⟩)
    · exact br_f c0 (br_f c1 (h _ _))
theorem xl_divide__product_divisor_quotient {post : SX → Prop} {p : Int32} (h : ∀ a_product a_quotient : Nat → Int32, post (f_tokenCount, f_latestPlace, f_stepCount, f_waitingCount, f_stackCount, f_factorCount, a_tokenKind, a_tokenContent, a_stepKind, a_stepToken, a_waitingKind, a_waitingToken, a_present, a_cells, a_leftTop, a_leftBottom, a_rightTop, a_rightBottom, a_top, a_bottom, a_product, a_quotient, a_common, a_spare, a_rest, a_divisor, a_inverse, a_numerator, a_factorDegrees, a_factorPowers, a_factorCells)) : wpX_divide__product_divisor_quotient post (f_tokenCount, f_latestPlace, f_stepCount, f_waitingCount, f_stackCount, f_factorCount, a_tokenKind, a_tokenContent, a_stepKind, a_stepToken, a_waitingKind, a_waitingToken, a_present, a_cells, a_leftTop, a_leftBottom, a_rightTop, a_rightBottom, a_top, a_bottom, a_product, a_quotient, a_common, a_spare, a_rest, a_divisor, a_inverse, a_numerator, a_factorDegrees, a_factorPowers, a_factorCells) p := by
  have inner : ∀ (J : Int32 → (Nat → Int32) → (Nat → Int32) → (Nat → Int32) → (Nat → Int32) → (Nat → Int32) → (Nat → Int32) → (Nat → Int32) → (Nat → Int32) → (Nat → Int32) → (Nat → Int32) → (Nat → Int32) → (Nat → Int32) → (Nat → Int32) → (Nat → Int32) → (Nat → Int32) → (Nat → Int32) → (Nat → Int32) → (Nat → Int32) → (Nat → Int32) → (Nat → Int32) → (Nat → Int32) → (Nat → Int32) → (Nat → Int32) → (Nat → Int32) → (Nat → Int32) → Prop) (x4 x6 : Int32) (e d : Nat), e + d < 17 → (∀ a_product a_quotient : Nat → Int32, J (nI e + (-1)) a_tokenKind a_tokenContent a_stepKind a_stepToken a_waitingKind a_waitingToken a_present a_cells a_leftTop a_leftBottom a_rightTop a_rightBottom a_top a_bottom a_product a_quotient a_common a_spare a_rest a_divisor a_inverse a_numerator a_factorDegrees a_factorPowers a_factorCells) → ∀ m k, ∀ a_product a_quotient : Nat → Int32, k + m = d + 1 → wX_divide__product_divisor_quotient_57 post J (nI d) x4 (nI e) x6 f_tokenCount f_latestPlace f_stepCount f_waitingCount f_stackCount f_factorCount (m + 1) (nI k) a_tokenKind a_tokenContent a_stepKind a_stepToken a_waitingKind a_waitingToken a_present a_cells a_leftTop a_leftBottom a_rightTop a_rightBottom a_top a_bottom a_product a_quotient a_common a_spare a_rest a_divisor a_inverse a_numerator a_factorDegrees a_factorPowers a_factorCells := by
    intro J x4 x6 e d hed hJ m
    induction m with
    | zero =>
      intro k a_product a_quotient hk
      exact br_t (nI_lt (by omega) (by omega)) (nm_e (hJ _ _))
    | succ m ih =>
      intro k a_product a_quotient hk
      have i1 := pk_in (x := nI e + nI k) (e + k) 17 (by omega) (nI_add e k)
      exact br_f (nI_nlt (by omega) (by omega)) ⟨i1, vp_in_nI (by omega) (by omega), by decide, i1, nm_e (nm_r (nI_1 k) (ih (k + 1) _ _ (by omega)))⟩
  have key : ∀ (x4 : Int32) (d : Nat), d < 17 → ∀ j n, ∀ a_product a_quotient : Nat → Int32, j + d ≤ 17 → j < n → wX_divide__product_divisor_quotient_30 post (nI d) x4 f_tokenCount f_latestPlace f_stepCount f_waitingCount f_stackCount f_factorCount n (nI j + (-1)) a_tokenKind a_tokenContent a_stepKind a_stepToken a_waitingKind a_waitingToken a_present a_cells a_leftTop a_leftBottom a_rightTop a_rightBottom a_top a_bottom a_product a_quotient a_common a_spare a_rest a_divisor a_inverse a_numerator a_factorDegrees a_factorPowers a_factorCells := by
    intro x4 d hd j
    induction j with
    | zero =>
      intro n a_product a_quotient _ hn
      obtain ⟨n, rfl⟩ : ∃ m, n = m + 1 := ⟨n - 1, by omega⟩
      have e0 : nI 0 + (-1) = -1 := by decide
      rw [e0]
      exact br_t (by decide) (h _ _)
    | succ j ih =>
      intro n a_product a_quotient hj hn
      obtain ⟨n, rfl⟩ : ∃ m, n = m + 1 := ⟨n - 1, by omega⟩
      rw [pk_m1]
      exact br_f (nI_pos (by omega)) ⟨pk_in (j + d) 17 (by omega) (nI_add j d), by decide, nm_e ⟨vp_in_nI (by omega) (by omega), nm_e ⟨d + 2, inner _ x4 _ j d (by omega) (fun a_product a_quotient => ih n _ _ (by omega) (by omega)) (d + 1) 0 _ _ (by omega)⟩⟩⟩
  unfold wpX_divide__product_divisor_quotient
  refine xl_setNumber__quotient (fun a_quotient => ?_)
  by_cases c0 : p < 0
  · exact br_t c0 (h _ _)
  · by_cases c1 : p < 17
    · obtain ⟨d, hd, rfl⟩ := nI_of c0
      have hd17 : d < 17 := (nI_ltI (b := 17) hd (by omega)).mp c1
      have e16 : (16 : Int32) - nI d = nI (17 - d) + (-1) := by
        have e1 : 17 - d = (16 - d) + 1 := by omega
        rw [e1, pk_m1]; exact pk_sub (a := 16) (by omega)
      exact br_f c0 (br_t c1 ⟨vp_in_nI hd17 (by omega), by decide, nm_r e16 ⟨18 - d, key _ d hd17 (17 - d) (18 - d) _ _ (by omega) (by omega)⟩⟩)
    · exact br_f c0 (br_f c1 (h _ _))
theorem xl_divide__leftTop_divisor_quotient {post : SX → Prop} {p : Int32} (h : ∀ a_leftTop a_quotient : Nat → Int32, post (f_tokenCount, f_latestPlace, f_stepCount, f_waitingCount, f_stackCount, f_factorCount, a_tokenKind, a_tokenContent, a_stepKind, a_stepToken, a_waitingKind, a_waitingToken, a_present, a_cells, a_leftTop, a_leftBottom, a_rightTop, a_rightBottom, a_top, a_bottom, a_product, a_quotient, a_common, a_spare, a_rest, a_divisor, a_inverse, a_numerator, a_factorDegrees, a_factorPowers, a_factorCells)) : wpX_divide__leftTop_divisor_quotient post (f_tokenCount, f_latestPlace, f_stepCount, f_waitingCount, f_stackCount, f_factorCount, a_tokenKind, a_tokenContent, a_stepKind, a_stepToken, a_waitingKind, a_waitingToken, a_present, a_cells, a_leftTop, a_leftBottom, a_rightTop, a_rightBottom, a_top, a_bottom, a_product, a_quotient, a_common, a_spare, a_rest, a_divisor, a_inverse, a_numerator, a_factorDegrees, a_factorPowers, a_factorCells) p := by
  have inner : ∀ (J : Int32 → (Nat → Int32) → (Nat → Int32) → (Nat → Int32) → (Nat → Int32) → (Nat → Int32) → (Nat → Int32) → (Nat → Int32) → (Nat → Int32) → (Nat → Int32) → (Nat → Int32) → (Nat → Int32) → (Nat → Int32) → (Nat → Int32) → (Nat → Int32) → (Nat → Int32) → (Nat → Int32) → (Nat → Int32) → (Nat → Int32) → (Nat → Int32) → (Nat → Int32) → (Nat → Int32) → (Nat → Int32) → (Nat → Int32) → (Nat → Int32) → (Nat → Int32) → Prop) (x4 x6 : Int32) (e d : Nat), e + d < 17 → (∀ a_leftTop a_quotient : Nat → Int32, J (nI e + (-1)) a_tokenKind a_tokenContent a_stepKind a_stepToken a_waitingKind a_waitingToken a_present a_cells a_leftTop a_leftBottom a_rightTop a_rightBottom a_top a_bottom a_product a_quotient a_common a_spare a_rest a_divisor a_inverse a_numerator a_factorDegrees a_factorPowers a_factorCells) → ∀ m k, ∀ a_leftTop a_quotient : Nat → Int32, k + m = d + 1 → wX_divide__leftTop_divisor_quotient_57 post J (nI d) x4 (nI e) x6 f_tokenCount f_latestPlace f_stepCount f_waitingCount f_stackCount f_factorCount (m + 1) (nI k) a_tokenKind a_tokenContent a_stepKind a_stepToken a_waitingKind a_waitingToken a_present a_cells a_leftTop a_leftBottom a_rightTop a_rightBottom a_top a_bottom a_product a_quotient a_common a_spare a_rest a_divisor a_inverse a_numerator a_factorDegrees a_factorPowers a_factorCells := by
    intro J x4 x6 e d hed hJ m
    induction m with
    | zero =>
      intro k a_leftTop a_quotient hk
      exact br_t (nI_lt (by omega) (by omega)) (nm_e (hJ _ _))
    | succ m ih =>
      intro k a_leftTop a_quotient hk
      have i1 := pk_in (x := nI e + nI k) (e + k) 17 (by omega) (nI_add e k)
      exact br_f (nI_nlt (by omega) (by omega)) ⟨i1, vp_in_nI (by omega) (by omega), by decide, i1, nm_e (nm_r (nI_1 k) (ih (k + 1) _ _ (by omega)))⟩
  have key : ∀ (x4 : Int32) (d : Nat), d < 17 → ∀ j n, ∀ a_leftTop a_quotient : Nat → Int32, j + d ≤ 17 → j < n → wX_divide__leftTop_divisor_quotient_30 post (nI d) x4 f_tokenCount f_latestPlace f_stepCount f_waitingCount f_stackCount f_factorCount n (nI j + (-1)) a_tokenKind a_tokenContent a_stepKind a_stepToken a_waitingKind a_waitingToken a_present a_cells a_leftTop a_leftBottom a_rightTop a_rightBottom a_top a_bottom a_product a_quotient a_common a_spare a_rest a_divisor a_inverse a_numerator a_factorDegrees a_factorPowers a_factorCells := by
    intro x4 d hd j
    induction j with
    | zero =>
      intro n a_leftTop a_quotient _ hn
      obtain ⟨n, rfl⟩ : ∃ m, n = m + 1 := ⟨n - 1, by omega⟩
      have e0 : nI 0 + (-1) = -1 := by decide
      rw [e0]
      exact br_t (by decide) (h _ _)
    | succ j ih =>
      intro n a_leftTop a_quotient hj hn
      obtain ⟨n, rfl⟩ : ∃ m, n = m + 1 := ⟨n - 1, by omega⟩
      rw [pk_m1]
      exact br_f (nI_pos (by omega)) ⟨pk_in (j + d) 17 (by omega) (nI_add j d), by decide, nm_e ⟨vp_in_nI (by omega) (by omega), nm_e ⟨d + 2, inner _ x4 _ j d (by omega) (fun a_leftTop a_quotient => ih n _ _ (by omega) (by omega)) (d + 1) 0 _ _ (by omega)⟩⟩⟩
  unfold wpX_divide__leftTop_divisor_quotient
  refine xl_setNumber__quotient (fun a_quotient => ?_)
  by_cases c0 : p < 0
  · exact br_t c0 (h _ _)
  · by_cases c1 : p < 17
    · obtain ⟨d, hd, rfl⟩ := nI_of c0
      have hd17 : d < 17 := (nI_ltI (b := 17) hd (by omega)).mp c1
      have e16 : (16 : Int32) - nI d = nI (17 - d) + (-1) := by
        have e1 : 17 - d = (16 - d) + 1 := by omega
        rw [e1, pk_m1]; exact pk_sub (a := 16) (by omega)
      exact br_f c0 (br_t c1 ⟨vp_in_nI hd17 (by omega), by decide, nm_r e16 ⟨18 - d, key _ d hd17 (17 - d) (18 - d) _ _ (by omega) (by omega)⟩⟩)
    · exact br_f c0 (br_f c1 (h _ _))
theorem xl_divide__leftBottom_divisor_quotient {post : SX → Prop} {p : Int32} (h : ∀ a_leftBottom a_quotient : Nat → Int32, post (f_tokenCount, f_latestPlace, f_stepCount, f_waitingCount, f_stackCount, f_factorCount, a_tokenKind, a_tokenContent, a_stepKind, a_stepToken, a_waitingKind, a_waitingToken, a_present, a_cells, a_leftTop, a_leftBottom, a_rightTop, a_rightBottom, a_top, a_bottom, a_product, a_quotient, a_common, a_spare, a_rest, a_divisor, a_inverse, a_numerator, a_factorDegrees, a_factorPowers, a_factorCells)) : wpX_divide__leftBottom_divisor_quotient post (f_tokenCount, f_latestPlace, f_stepCount, f_waitingCount, f_stackCount, f_factorCount, a_tokenKind, a_tokenContent, a_stepKind, a_stepToken, a_waitingKind, a_waitingToken, a_present, a_cells, a_leftTop, a_leftBottom, a_rightTop, a_rightBottom, a_top, a_bottom, a_product, a_quotient, a_common, a_spare, a_rest, a_divisor, a_inverse, a_numerator, a_factorDegrees, a_factorPowers, a_factorCells) p := by
  have inner : ∀ (J : Int32 → (Nat → Int32) → (Nat → Int32) → (Nat → Int32) → (Nat → Int32) → (Nat → Int32) → (Nat → Int32) → (Nat → Int32) → (Nat → Int32) → (Nat → Int32) → (Nat → Int32) → (Nat → Int32) → (Nat → Int32) → (Nat → Int32) → (Nat → Int32) → (Nat → Int32) → (Nat → Int32) → (Nat → Int32) → (Nat → Int32) → (Nat → Int32) → (Nat → Int32) → (Nat → Int32) → (Nat → Int32) → (Nat → Int32) → (Nat → Int32) → (Nat → Int32) → Prop) (x4 x6 : Int32) (e d : Nat), e + d < 17 → (∀ a_leftBottom a_quotient : Nat → Int32, J (nI e + (-1)) a_tokenKind a_tokenContent a_stepKind a_stepToken a_waitingKind a_waitingToken a_present a_cells a_leftTop a_leftBottom a_rightTop a_rightBottom a_top a_bottom a_product a_quotient a_common a_spare a_rest a_divisor a_inverse a_numerator a_factorDegrees a_factorPowers a_factorCells) → ∀ m k, ∀ a_leftBottom a_quotient : Nat → Int32, k + m = d + 1 → wX_divide__leftBottom_divisor_quotient_57 post J (nI d) x4 (nI e) x6 f_tokenCount f_latestPlace f_stepCount f_waitingCount f_stackCount f_factorCount (m + 1) (nI k) a_tokenKind a_tokenContent a_stepKind a_stepToken a_waitingKind a_waitingToken a_present a_cells a_leftTop a_leftBottom a_rightTop a_rightBottom a_top a_bottom a_product a_quotient a_common a_spare a_rest a_divisor a_inverse a_numerator a_factorDegrees a_factorPowers a_factorCells := by
    intro J x4 x6 e d hed hJ m
    induction m with
    | zero =>
      intro k a_leftBottom a_quotient hk
      exact br_t (nI_lt (by omega) (by omega)) (nm_e (hJ _ _))
    | succ m ih =>
      intro k a_leftBottom a_quotient hk
      have i1 := pk_in (x := nI e + nI k) (e + k) 17 (by omega) (nI_add e k)
      exact br_f (nI_nlt (by omega) (by omega)) ⟨i1, vp_in_nI (by omega) (by omega), by decide, i1, nm_e (nm_r (nI_1 k) (ih (k + 1) _ _ (by omega)))⟩
  have key : ∀ (x4 : Int32) (d : Nat), d < 17 → ∀ j n, ∀ a_leftBottom a_quotient : Nat → Int32, j + d ≤ 17 → j < n → wX_divide__leftBottom_divisor_quotient_30 post (nI d) x4 f_tokenCount f_latestPlace f_stepCount f_waitingCount f_stackCount f_factorCount n (nI j + (-1)) a_tokenKind a_tokenContent a_stepKind a_stepToken a_waitingKind a_waitingToken a_present a_cells a_leftTop a_leftBottom a_rightTop a_rightBottom a_top a_bottom a_product a_quotient a_common a_spare a_rest a_divisor a_inverse a_numerator a_factorDegrees a_factorPowers a_factorCells := by
    intro x4 d hd j
    induction j with
    | zero =>
      intro n a_leftBottom a_quotient _ hn
      obtain ⟨n, rfl⟩ : ∃ m, n = m + 1 := ⟨n - 1, by omega⟩
      have e0 : nI 0 + (-1) = -1 := by decide
      rw [e0]
      exact br_t (by decide) (h _ _)
    | succ j ih =>
      intro n a_leftBottom a_quotient hj hn
      obtain ⟨n, rfl⟩ : ∃ m, n = m + 1 := ⟨n - 1, by omega⟩
      rw [pk_m1]
      exact br_f (nI_pos (by omega)) ⟨pk_in (j + d) 17 (by omega) (nI_add j d), by decide, nm_e ⟨vp_in_nI (by omega) (by omega), nm_e ⟨d + 2, inner _ x4 _ j d (by omega) (fun a_leftBottom a_quotient => ih n _ _ (by omega) (by omega)) (d + 1) 0 _ _ (by omega)⟩⟩⟩
  unfold wpX_divide__leftBottom_divisor_quotient
  refine xl_setNumber__quotient (fun a_quotient => ?_)
  by_cases c0 : p < 0
  · exact br_t c0 (h _ _)
  · by_cases c1 : p < 17
    · obtain ⟨d, hd, rfl⟩ := nI_of c0
      have hd17 : d < 17 := (nI_ltI (b := 17) hd (by omega)).mp c1
      have e16 : (16 : Int32) - nI d = nI (17 - d) + (-1) := by
        have e1 : 17 - d = (16 - d) + 1 := by omega
        rw [e1, pk_m1]; exact pk_sub (a := 16) (by omega)
      exact br_f c0 (br_t c1 ⟨vp_in_nI hd17 (by omega), by decide, nm_r e16 ⟨18 - d, key _ d hd17 (17 - d) (18 - d) _ _ (by omega) (by omega)⟩⟩)
    · exact br_f c0 (br_f c1 (h _ _))
end
