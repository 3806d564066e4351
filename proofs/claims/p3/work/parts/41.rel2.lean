/-! The other methods: both sides end, in related states -/
theorem ab_evaluate {u : SX} {v : SY} {Q : Int32 → Int32 → SX → SY → Prop} (I : ab_R u v) (h : ∀ r r' u' v', ab_R u' v' → Q r r' u' v') : wpX_evaluate (fun r u' => wpY_evaluate (fun r' v' => Q r r' u' v') v) u := by
  obtain ⟨f_tokenCount, f_latestPlace, f_stepCount, f_waitingCount, f_stackCount, f_factorCount, a_tokenKind, a_tokenContent, a_stepKind, a_stepToken, a_waitingKind, a_waitingToken, a_present, a_cells, a_leftTop, a_leftBottom, a_rightTop, a_rightBottom, a_top, a_bottom, a_product, a_quotient, a_common, a_spare, a_rest, a_divisor, a_inverse, a_numerator, a_factorDegrees, a_factorPowers, a_factorCells⟩ := u
  obtain ⟨f_count, f_place, f_opens, f_top, f_fault, f_faultAt, f_dry, f_found, a_c, a_there, a_kind, a_num, a_open, a_openAt, a_power, a_table⟩ := v
  obtain ⟨cnt, g, T, kd, hc, e1, e2, e3, e4, tk, p9, hb⟩ := I
  dsimp only at e1 e2 e3 e4 tk hb
  subst e1 e2 e3 e4
  refine xl_evaluate cnt hc hb (fun r f_latestPlace f_stepCount f_waitingCount f_stackCount a_stepKind a_stepToken a_waitingKind a_waitingToken a_present a_cells a_leftTop a_leftBottom a_rightTop a_rightBottom a_top a_bottom a_product a_quotient a_common a_spare a_rest a_divisor a_inverse a_numerator hb' => ?_)
  exact yc_evaluate hc tk p9 (fun r' g' f_place f_opens f_top f_fault f_faultAt f_dry f_found a_there a_open a_openAt a_power p' => (h _ _ _ _ ⟨cnt, g', T, kd, hc, rfl, rfl, rfl, rfl, tk, p', hb'⟩))
theorem ab_degree {u : SX} {v : SY} {v1 v2 : Int32} {Q : Int32 → Int32 → SX → SY → Prop} (I : ab_R u v) (h : ∀ r r' u' v', ab_R u' v' → Q r r' u' v') : wpX_degree (fun r u' => wpY_degree (fun r' => Q r r' u' v) v v1 v2) u v1 v2 := by
  obtain ⟨f_tokenCount, f_latestPlace, f_stepCount, f_waitingCount, f_stackCount, f_factorCount, a_tokenKind, a_tokenContent, a_stepKind, a_stepToken, a_waitingKind, a_waitingToken, a_present, a_cells, a_leftTop, a_leftBottom, a_rightTop, a_rightBottom, a_top, a_bottom, a_product, a_quotient, a_common, a_spare, a_rest, a_divisor, a_inverse, a_numerator, a_factorDegrees, a_factorPowers, a_factorCells⟩ := u
  obtain ⟨f_count, f_place, f_opens, f_top, f_fault, f_faultAt, f_dry, f_found, a_c, a_there, a_kind, a_num, a_open, a_openAt, a_power, a_table⟩ := v
  obtain ⟨cnt, g, T, kd, hc, e1, e2, e3, e4, tk, p9, hb⟩ := I
  dsimp only at e1 e2 e3 e4 tk hb
  subst e1 e2 e3 e4
  refine xl_degree (fun r a_leftTop a_leftBottom a_rightTop a_rightBottom a_top a_bottom a_product a_quotient a_common a_spare a_rest a_divisor a_inverse a_numerator => ?_)
  exact yc_degree (fun r' => (h _ _ _ _ ⟨cnt, g, T, kd, hc, rfl, rfl, rfl, rfl, tk, p9, hb⟩))
theorem ab_number {u : SX} {v : SY} {v1 v2 v3 : Int32} {Q : Int32 → Int32 → SX → SY → Prop} (I : ab_R u v) (h : ∀ r r' u' v', ab_R u' v' → Q r r' u' v') : wpX_number (fun r u' => wpY_number (fun r' => Q r r' u' v) v v1 v2 v3) u v1 v2 v3 := by
  obtain ⟨f_tokenCount, f_latestPlace, f_stepCount, f_waitingCount, f_stackCount, f_factorCount, a_tokenKind, a_tokenContent, a_stepKind, a_stepToken, a_waitingKind, a_waitingToken, a_present, a_cells, a_leftTop, a_leftBottom, a_rightTop, a_rightBottom, a_top, a_bottom, a_product, a_quotient, a_common, a_spare, a_rest, a_divisor, a_inverse, a_numerator, a_factorDegrees, a_factorPowers, a_factorCells⟩ := u
  obtain ⟨f_count, f_place, f_opens, f_top, f_fault, f_faultAt, f_dry, f_found, a_c, a_there, a_kind, a_num, a_open, a_openAt, a_power, a_table⟩ := v
  obtain ⟨cnt, g, T, kd, hc, e1, e2, e3, e4, tk, p9, hb⟩ := I
  dsimp only at e1 e2 e3 e4 tk hb
  subst e1 e2 e3 e4
  refine xl_number (fun r a_leftTop a_leftBottom a_rightTop a_rightBottom a_top a_bottom a_product a_quotient a_common a_spare a_rest a_divisor a_inverse a_numerator => ?_)
  exact yc_number (fun r' => (h _ _ _ _ ⟨cnt, g, T, kd, hc, rfl, rfl, rfl, rfl, tk, p9, hb⟩))
theorem ab_value {u : SX} {v : SY} {v1 v2 : Int32} {Q : Int32 → Int32 → SX → SY → Prop} (I : ab_R u v) (h : ∀ r r' u' v', ab_R u' v' → Q r r' u' v') : wpX_value (fun r u' => wpY_value (fun r' => Q r r' u' v) v v1 v2) u v1 v2 := by
  obtain ⟨f_tokenCount, f_latestPlace, f_stepCount, f_waitingCount, f_stackCount, f_factorCount, a_tokenKind, a_tokenContent, a_stepKind, a_stepToken, a_waitingKind, a_waitingToken, a_present, a_cells, a_leftTop, a_leftBottom, a_rightTop, a_rightBottom, a_top, a_bottom, a_product, a_quotient, a_common, a_spare, a_rest, a_divisor, a_inverse, a_numerator, a_factorDegrees, a_factorPowers, a_factorCells⟩ := u
  obtain ⟨f_count, f_place, f_opens, f_top, f_fault, f_faultAt, f_dry, f_found, a_c, a_there, a_kind, a_num, a_open, a_openAt, a_power, a_table⟩ := v
  obtain ⟨cnt, g, T, kd, hc, e1, e2, e3, e4, tk, p9, hb⟩ := I
  dsimp only at e1 e2 e3 e4 tk hb
  subst e1 e2 e3 e4
  refine xl_value (fun r a_leftTop a_leftBottom a_rightTop a_rightBottom a_top a_bottom a_product a_quotient a_common a_spare a_rest a_divisor a_inverse a_numerator => ?_)
  exact yc_value (fun r' => (h _ _ _ _ ⟨cnt, g, T, kd, hc, rfl, rfl, rfl, rfl, tk, p9, hb⟩))
theorem ab_factors {u : SX} {v : SY} {v1 v2 : Int32} {Q : Int32 → Int32 → SX → SY → Prop} (I : ab_R u v) (h : ∀ r r' u' v', ab_R u' v' → Q r r' u' v') : wpX_factors (fun r u' => wpY_factors (fun r' v' => Q r r' u' v') v v1 v2) u v1 v2 := by
  obtain ⟨f_tokenCount, f_latestPlace, f_stepCount, f_waitingCount, f_stackCount, f_factorCount, a_tokenKind, a_tokenContent, a_stepKind, a_stepToken, a_waitingKind, a_waitingToken, a_present, a_cells, a_leftTop, a_leftBottom, a_rightTop, a_rightBottom, a_top, a_bottom, a_product, a_quotient, a_common, a_spare, a_rest, a_divisor, a_inverse, a_numerator, a_factorDegrees, a_factorPowers, a_factorCells⟩ := u
  obtain ⟨f_count, f_place, f_opens, f_top, f_fault, f_faultAt, f_dry, f_found, a_c, a_there, a_kind, a_num, a_open, a_openAt, a_power, a_table⟩ := v
  obtain ⟨cnt, g, T, kd, hc, e1, e2, e3, e4, tk, p9, hb⟩ := I
  dsimp only at e1 e2 e3 e4 tk hb
  subst e1 e2 e3 e4
  refine xl_factors (fun r f_factorCount a_factorDegrees a_factorPowers a_factorCells a_leftTop a_leftBottom a_rightTop a_rightBottom a_top a_bottom a_product a_quotient a_common a_spare a_rest a_divisor a_inverse a_numerator => ?_)
  exact yc_factors p9 (h _ _ _ _ ⟨cnt, g, T, kd, hc, rfl, rfl, rfl, rfl, tk, p9, hb⟩) (fun a p m g' pw _ _ _ _ hm fr _ _ => (h _ _ _ _ ⟨cnt, g', T, kd, hc, rfl, rfl, rfl, rfl, tk, (ya_9_fr p9 fr), hb⟩))
theorem ab_factorDegree {u : SX} {v : SY} {v1 v2 v3 : Int32} {Q : Int32 → Int32 → SX → SY → Prop} (I : ab_R u v) (h : ∀ r r' u' v', ab_R u' v' → Q r r' u' v') : wpX_factorDegree (fun r u' => wpY_factorDegree (fun r' v' => Q r r' u' v') v v1 v2 v3) u v1 v2 v3 := by
  obtain ⟨f_tokenCount, f_latestPlace, f_stepCount, f_waitingCount, f_stackCount, f_factorCount, a_tokenKind, a_tokenContent, a_stepKind, a_stepToken, a_waitingKind, a_waitingToken, a_present, a_cells, a_leftTop, a_leftBottom, a_rightTop, a_rightBottom, a_top, a_bottom, a_product, a_quotient, a_common, a_spare, a_rest, a_divisor, a_inverse, a_numerator, a_factorDegrees, a_factorPowers, a_factorCells⟩ := u
  obtain ⟨f_count, f_place, f_opens, f_top, f_fault, f_faultAt, f_dry, f_found, a_c, a_there, a_kind, a_num, a_open, a_openAt, a_power, a_table⟩ := v
  obtain ⟨cnt, g, T, kd, hc, e1, e2, e3, e4, tk, p9, hb⟩ := I
  dsimp only at e1 e2 e3 e4 tk hb
  subst e1 e2 e3 e4
  refine xl_factorDegree (fun r f_factorCount a_factorDegrees a_factorPowers a_factorCells a_leftTop a_leftBottom a_rightTop a_rightBottom a_top a_bottom a_product a_quotient a_common a_spare a_rest a_divisor a_inverse a_numerator => ?_)
  exact yc_factorDegree p9 (fun r' g' f_found a_power p' => (h _ _ _ _ ⟨cnt, g', T, kd, hc, rfl, rfl, rfl, rfl, tk, p', hb⟩))
theorem ab_factor {u : SX} {v : SY} {v1 v2 v3 v4 : Int32} {Q : Int32 → Int32 → SX → SY → Prop} (I : ab_R u v) (h : ∀ r r' u' v', ab_R u' v' → Q r r' u' v') : wpX_factor (fun r u' => wpY_factor (fun r' v' => Q r r' u' v') v v1 v2 v3 v4) u v1 v2 v3 v4 := by
  obtain ⟨f_tokenCount, f_latestPlace, f_stepCount, f_waitingCount, f_stackCount, f_factorCount, a_tokenKind, a_tokenContent, a_stepKind, a_stepToken, a_waitingKind, a_waitingToken, a_present, a_cells, a_leftTop, a_leftBottom, a_rightTop, a_rightBottom, a_top, a_bottom, a_product, a_quotient, a_common, a_spare, a_rest, a_divisor, a_inverse, a_numerator, a_factorDegrees, a_factorPowers, a_factorCells⟩ := u
  obtain ⟨f_count, f_place, f_opens, f_top, f_fault, f_faultAt, f_dry, f_found, a_c, a_there, a_kind, a_num, a_open, a_openAt, a_power, a_table⟩ := v
  obtain ⟨cnt, g, T, kd, hc, e1, e2, e3, e4, tk, p9, hb⟩ := I
  dsimp only at e1 e2 e3 e4 tk hb
  subst e1 e2 e3 e4
  refine xl_factor (fun r f_factorCount a_factorDegrees a_factorPowers a_factorCells a_leftTop a_leftBottom a_rightTop a_rightBottom a_top a_bottom a_product a_quotient a_common a_spare a_rest a_divisor a_inverse a_numerator => ?_)
  exact yc_factor p9 (fun r' g' f_found a_power p' => (h _ _ _ _ ⟨cnt, g', T, kd, hc, rfl, rfl, rfl, rfl, tk, p', hb⟩))
theorem ab_power {u : SX} {v : SY} {v1 v2 v3 : Int32} {Q : Int32 → Int32 → SX → SY → Prop} (I : ab_R u v) (h : ∀ r r' u' v', ab_R u' v' → Q r r' u' v') : wpX_power (fun r u' => wpY_power (fun r' v' => Q r r' u' v') v v1 v2 v3) u v1 v2 v3 := by
  obtain ⟨f_tokenCount, f_latestPlace, f_stepCount, f_waitingCount, f_stackCount, f_factorCount, a_tokenKind, a_tokenContent, a_stepKind, a_stepToken, a_waitingKind, a_waitingToken, a_present, a_cells, a_leftTop, a_leftBottom, a_rightTop, a_rightBottom, a_top, a_bottom, a_product, a_quotient, a_common, a_spare, a_rest, a_divisor, a_inverse, a_numerator, a_factorDegrees, a_factorPowers, a_factorCells⟩ := u
  obtain ⟨f_count, f_place, f_opens, f_top, f_fault, f_faultAt, f_dry, f_found, a_c, a_there, a_kind, a_num, a_open, a_openAt, a_power, a_table⟩ := v
  obtain ⟨cnt, g, T, kd, hc, e1, e2, e3, e4, tk, p9, hb⟩ := I
  dsimp only at e1 e2 e3 e4 tk hb
  subst e1 e2 e3 e4
  refine xl_power (fun r f_factorCount a_factorDegrees a_factorPowers a_factorCells a_leftTop a_leftBottom a_rightTop a_rightBottom a_top a_bottom a_product a_quotient a_common a_spare a_rest a_divisor a_inverse a_numerator => ?_)
  exact yc_power p9 (fun r' g' f_found a_power p' => (h _ _ _ _ ⟨cnt, g', T, kd, hc, rfl, rfl, rfl, rfl, tk, p', hb⟩))
theorem ab_fraction {u : SX} {v : SY} {v1 v2 v3 v4 : Int32} {Q : Int32 → Int32 → SX → SY → Prop} (I : ab_R u v) (h : ∀ r r' u' v', ab_R u' v' → Q r r' u' v') : wpX_fraction (fun r u' => wpY_fraction (fun r' v' => Q r r' u' v') v v1 v2 v3 v4) u v1 v2 v3 v4 := by
  obtain ⟨f_tokenCount, f_latestPlace, f_stepCount, f_waitingCount, f_stackCount, f_factorCount, a_tokenKind, a_tokenContent, a_stepKind, a_stepToken, a_waitingKind, a_waitingToken, a_present, a_cells, a_leftTop, a_leftBottom, a_rightTop, a_rightBottom, a_top, a_bottom, a_product, a_quotient, a_common, a_spare, a_rest, a_divisor, a_inverse, a_numerator, a_factorDegrees, a_factorPowers, a_factorCells⟩ := u
  obtain ⟨f_count, f_place, f_opens, f_top, f_fault, f_faultAt, f_dry, f_found, a_c, a_there, a_kind, a_num, a_open, a_openAt, a_power, a_table⟩ := v
  obtain ⟨cnt, g, T, kd, hc, e1, e2, e3, e4, tk, p9, hb⟩ := I
  dsimp only at e1 e2 e3 e4 tk hb
  subst e1 e2 e3 e4
  refine xl_fraction (fun r f_factorCount a_factorDegrees a_factorPowers a_factorCells a_leftTop a_leftBottom a_rightTop a_rightBottom a_top a_bottom a_product a_quotient a_common a_spare a_rest a_divisor a_inverse a_numerator => ?_)
  exact yc_fraction p9 (fun r' g' T' f_found a_power p' => (h _ _ _ _ ⟨cnt, g', T', kd, hc, rfl, rfl, rfl, rfl, tk, p', hb⟩))
theorem ab_store {u : SX} {v : SY} {v1 : Int32} {Q : Int32 → Int32 → SX → SY → Prop} (I : ab_R u v) (h : ∀ r r' u' v', ab_R u' v' → Q r r' u' v') : wpX_store (fun r u' => wpY_store (fun r' v' => Q r r' u' v') v v1) u v1 := by
  obtain ⟨f_tokenCount, f_latestPlace, f_stepCount, f_waitingCount, f_stackCount, f_factorCount, a_tokenKind, a_tokenContent, a_stepKind, a_stepToken, a_waitingKind, a_waitingToken, a_present, a_cells, a_leftTop, a_leftBottom, a_rightTop, a_rightBottom, a_top, a_bottom, a_product, a_quotient, a_common, a_spare, a_rest, a_divisor, a_inverse, a_numerator, a_factorDegrees, a_factorPowers, a_factorCells⟩ := u
  obtain ⟨f_count, f_place, f_opens, f_top, f_fault, f_faultAt, f_dry, f_found, a_c, a_there, a_kind, a_num, a_open, a_openAt, a_power, a_table⟩ := v
  obtain ⟨cnt, g, T, kd, hc, e1, e2, e3, e4, tk, p9, hb⟩ := I
  dsimp only at e1 e2 e3 e4 tk hb
  subst e1 e2 e3 e4
  have hY : ∀ (r : Int32) (a_present a_cells : Nat → Int32), xw_b a_present → wpY_store (fun r' v' => Q r r' (nI cnt, f_latestPlace, f_stepCount, f_waitingCount, f_stackCount, f_factorCount, a_tokenKind, a_tokenContent, a_stepKind, a_stepToken, a_waitingKind, a_waitingToken, a_present, a_cells, a_leftTop, a_leftBottom, a_rightTop, a_rightBottom, a_top, a_bottom, a_product, a_quotient, a_common, a_spare, a_rest, a_divisor, a_inverse, a_numerator, a_factorDegrees, a_factorPowers, a_factorCells) v') (nI cnt, f_place, f_opens, f_top, f_fault, f_faultAt, f_dry, f_found, fi_m g, a_there, a_kind, a_num, a_open, a_openAt, a_power, fi_m T) v1 := fun r a_present a_cells hb =>
    yc_store p9 (fun r' g' a_there p' => (h _ _ _ _ ⟨cnt, g', T, kd, hc, rfl, rfl, rfl, rfl, tk, p', hb⟩))
  unfold wpX_store
  dsimp only
  by_cases c0 : v1 < 0
  · exact br_t c0 (hY _ _ _ hb)
  · by_cases c6 : 6 ≤ v1
    · exact br_f c0 (br_t c6 (hY _ _ _ hb))
    · obtain ⟨k, hk, rfl⟩ := nI_of c0
      have hk6 : k < 6 := by
        by_cases c : k < 6
        · exact c
        · exact absurd (nI_le (a := 6) (by omega) hk) c6
      exact br_f c0 (br_f c6 (br_c (fun _ => hY _ _ _ hb) (fun _ => xl_copySlot 6 k (by omega) (by omega) (fun a_cells => ⟨vp_in_nI (by omega) (by omega), nm_e (hY _ _ _ (xw_b1 hb _))⟩))))
theorem ab_clear {u : SX} {v : SY} {v1 : Int32} {Q : Int32 → Int32 → SX → SY → Prop} (I : ab_R u v) (h : ∀ r r' u' v', ab_R u' v' → Q r r' u' v') : wpX_clear (fun r u' => wpY_clear (fun r' v' => Q r r' u' v') v v1) u v1 := by
  obtain ⟨f_tokenCount, f_latestPlace, f_stepCount, f_waitingCount, f_stackCount, f_factorCount, a_tokenKind, a_tokenContent, a_stepKind, a_stepToken, a_waitingKind, a_waitingToken, a_present, a_cells, a_leftTop, a_leftBottom, a_rightTop, a_rightBottom, a_top, a_bottom, a_product, a_quotient, a_common, a_spare, a_rest, a_divisor, a_inverse, a_numerator, a_factorDegrees, a_factorPowers, a_factorCells⟩ := u
  obtain ⟨f_count, f_place, f_opens, f_top, f_fault, f_faultAt, f_dry, f_found, a_c, a_there, a_kind, a_num, a_open, a_openAt, a_power, a_table⟩ := v
  obtain ⟨cnt, g, T, kd, hc, e1, e2, e3, e4, tk, p9, hb⟩ := I
  dsimp only at e1 e2 e3 e4 tk hb
  subst e1 e2 e3 e4
  have hY : ∀ (r : Int32) (a_present : Nat → Int32), xw_b a_present → wpY_clear (fun r' v' => Q r r' (nI cnt, f_latestPlace, f_stepCount, f_waitingCount, f_stackCount, f_factorCount, a_tokenKind, a_tokenContent, a_stepKind, a_stepToken, a_waitingKind, a_waitingToken, a_present, a_cells, a_leftTop, a_leftBottom, a_rightTop, a_rightBottom, a_top, a_bottom, a_product, a_quotient, a_common, a_spare, a_rest, a_divisor, a_inverse, a_numerator, a_factorDegrees, a_factorPowers, a_factorCells) v') (nI cnt, f_place, f_opens, f_top, f_fault, f_faultAt, f_dry, f_found, fi_m g, a_there, a_kind, a_num, a_open, a_openAt, a_power, fi_m T) v1 := fun r a_present hb =>
    yc_clear (fun r' a_there => (h _ _ _ _ ⟨cnt, g, T, kd, hc, rfl, rfl, rfl, rfl, tk, p9, hb⟩))
  unfold wpX_clear
  dsimp only
  by_cases c0 : v1 < 0
  · exact br_t c0 (hY _ _ hb)
  · by_cases c6 : v1 < 6
    · obtain ⟨k, hk, rfl⟩ := nI_of c0
      have hk6 : k < 6 := (nI_ltI (b := 6) hk (by decide)).mp c6
      have i7 : vp_in (nI k) 7 := vp_in_nI (by omega) (by omega)
      refine br_f c0 (br_t c6 ⟨i7, nm_e ⟨i7, nm_e ⟨?_, hY _ _ (xw_b0 hb _)⟩⟩⟩)
      rcases hb (nI k).toNatClampNeg with e | e
      · rw [e]; rfl
      · rw [e]; rfl
    · exact br_f c0 (br_f c6 (hY _ _ hb))
