/-! The strong relation: factors, factorDegree, factor, power, fraction keep it -/
theorem bb_Pg {pres cl : Nat → Int32} {g g' : Nat → Fin 5} {pv : Nat → Option (PF × PF)} (h : bb_P pres cl g pv) (pl : ya_pl g g') : bb_P pres cl g' pv := by
  intro n hn
  rcases h n hn with ⟨a, b⟩ | ⟨w, a, b, d, e, f, o⟩
  · exact Or.inl ⟨a, b⟩
  · exact Or.inr ⟨w, a, b, d, by rw [pl _ (by omega) (by omega)]; exact e, by rw [pl _ (by omega) (by omega)]; exact f, o⟩
theorem bb_factors {u : SX} {v : SY} {v1 v2 : Int32} {Q : Int32 → Int32 → SX → SY → Prop} (I : bb_R u v) (h : ∀ r r' u' v', bb_R u' v' → Q r r' u' v') : wpX_factors (fun r u' => wpY_factors (fun r' v' => Q r r' u' v') v v1 v2) u v1 v2 := by
  obtain ⟨f_tokenCount, f_latestPlace, f_stepCount, f_waitingCount, f_stackCount, f_factorCount, a_tokenKind, a_tokenContent, a_stepKind, a_stepToken, a_waitingKind, a_waitingToken, a_present, a_cells, a_leftTop, a_leftBottom, a_rightTop, a_rightBottom, a_top, a_bottom, a_product, a_quotient, a_common, a_spare, a_rest, a_divisor, a_inverse, a_numerator, a_factorDegrees, a_factorPowers, a_factorCells⟩ := u
  obtain ⟨f_count, f_place, f_opens, f_top, f_fault, f_faultAt, f_dry, f_found, a_c, a_there, a_kind, a_num, a_open, a_openAt, a_power, a_table⟩ := v
  obtain ⟨cnt, g, T, kd, cn, pv, hc, e1, e2, e3, e4, tt, tk, p9, hb, eb, ep, hP⟩ := I
  dsimp only at e1 e2 e3 e4 tt tk hb eb ep hP
  subst e1 e2 e3 e4 ep
  refine xl_factors (fun r f_factorCount a_factorDegrees a_factorPowers a_factorCells a_leftTop a_leftBottom a_rightTop a_rightBottom a_top a_bottom a_product a_quotient a_common a_spare a_rest a_divisor a_inverse a_numerator => ?_)
  exact yc_factors p9 (h _ _ _ _ ⟨cnt, g, T, kd, cn, pv, hc, rfl, rfl, rfl, rfl, tt, tk, p9, hb, eb, rfl, hP⟩) (fun a p m g' pw _ _ _ _ hm fr _ _ => (h _ _ _ _ ⟨cnt, g', T, kd, cn, pv, hc, rfl, rfl, rfl, rfl, tt, tk, ya_9_fr p9 fr, hb, eb, rfl, bb_Pg hP (ya_pl_fr fr)⟩))
theorem bb_factorDegree {u : SX} {v : SY} {v1 v2 v3 : Int32} {Q : Int32 → Int32 → SX → SY → Prop} (I : bb_R u v) (h : ∀ r r' u' v', bb_R u' v' → Q r r' u' v') : wpX_factorDegree (fun r u' => wpY_factorDegree (fun r' v' => Q r r' u' v') v v1 v2 v3) u v1 v2 v3 := by
  obtain ⟨f_tokenCount, f_latestPlace, f_stepCount, f_waitingCount, f_stackCount, f_factorCount, a_tokenKind, a_tokenContent, a_stepKind, a_stepToken, a_waitingKind, a_waitingToken, a_present, a_cells, a_leftTop, a_leftBottom, a_rightTop, a_rightBottom, a_top, a_bottom, a_product, a_quotient, a_common, a_spare, a_rest, a_divisor, a_inverse, a_numerator, a_factorDegrees, a_factorPowers, a_factorCells⟩ := u
  obtain ⟨f_count, f_place, f_opens, f_top, f_fault, f_faultAt, f_dry, f_found, a_c, a_there, a_kind, a_num, a_open, a_openAt, a_power, a_table⟩ := v
  obtain ⟨cnt, g, T, kd, cn, pv, hc, e1, e2, e3, e4, tt, tk, p9, hb, eb, ep, hP⟩ := I
  dsimp only at e1 e2 e3 e4 tt tk hb eb ep hP
  subst e1 e2 e3 e4 ep
  refine xl_factorDegree (fun r f_factorCount a_factorDegrees a_factorPowers a_factorCells a_leftTop a_leftBottom a_rightTop a_rightBottom a_top a_bottom a_product a_quotient a_common a_spare a_rest a_divisor a_inverse a_numerator => ?_)
  exact yc_factorDegree p9 (fun r' g' f_found a_power p' => (h _ _ _ _ ⟨cnt, g', T, kd, cn, pv, hc, rfl, rfl, rfl, rfl, tt, tk, ya_9_pl p9 p', hb, eb, rfl, bb_Pg hP p'⟩))
theorem bb_factor {u : SX} {v : SY} {v1 v2 v3 v4 : Int32} {Q : Int32 → Int32 → SX → SY → Prop} (I : bb_R u v) (h : ∀ r r' u' v', bb_R u' v' → Q r r' u' v') : wpX_factor (fun r u' => wpY_factor (fun r' v' => Q r r' u' v') v v1 v2 v3 v4) u v1 v2 v3 v4 := by
  obtain ⟨f_tokenCount, f_latestPlace, f_stepCount, f_waitingCount, f_stackCount, f_factorCount, a_tokenKind, a_tokenContent, a_stepKind, a_stepToken, a_waitingKind, a_waitingToken, a_present, a_cells, a_leftTop, a_leftBottom, a_rightTop, a_rightBottom, a_top, a_bottom, a_product, a_quotient, a_common, a_spare, a_rest, a_divisor, a_inverse, a_numerator, a_factorDegrees, a_factorPowers, a_factorCells⟩ := u
  obtain ⟨f_count, f_place, f_opens, f_top, f_fault, f_faultAt, f_dry, f_found, a_c, a_there, a_kind, a_num, a_open, a_openAt, a_power, a_table⟩ := v
  obtain ⟨cnt, g, T, kd, cn, pv, hc, e1, e2, e3, e4, tt, tk, p9, hb, eb, ep, hP⟩ := I
  dsimp only at e1 e2 e3 e4 tt tk hb eb ep hP
  subst e1 e2 e3 e4 ep
  refine xl_factor (fun r f_factorCount a_factorDegrees a_factorPowers a_factorCells a_leftTop a_leftBottom a_rightTop a_rightBottom a_top a_bottom a_product a_quotient a_common a_spare a_rest a_divisor a_inverse a_numerator => ?_)
  exact yc_factor p9 (fun r' g' f_found a_power p' => (h _ _ _ _ ⟨cnt, g', T, kd, cn, pv, hc, rfl, rfl, rfl, rfl, tt, tk, ya_9_pl p9 p', hb, eb, rfl, bb_Pg hP p'⟩))
theorem bb_power {u : SX} {v : SY} {v1 v2 v3 : Int32} {Q : Int32 → Int32 → SX → SY → Prop} (I : bb_R u v) (h : ∀ r r' u' v', bb_R u' v' → Q r r' u' v') : wpX_power (fun r u' => wpY_power (fun r' v' => Q r r' u' v') v v1 v2 v3) u v1 v2 v3 := by
  obtain ⟨f_tokenCount, f_latestPlace, f_stepCount, f_waitingCount, f_stackCount, f_factorCount, a_tokenKind, a_tokenContent, a_stepKind, a_stepToken, a_waitingKind, a_waitingToken, a_present, a_cells, a_leftTop, a_leftBottom, a_rightTop, a_rightBottom, a_top, a_bottom, a_product, a_quotient, a_common, a_spare, a_rest, a_divisor, a_inverse, a_numerator, a_factorDegrees, a_factorPowers, a_factorCells⟩ := u
  obtain ⟨f_count, f_place, f_opens, f_top, f_fault, f_faultAt, f_dry, f_found, a_c, a_there, a_kind, a_num, a_open, a_openAt, a_power, a_table⟩ := v
  obtain ⟨cnt, g, T, kd, cn, pv, hc, e1, e2, e3, e4, tt, tk, p9, hb, eb, ep, hP⟩ := I
  dsimp only at e1 e2 e3 e4 tt tk hb eb ep hP
  subst e1 e2 e3 e4 ep
  refine xl_power (fun r f_factorCount a_factorDegrees a_factorPowers a_factorCells a_leftTop a_leftBottom a_rightTop a_rightBottom a_top a_bottom a_product a_quotient a_common a_spare a_rest a_divisor a_inverse a_numerator => ?_)
  exact yc_power p9 (fun r' g' f_found a_power p' => (h _ _ _ _ ⟨cnt, g', T, kd, cn, pv, hc, rfl, rfl, rfl, rfl, tt, tk, ya_9_pl p9 p', hb, eb, rfl, bb_Pg hP p'⟩))
theorem bb_fraction {u : SX} {v : SY} {v1 v2 v3 v4 : Int32} {Q : Int32 → Int32 → SX → SY → Prop} (I : bb_R u v) (h : ∀ r r' u' v', bb_R u' v' → Q r r' u' v') : wpX_fraction (fun r u' => wpY_fraction (fun r' v' => Q r r' u' v') v v1 v2 v3 v4) u v1 v2 v3 v4 := by
  obtain ⟨f_tokenCount, f_latestPlace, f_stepCount, f_waitingCount, f_stackCount, f_factorCount, a_tokenKind, a_tokenContent, a_stepKind, a_stepToken, a_waitingKind, a_waitingToken, a_present, a_cells, a_leftTop, a_leftBottom, a_rightTop, a_rightBottom, a_top, a_bottom, a_product, a_quotient, a_common, a_spare, a_rest, a_divisor, a_inverse, a_numerator, a_factorDegrees, a_factorPowers, a_factorCells⟩ := u
  obtain ⟨f_count, f_place, f_opens, f_top, f_fault, f_faultAt, f_dry, f_found, a_c, a_there, a_kind, a_num, a_open, a_openAt, a_power, a_table⟩ := v
  obtain ⟨cnt, g, T, kd, cn, pv, hc, e1, e2, e3, e4, tt, tk, p9, hb, eb, ep, hP⟩ := I
  dsimp only at e1 e2 e3 e4 tt tk hb eb ep hP
  subst e1 e2 e3 e4 ep
  refine xl_fraction (fun r f_factorCount a_factorDegrees a_factorPowers a_factorCells a_leftTop a_leftBottom a_rightTop a_rightBottom a_top a_bottom a_product a_quotient a_common a_spare a_rest a_divisor a_inverse a_numerator => ?_)
  exact yc_fraction p9 (fun r' g' T' f_found a_power p' => (h _ _ _ _ ⟨cnt, g', T', kd, cn, pv, hc, rfl, rfl, rfl, rfl, tt, tk, ya_9_pl p9 p', hb, eb, rfl, bb_Pg hP p'⟩))
