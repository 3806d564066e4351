/-! The strong relation: degree, number, value answer alike -/
theorem bb_7 {v1 : Int32} (c0 : ¬ v1 < 0) (c7 : ¬ 7 ≤ v1) : ∃ a, a < 7 ∧ v1 = nI a := by
  obtain ⟨a, ha, rfl⟩ := nI_of c0
  refine ⟨a, ?_, rfl⟩
  by_cases c : a < 7
  · exact c
  · exact absurd (nI_le (a := 7) (by omega) ha) c7
section
variable {f_tokenCount f_latestPlace f_stepCount f_waitingCount f_stackCount f_factorCount : Int32} {a_tokenKind a_tokenContent a_stepKind a_stepToken a_waitingKind a_waitingToken a_present a_cells a_leftTop a_leftBottom a_rightTop a_rightBottom a_top a_bottom a_product a_quotient a_common a_spare a_rest a_divisor a_inverse a_numerator a_factorDegrees a_factorPowers a_factorCells : Nat → Int32}
variable {f_count f_place f_opens f_top f_fault f_faultAt f_dry f_found : Int32} {a_c a_there a_kind a_num a_open a_openAt a_power a_table : Nat → Int32}
theorem bb_part0 {v1 v2 : Int32} (eb : ∀ n, n < 7 → a_present n = a_there n) : ((∀ {post : Int32 → Prop}, post 0 → wpX_hasPart post (f_tokenCount, f_latestPlace, f_stepCount, f_waitingCount, f_stackCount, f_factorCount, a_tokenKind, a_tokenContent, a_stepKind, a_stepToken, a_waitingKind, a_waitingToken, a_present, a_cells, a_leftTop, a_leftBottom, a_rightTop, a_rightBottom, a_top, a_bottom, a_product, a_quotient, a_common, a_spare, a_rest, a_divisor, a_inverse, a_numerator, a_factorDegrees, a_factorPowers, a_factorCells) v1 v2) ∧ (∀ {post : Int32 → Prop}, post (-1) → wpY_part post (f_count, f_place, f_opens, f_top, f_fault, f_faultAt, f_dry, f_found, a_c, a_there, a_kind, a_num, a_open, a_openAt, a_power, a_table) v1 v2)) ∨ ∃ a p, a < 7 ∧ p < 2 ∧ v1 = nI a ∧ v2 = nI p ∧ a_present a ≠ 0 ∧ (∀ {post : Int32 → Prop}, post 1 → wpX_hasPart post (f_tokenCount, f_latestPlace, f_stepCount, f_waitingCount, f_stackCount, f_factorCount, a_tokenKind, a_tokenContent, a_stepKind, a_stepToken, a_waitingKind, a_waitingToken, a_present, a_cells, a_leftTop, a_leftBottom, a_rightTop, a_rightBottom, a_top, a_bottom, a_product, a_quotient, a_common, a_spare, a_rest, a_divisor, a_inverse, a_numerator, a_factorDegrees, a_factorPowers, a_factorCells) v1 v2) ∧ (∀ {post : Int32 → Prop}, post (nI (52 + 2 * a + p)) → wpY_part post (f_count, f_place, f_opens, f_top, f_fault, f_faultAt, f_dry, f_found, a_c, a_there, a_kind, a_num, a_open, a_openAt, a_power, a_table) v1 v2) := by
  by_cases c0 : v1 < 0
  · exact Or.inl ⟨fun h => br_t c0 h, fun h => br_t c0 (br_t rfl h)⟩
  by_cases c7 : 7 ≤ v1
  · exact Or.inl ⟨fun h => br_f c0 (br_t c7 h), fun h => br_f c0 (br_t c7 (br_t rfl h))⟩
  obtain ⟨a, ha7, rfl⟩ := bb_7 c0 c7
  have i7 : vp_in (nI a) 7 := vp_in_nI ha7 (by omega)
  have ec : (nI a).toNatClampNeg = a := nI_clamp (by omega)
  by_cases ep : a_present a = 0
  · have eX : a_present (nI a).toNatClampNeg = 0 := by rw [ec]; exact ep
    have eY : a_there (nI a).toNatClampNeg = 0 := by rw [ec, ← eb a ha7]; exact ep
    exact Or.inl ⟨fun h => br_f c0 (br_f c7 (br_c (fun _ => ⟨i7, br_t eX h⟩) (fun _ => br_c (fun _ => ⟨i7, br_t eX h⟩) (fun _ => h)))), fun h => br_f c0 (br_f c7 ⟨i7, br_t eY (br_t rfl h)⟩)⟩
  · have eX : ¬ a_present (nI a).toNatClampNeg = 0 := by rw [ec]; exact ep
    have eY : ¬ a_there (nI a).toNatClampNeg = 0 := by rw [ec, ← eb a ha7]; exact ep
    have e52 : ∀ p : Nat, (52 : Int32) + 2 * nI a + nI p = nI (52 + 2 * a + p) := fun p => by
      rw [fi_2]
      have e : (52 : Int32) + nI (2 * a) = nI (52 + 2 * a) := nI_add 52 (2 * a)
      rw [e, nI_add]
    by_cases b0 : v2 = 0
    · subst b0
      refine Or.inr ⟨a, 0, ha7, by omega, rfl, rfl, ep, fun h => br_f c0 (br_f c7 (br_t rfl ⟨i7, br_f eX h⟩)), fun h => br_f c0 (br_f c7 ⟨i7, br_f eY (br_f (by decide) (br_f (by decide) (br_t (by decide) ?_)))⟩)⟩
      have e := e52 0
      have e' : (52 : Int32) + 2 * nI a + 0 = nI (52 + 2 * a + 0) := e
      rw [e']; exact h
    · by_cases b1 : v2 = 1
      · subst b1
        refine Or.inr ⟨a, 1, ha7, by omega, rfl, rfl, ep, fun h => br_f c0 (br_f c7 (br_f b0 (br_t rfl ⟨i7, br_f eX h⟩))), fun h => br_f c0 (br_f c7 ⟨i7, br_f eY (br_f (by decide) (br_f (by decide) (br_t (by decide) ?_)))⟩)⟩
        have e' : (52 : Int32) + 2 * nI a + 1 = nI (52 + 2 * a + 1) := e52 1
        rw [e']; exact h
      · refine Or.inl ⟨fun h => br_f c0 (br_f c7 (br_f b0 (br_f b1 h))), fun h => br_f c0 (br_f c7 ⟨i7, br_f eY (br_f (by decide) ?_)⟩)⟩
        by_cases d0 : v2 < 0
        · exact br_t d0 h
        · refine br_f d0 (br_f (fun d1 => ?_) h)
          obtain ⟨p, hp, rfl⟩ := nI_of d0
          have hp1 : p ≤ 1 := (nI_leI (b := 1) hp (by decide)).mp d1
          by_cases z : p = 0
          · subst z; exact b0 rfl
          · obtain rfl : p = 1 := by omega
            exact b1 rfl
theorem bb_has0 {v1 : Int32} (eb : ∀ n, n < 7 → a_present n = a_there n) : ((∀ {post : Int32 → Prop}, post 0 → wpX_hasPart post (f_tokenCount, f_latestPlace, f_stepCount, f_waitingCount, f_stackCount, f_factorCount, a_tokenKind, a_tokenContent, a_stepKind, a_stepToken, a_waitingKind, a_waitingToken, a_present, a_cells, a_leftTop, a_leftBottom, a_rightTop, a_rightBottom, a_top, a_bottom, a_product, a_quotient, a_common, a_spare, a_rest, a_divisor, a_inverse, a_numerator, a_factorDegrees, a_factorPowers, a_factorCells) v1 0) ∧ (∀ {post : Int32 → Prop}, post 0 → wpY_has post (f_count, f_place, f_opens, f_top, f_fault, f_faultAt, f_dry, f_found, a_c, a_there, a_kind, a_num, a_open, a_openAt, a_power, a_table) v1)) ∨ ∃ a, a < 7 ∧ v1 = nI a ∧ a_present a ≠ 0 ∧ (∀ {post : Int32 → Prop}, post 1 → wpX_hasPart post (f_tokenCount, f_latestPlace, f_stepCount, f_waitingCount, f_stackCount, f_factorCount, a_tokenKind, a_tokenContent, a_stepKind, a_stepToken, a_waitingKind, a_waitingToken, a_present, a_cells, a_leftTop, a_leftBottom, a_rightTop, a_rightBottom, a_top, a_bottom, a_product, a_quotient, a_common, a_spare, a_rest, a_divisor, a_inverse, a_numerator, a_factorDegrees, a_factorPowers, a_factorCells) v1 0) ∧ (∀ {post : Int32 → Prop}, post 1 → wpY_has post (f_count, f_place, f_opens, f_top, f_fault, f_faultAt, f_dry, f_found, a_c, a_there, a_kind, a_num, a_open, a_openAt, a_power, a_table) v1) := by
  by_cases c0 : v1 < 0
  · exact Or.inl ⟨fun h => br_t c0 h, fun h => br_t c0 h⟩
  by_cases c7 : 7 ≤ v1
  · exact Or.inl ⟨fun h => br_f c0 (br_t c7 h), fun h => br_f c0 (br_t c7 h)⟩
  obtain ⟨a, ha7, rfl⟩ := bb_7 c0 c7
  have i7 : vp_in (nI a) 7 := vp_in_nI ha7 (by omega)
  have ec : (nI a).toNatClampNeg = a := nI_clamp (by omega)
  by_cases ep : a_present a = 0
  · have eX : a_present (nI a).toNatClampNeg = 0 := by rw [ec]; exact ep
    have eY : a_there (nI a).toNatClampNeg = 0 := by rw [ec, ← eb a ha7]; exact ep
    exact Or.inl ⟨fun h => br_f c0 (br_f c7 (br_t rfl ⟨i7, br_t eX h⟩)), fun h => br_f c0 (br_f c7 ⟨i7, br_t eY h⟩)⟩
  · have eX : ¬ a_present (nI a).toNatClampNeg = 0 := by rw [ec]; exact ep
    have eY : ¬ a_there (nI a).toNatClampNeg = 0 := by rw [ec, ← eb a ha7]; exact ep
    exact Or.inr ⟨a, ha7, rfl, ep, fun h => br_f c0 (br_f c7 (br_t rfl ⟨i7, br_f eX h⟩)), fun h => br_f c0 (br_f c7 ⟨i7, br_f eY h⟩)⟩
end
theorem bb_part {u : SX} {v : SY} (v1 v2 : Int32) (I : bb_R u v) : ((∀ {post : Int32 → Prop}, post 0 → wpX_hasPart post u v1 v2) ∧ (∀ {post : Int32 → Prop}, post (-1) → wpY_part post v v1 v2)) ∨ ∃ a p, a < 7 ∧ p < 2 ∧ v1 = nI a ∧ v2 = nI p ∧ u.2.2.2.2.2.2.2.2.2.2.2.2.1 a ≠ 0 ∧ (∀ {post : Int32 → Prop}, post 1 → wpX_hasPart post u v1 v2) ∧ (∀ {post : Int32 → Prop}, post (nI (52 + 2 * a + p)) → wpY_part post v v1 v2) := by
  obtain ⟨cnt, g, T, kd, cn, pv, hc, e1, e2, e3, e4, tt, tk, p9, hb, eb, ep, hP⟩ := I
  obtain ⟨f_tokenCount, f_latestPlace, f_stepCount, f_waitingCount, f_stackCount, f_factorCount, a_tokenKind, a_tokenContent, a_stepKind, a_stepToken, a_waitingKind, a_waitingToken, a_present, a_cells, a_leftTop, a_leftBottom, a_rightTop, a_rightBottom, a_top, a_bottom, a_product, a_quotient, a_common, a_spare, a_rest, a_divisor, a_inverse, a_numerator, a_factorDegrees, a_factorPowers, a_factorCells⟩ := u
  obtain ⟨f_count, f_place, f_opens, f_top, f_fault, f_faultAt, f_dry, f_found, a_c, a_there, a_kind, a_num, a_open, a_openAt, a_power, a_table⟩ := v
  exact bb_part0 eb
theorem bb_has {u : SX} {v : SY} (v1 : Int32) (I : bb_R u v) : ((∀ {post : Int32 → Prop}, post 0 → wpX_hasPart post u v1 0) ∧ (∀ {post : Int32 → Prop}, post 0 → wpY_has post v v1)) ∨ ∃ a, a < 7 ∧ v1 = nI a ∧ u.2.2.2.2.2.2.2.2.2.2.2.2.1 a ≠ 0 ∧ (∀ {post : Int32 → Prop}, post 1 → wpX_hasPart post u v1 0) ∧ (∀ {post : Int32 → Prop}, post 1 → wpY_has post v v1) := by
  obtain ⟨cnt, g, T, kd, cn, pv, hc, e1, e2, e3, e4, tt, tk, p9, hb, eb, ep, hP⟩ := I
  obtain ⟨f_tokenCount, f_latestPlace, f_stepCount, f_waitingCount, f_stackCount, f_factorCount, a_tokenKind, a_tokenContent, a_stepKind, a_stepToken, a_waitingKind, a_waitingToken, a_present, a_cells, a_leftTop, a_leftBottom, a_rightTop, a_rightBottom, a_top, a_bottom, a_product, a_quotient, a_common, a_spare, a_rest, a_divisor, a_inverse, a_numerator, a_factorDegrees, a_factorPowers, a_factorCells⟩ := u
  obtain ⟨f_count, f_place, f_opens, f_top, f_fault, f_faultAt, f_dry, f_found, a_c, a_there, a_kind, a_num, a_open, a_openAt, a_power, a_table⟩ := v
  exact bb_has0 eb
/-- a part of a place that is there -/
theorem bb_get {pres cl : Nat → Int32} {g : Nat → Fin 5} {pv : Nat → Option (PF × PF)} (h : bb_P pres cl g pv) {a p : Nat} (ha : a < 7) (hp : p < 2) (hq : pres a ≠ 0) : ∃ C : PF, (∀ k, k < 9 → cl ((a * 2 + p) * 9 + k) = fi_I (C k)) ∧ pf_ln C 9 ∧ fi_s g (52 + 2 * a + p) = C := by
  rcases h a ha with ⟨x, y⟩ | ⟨w, x, y, d, e, f, o⟩
  · exact absurd y hq
  · by_cases c : p = 0
    · subst c; exact ⟨w.1, d.1, o.1, e⟩
    · obtain rfl : p = 1 := by omega
      have e5 : 52 + 2 * a + 1 = 53 + 2 * a := by omega
      exact ⟨w.2, d.2, o.2.1, by rw [e5]; exact f⟩
theorem bb_degree {u : SX} {v : SY} {v1 v2 : Int32} {Q : Int32 → Int32 → SX → SY → Prop} (I : bb_R u v) (h : ∀ r u' v', bb_R u' v' → Q r r u' v') : wpX_degree (fun r u' => wpY_degree (fun r' => Q r r' u' v) v v1 v2) u v1 v2 := by
  have B := bb_part v1 v2 I
  obtain ⟨f_tokenCount, f_latestPlace, f_stepCount, f_waitingCount, f_stackCount, f_factorCount, a_tokenKind, a_tokenContent, a_stepKind, a_stepToken, a_waitingKind, a_waitingToken, a_present, a_cells, a_leftTop, a_leftBottom, a_rightTop, a_rightBottom, a_top, a_bottom, a_product, a_quotient, a_common, a_spare, a_rest, a_divisor, a_inverse, a_numerator, a_factorDegrees, a_factorPowers, a_factorCells⟩ := u
  obtain ⟨f_count, f_place, f_opens, f_top, f_fault, f_faultAt, f_dry, f_found, a_c, a_there, a_kind, a_num, a_open, a_openAt, a_power, a_table⟩ := v
  have I0 := I
  obtain ⟨cnt, g, T, kd, cn, pv, hc, e1, e2, e3, e4, tt, tk, p9, hb, eb, ep, hP⟩ := I
  dsimp only at e1 e2 e3 e4 tt tk hb eb ep hP B
  subst e1 e2 e3 e4 ep
  unfold wpX_degree wpY_degree
  dsimp only
  rcases B with ⟨hx, hy⟩ | ⟨a, p, ha, hp, rfl, rfl, pa, hx, hy⟩
  · exact hx (br_t rfl (hy (br_f (by decide) (h _ _ _ I0))))
  · obtain ⟨C, hC, lC, eS⟩ := bb_get hP ha hp pa
    refine hx (br_f (by decide) (xf_load__rest a p (by omega) hp hC lC (fun a_rest hr => xf_degreeOf__rest hr (pf_ln_mono lC (by omega)) (fun z => ?_) (fun d hd hD => ?_))))
    · exact hy (br_t (nI_pos' (by omega)) (yc_deg (52 + 2 * a + p) (by omega) (fun _ => h _ _ _ ⟨cnt, g, T, kd, cn, pv, hc, rfl, rfl, rfl, rfl, tt, tk, p9, hb, eb, rfl, hP⟩) (fun d hd hD => absurd (eS.trans z) (pf_hd_n0 hD))))
    · refine hy (br_t (nI_pos' (by omega)) (yc_deg (52 + 2 * a + p) (by omega) (fun z => absurd (eS.symm.trans z) (pf_hd_n0 hD)) (fun d2 hd2 hD2 => ?_)))
      rw [eS] at hD2
      obtain rfl := pf_hd_u hD2 hD
      exact h _ _ _ ⟨cnt, g, T, kd, cn, pv, hc, rfl, rfl, rfl, rfl, tt, tk, p9, hb, eb, rfl, hP⟩
theorem bb_number {u : SX} {v : SY} {v1 v2 v3 : Int32} {Q : Int32 → Int32 → SX → SY → Prop} (I : bb_R u v) (h : ∀ r u' v', bb_R u' v' → Q r r u' v') : wpX_number (fun r u' => wpY_number (fun r' => Q r r' u' v) v v1 v2 v3) u v1 v2 v3 := by
  have B := bb_part v1 v2 I
  obtain ⟨f_tokenCount, f_latestPlace, f_stepCount, f_waitingCount, f_stackCount, f_factorCount, a_tokenKind, a_tokenContent, a_stepKind, a_stepToken, a_waitingKind, a_waitingToken, a_present, a_cells, a_leftTop, a_leftBottom, a_rightTop, a_rightBottom, a_top, a_bottom, a_product, a_quotient, a_common, a_spare, a_rest, a_divisor, a_inverse, a_numerator, a_factorDegrees, a_factorPowers, a_factorCells⟩ := u
  obtain ⟨f_count, f_place, f_opens, f_top, f_fault, f_faultAt, f_dry, f_found, a_c, a_there, a_kind, a_num, a_open, a_openAt, a_power, a_table⟩ := v
  have I0 := I
  obtain ⟨cnt, g, T, kd, cn, pv, hc, e1, e2, e3, e4, tt, tk, p9, hb, eb, ep, hP⟩ := I
  dsimp only at e1 e2 e3 e4 tt tk hb eb ep hP B
  subst e1 e2 e3 e4 ep
  unfold wpX_number wpY_number
  dsimp only
  rcases B with ⟨hx, hy⟩ | ⟨a, p, ha, hp, rfl, rfl, pa, hx, hy⟩
  · exact hx (br_t rfl (hy (br_t (by decide) (h _ _ _ I0))))
  · obtain ⟨C, hC, lC, eS⟩ := bb_get hP ha hp pa
    by_cases c0 : v3 < 0
    · exact hx (br_f (by decide) (br_t c0 (hy (br_f (nI_pos (by omega)) (br_t c0 (h _ _ _ I0))))))
    by_cases c8 : v3 ≤ 8
    · refine hx (br_f (by decide) (br_f c0 (br_t c8 (xf_load__rest a p (by omega) hp hC lC (fun a_rest hr => ⟨xl_i8 c0 c8, ?_⟩)))))
      obtain ⟨k, hk, rfl⟩ := nI_of c0
      have hk8 : k ≤ 8 := (nI_leI (b := 8) hk (by decide)).mp c8
      refine hy (br_f (nI_pos (by omega)) (br_f c0 (br_t c8 ⟨pk_in (20 * (52 + 2 * a + p) + k) 1800 (by omega) (fi_ix _ _), ?_⟩)))
      have e : fi_m g (20 * nI (52 + 2 * a + p) + nI k).toNatClampNeg = a_rest (nI k).toNatClampNeg := by
        rw [fi_ix, nI_clamp (by omega), nI_clamp (by omega), hr k (by omega), ← eS, fi_s_at (by omega)]; rfl
      rw [e]
      exact h _ _ _ ⟨cnt, g, T, kd, cn, pv, hc, rfl, rfl, rfl, rfl, tt, tk, p9, hb, eb, rfl, hP⟩
    · exact hx (br_f (by decide) (br_f c0 (br_f c8 (hy (br_f (nI_pos (by omega)) (br_f c0 (br_f c8 (h _ _ _ I0))))))))
theorem bb_value {u : SX} {v : SY} {v1 v2 : Int32} {Q : Int32 → Int32 → SX → SY → Prop} (I : bb_R u v) (h : ∀ r u' v', bb_R u' v' → Q r r u' v') : wpX_value (fun r u' => wpY_value (fun r' => Q r r' u' v) v v1 v2) u v1 v2 := by
  have B := bb_has v1 I
  obtain ⟨f_tokenCount, f_latestPlace, f_stepCount, f_waitingCount, f_stackCount, f_factorCount, a_tokenKind, a_tokenContent, a_stepKind, a_stepToken, a_waitingKind, a_waitingToken, a_present, a_cells, a_leftTop, a_leftBottom, a_rightTop, a_rightBottom, a_top, a_bottom, a_product, a_quotient, a_common, a_spare, a_rest, a_divisor, a_inverse, a_numerator, a_factorDegrees, a_factorPowers, a_factorCells⟩ := u
  obtain ⟨f_count, f_place, f_opens, f_top, f_fault, f_faultAt, f_dry, f_found, a_c, a_there, a_kind, a_num, a_open, a_openAt, a_power, a_table⟩ := v
  have I0 := I
  obtain ⟨cnt, g, T, kd, cn, pv, hc, e1, e2, e3, e4, tt, tk, p9, hb, eb, ep, hP⟩ := I
  dsimp only at e1 e2 e3 e4 tt tk hb eb ep hP B
  subst e1 e2 e3 e4 ep
  unfold wpX_value
  dsimp only
  rcases B with ⟨hx, hy⟩ | ⟨a, ha, rfl, pa, hx, hy⟩
  · refine hx (br_t rfl ?_)
    unfold wpY_value
    exact hy (br_t rfl (h _ _ _ I0))
  · obtain ⟨C, hC, lC, eS⟩ := bb_get (p := 0) hP ha (by omega) pa
    obtain ⟨D, hD, lD, eT⟩ := bb_get (p := 1) hP ha (by omega) pa
    have e52 : (52 : Int32) + 2 * nI a = nI (52 + 2 * a + 0) := by rw [fi_2]; exact nI_add 52 (2 * a)
    have e53 : (53 : Int32) + 2 * nI a = nI (52 + 2 * a + 1) := by
      rw [fi_2]
      have e : 52 + 2 * a + 1 = 53 + 2 * a := by omega
      rw [e]; exact nI_add 53 (2 * a)
    have h1 : pf_hn (fi_s g (52 + 2 * a + 0)) (fi_z v2) 19 20 = pf_hn C (fi_z v2) 16 17 := by rw [eS, pf_hn_19 (pf_ln_mono lC (by omega))]
    have h2 : pf_hn (fi_s g (52 + 2 * a + 1)) (fi_z v2) 19 20 = pf_hn D (fi_z v2) 16 17 := by rw [eT, pf_hn_19 (pf_ln_mono lD (by omega))]
    refine hx (br_f (by decide) (xf_load__leftTop a 0 (by omega) (by omega) hC lC (fun a_leftTop ht => xf_load__leftBottom a 1 (by omega) (by omega) hD lD (fun a_leftBottom hl => xg_modulo (xf_valueAt__leftBottom (fi_z v2) hl ?_)))))
    have Y : ∀ R : Int32, ∀ u' : SX, (pf_hn D (fi_z v2) 16 17 = 0 → Q R 5 u' (nI cnt, f_latestPlace, f_opens, f_top, f_fault, f_faultAt, f_dry, f_found, fi_m g, a_there, a_kind, a_num, a_open, a_openAt, a_power, fi_m T)) → (¬ pf_hn D (fi_z v2) 16 17 = 0 → Q R (fi_I (pf_hn C (fi_z v2) 16 17 * (pf_hn D (fi_z v2) 16 17 * pf_hn D (fi_z v2) 16 17 * pf_hn D (fi_z v2) 16 17))) u' (nI cnt, f_latestPlace, f_opens, f_top, f_fault, f_faultAt, f_dry, f_found, fi_m g, a_there, a_kind, a_num, a_open, a_openAt, a_power, fi_m T)) → wpY_value (fun r' => Q R r' u' (nI cnt, f_latestPlace, f_opens, f_top, f_fault, f_faultAt, f_dry, f_found, fi_m g, a_there, a_kind, a_num, a_open, a_openAt, a_power, fi_m T)) (nI cnt, f_latestPlace, f_opens, f_top, f_fault, f_faultAt, f_dry, f_found, fi_m g, a_there, a_kind, a_num, a_open, a_openAt, a_power, fi_m T) (nI a) v2 := by
      intro R u' q0 q1
      unfold wpY_value
      dsimp only
      refine hy (br_f (by decide) (yc_mod rfl (yc_valueOf (52 + 2 * a + 0) (fi_z v2) (by omega) (yc_valueOf (52 + 2 * a + 1) (fi_z v2) (by omega) ?_ e53) e52)))
      rw [h1, h2]
      by_cases c : pf_hn D (fi_z v2) 16 17 = 0
      · exact br_t (by rw [c]; rfl) (q0 c)
      · exact br_f (fun e => c ((fi_0 _).mp e)) (yc_inv (yc_mod (fi_mm _ _) (q1 c)))
    by_cases c : pf_hn D (fi_z v2) 16 17 = 0
    · exact br_t (by rw [c]; rfl) (Y _ _ (fun _ => h _ _ _ ⟨cnt, g, T, kd, cn, pv, hc, rfl, rfl, rfl, rfl, tt, tk, p9, hb, eb, rfl, hP⟩) (fun z => absurd c z))
    · refine br_f (fun e => c ((fi_0 _).mp e)) (xf_valueAt__leftTop (fi_z v2) ht ⟨by decide, ⟨by decide, ?_⟩⟩)
      rw [xm_inv, xm_mm]
      exact Y _ _ (fun z => absurd z c) (fun _ => h _ _ _ ⟨cnt, g, T, kd, cn, pv, hc, rfl, rfl, rfl, rfl, tt, tk, p9, hb, eb, rfl, hP⟩)
