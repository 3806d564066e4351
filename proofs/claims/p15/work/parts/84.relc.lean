/-! The strong relation: factorDegree, factor, power answer alike -/
theorem pf_Sp_dv {a r : PF} {m : Nat} {F : Nat → PF} {D n : Nat → Nat} (S : pf_Sp a r m F D n) {i : Nat} (hi : i < m) : pf_dv (F i) a := by
  refine pf_dv_t ?_ (S.2.2.2.2.1 i hi)
  obtain ⟨k, ek⟩ : ∃ k, n i = k + 1 := ⟨n i - 1, by have := S.2.1 i hi; omega⟩
  rw [ek]
  exact pf_dv_ml (pf_dv_r _) (pf_fin_pow (pf_hd_fin (S.1 i hi).1) k)
theorem pf_Sp_D {a r : PF} {m N : Nat} {F : Nat → PF} {D n : Nat → Nat} (S : pf_Sp a r m F D n) (hA : pf_hd a N) {i : Nat} (hi : i < m) : D i ≤ N := by
  obtain ⟨d, _, h1, _, h2, _⟩ := pf_dv_hd (pf_Sp_dv S hi) hA (pf_hd_fin (S.1 i hi).1)
  have := pf_hd_u (S.1 i hi).1 h1
  omega
section
variable {f_count f_place f_opens f_top f_fault f_faultAt f_dry f_found : Int32} {a_c a_there a_kind a_num a_open a_openAt a_power a_table : Nat → Int32}
theorem yk_factors {post : Int32 → SY → Prop} {g : Nat → Fin 5} {x y : Int32} (a p : Nat) (ha : a < 7) (hp : p < 2) (pl9 : ya_9 g) (hy : ∀ {post : Int32 → Prop}, post (nI (52 + 2 * a + p)) → wpY_part post (f_count, f_place, f_opens, f_top, f_fault, f_faultAt, f_dry, f_found, fi_m g, a_there, a_kind, a_num, a_open, a_openAt, a_power, a_table) x y)
    (h0 : fi_s g (52 + 2 * a + p) = pf_c 0 → post (-1) (f_count, f_place, f_opens, f_top, f_fault, f_faultAt, f_dry, f_found, fi_m g, a_there, a_kind, a_num, a_open, a_openAt, a_power, a_table))
    (h1 : ∀ (m : Nat) (g' : Nat → Fin 5) (pw : Nat → Int32), m ≤ 8 → ys_fr g g' → fi_s g (52 + 2 * a + p) ≠ pf_c 0 → ys_ok g' (fi_s g (52 + 2 * a + p)) m pw → post (nI m) (f_count, f_place, f_opens, f_top, f_fault, f_faultAt, f_dry, nI m, fi_m g', a_there, a_kind, a_num, a_open, a_openAt, pw, a_table)) :
    wpY_factors post (f_count, f_place, f_opens, f_top, f_fault, f_faultAt, f_dry, f_found, fi_m g, a_there, a_kind, a_num, a_open, a_openAt, a_power, a_table) x y := by
  unfold wpY_factors
  refine hy (br_f (nI_pos (by omega)) ?_)
  refine yc_deg (52 + 2 * a + p) (by omega) (fun z => br_f (by decide) (h0 z)) (fun d hd hD => br_t (nI_pos' (by omega)) ?_)
  exact yc_split (52 + 2 * a + p) (by omega) (by omega) (pl9 _ (by omega) (by omega)) (fun g' m pw hm fr ok => h1 m g' pw hm fr (pf_hd_n0 hD) ok)
end
section
variable {f_tokenCount f_latestPlace f_stepCount f_waitingCount f_stackCount f_factorCount : Int32} {a_tokenKind a_tokenContent a_stepKind a_stepToken a_waitingKind a_waitingToken a_present a_cells a_leftTop a_leftBottom a_rightTop a_rightBottom a_top a_bottom a_product a_quotient a_common a_spare a_rest a_divisor a_inverse a_numerator a_factorDegrees a_factorPowers a_factorCells : Nat → Int32}
theorem bb_kx {b_fc : Int32} {b_leftTop b_leftBottom b_rightTop b_rightBottom b_top b_bottom b_product b_quotient b_common b_spare b_rest b_divisor b_inverse b_numerator b_factorDegrees b_factorPowers b_factorCells : Nat → Int32} {v : SY} (R : bb_R (f_tokenCount, f_latestPlace, f_stepCount, f_waitingCount, f_stackCount, f_factorCount, a_tokenKind, a_tokenContent, a_stepKind, a_stepToken, a_waitingKind, a_waitingToken, a_present, a_cells, a_leftTop, a_leftBottom, a_rightTop, a_rightBottom, a_top, a_bottom, a_product, a_quotient, a_common, a_spare, a_rest, a_divisor, a_inverse, a_numerator, a_factorDegrees, a_factorPowers, a_factorCells) v) : bb_R (f_tokenCount, f_latestPlace, f_stepCount, f_waitingCount, f_stackCount, b_fc, a_tokenKind, a_tokenContent, a_stepKind, a_stepToken, a_waitingKind, a_waitingToken, a_present, a_cells, b_leftTop, b_leftBottom, b_rightTop, b_rightBottom, b_top, b_bottom, b_product, b_quotient, b_common, b_spare, b_rest, b_divisor, b_inverse, b_numerator, b_factorDegrees, b_factorPowers, b_factorCells) v := by
  obtain ⟨cnt, g, T, kd, cn, pv, hc, e1, e2, e3, e4, tt, tk, p9, hb, eb, ep, hP⟩ := R
  dsimp only at e1 tt hb eb ep hP
  exact ⟨cnt, g, T, kd, cn, pv, hc, e1, e2, e3, e4, tt, tk, p9, hb, eb, ep, hP⟩
end
theorem bb_m1 {x : Int32} (h : ¬ x < 0) : (-1 : Int32) ≤ x := by
  obtain ⟨i, hi, rfl⟩ := nI_of h
  exact Int32.le_of_lt (fi_nm1 hi)
theorem bb_fac {u : SX} {v : SY} {v1 v2 v3 : Int32} {post : Int32 → SX → Prop} (I : bb_R u v)
    (hA : ∀ u' : SX, (∀ v', bb_R u v' → bb_R u' v') → (∀ {postY : Int32 → SY → Prop}, (∀ r v', bb_R u v' → (v3 < 0 ∨ r ≤ v3) → postY r v') → wpY_factors postY v v1 v2) → post 0 u')
    (hB : ∀ (u' : SX) (i m D n : Nat) (F : PF), (∀ v', bb_R u v' → bb_R u' v') → i < m → m ≤ 8 → v3 = nI i → pf_hd F D → D ≤ 8 → u'.2.2.2.2.2.2.2.2.2.2.2.2.2.2.2.2.2.2.2.2.2.2.2.2.2.2.2.2.1 i = nI D → u'.2.2.2.2.2.2.2.2.2.2.2.2.2.2.2.2.2.2.2.2.2.2.2.2.2.2.2.2.2.1 i = nI n → (∀ k, k < 9 → u'.2.2.2.2.2.2.2.2.2.2.2.2.2.2.2.2.2.2.2.2.2.2.2.2.2.2.2.2.2.2 (i * 9 + k) = fi_I (F k)) →
      (∀ {postY : Int32 → SY → Prop}, (∀ v' (g' : Nat → Fin 5), bb_R u v' → v'.2.2.2.2.2.2.2.2.1 = fi_m g' → fi_s g' (72 + i) = F → v'.2.2.2.2.2.2.2.2.2.2.2.2.2.2.1 i = nI n → postY (nI m) v') → wpY_factors postY v v1 v2) → post 1 u') : wpX_hasFactor post u v1 v2 v3 := by
  have B := bb_part v1 v2 I
  obtain ⟨f_tokenCount, f_latestPlace, f_stepCount, f_waitingCount, f_stackCount, f_factorCount, a_tokenKind, a_tokenContent, a_stepKind, a_stepToken, a_waitingKind, a_waitingToken, a_present, a_cells, a_leftTop, a_leftBottom, a_rightTop, a_rightBottom, a_top, a_bottom, a_product, a_quotient, a_common, a_spare, a_rest, a_divisor, a_inverse, a_numerator, a_factorDegrees, a_factorPowers, a_factorCells⟩ := u
  obtain ⟨f_count, f_place, f_opens, f_top, f_fault, f_faultAt, f_dry, f_found, a_c, a_there, a_kind, a_num, a_open, a_openAt, a_power, a_table⟩ := v
  have I0 := I
  obtain ⟨cnt, g, T, kd, cn, pv, hc, e1, e2, e3, e4, tt, tk, p9, hb, eb, ep, hP⟩ := I
  dsimp only at e1 e2 e3 e4 tt tk hb eb ep hP B
  subst e1 e2 e3 e4 ep
  unfold wpX_hasFactor
  dsimp only
  rcases B with ⟨hx, hy⟩ | ⟨a, p, ha, hp, rfl, rfl, pa, hx, hy⟩
  · refine hx (br_t rfl (hA _ (fun _ R => bb_kx R) (fun {postY} h => ?_)))
    unfold wpY_factors
    refine hy (br_t (by decide) (h _ _ I0 ?_))
    by_cases c : v3 < 0
    · exact Or.inl c
    · exact Or.inr (bb_m1 c)
  · obtain ⟨C, hC, lC, eS⟩ := bb_get hP ha hp pa
    have Y : ∀ {postY : Int32 → SY → Prop}, (C = pf_c 0 → postY (-1) (nI cnt, f_latestPlace, f_opens, f_top, f_fault, f_faultAt, f_dry, f_found, fi_m g, a_there, a_kind, a_num, a_open, a_openAt, a_power, fi_m T)) → (∀ (m' : Nat) (g' : Nat → Fin 5) (pw : Nat → Int32), bb_R (nI cnt, f_latestPlace, f_stepCount, f_waitingCount, f_stackCount, f_factorCount, a_tokenKind, a_tokenContent, a_stepKind, a_stepToken, a_waitingKind, a_waitingToken, a_present, a_cells, a_leftTop, a_leftBottom, a_rightTop, a_rightBottom, a_top, a_bottom, a_product, a_quotient, a_common, a_spare, a_rest, a_divisor, a_inverse, a_numerator, a_factorDegrees, a_factorPowers, a_factorCells) (nI cnt, f_latestPlace, f_opens, f_top, f_fault, f_faultAt, f_dry, nI m', fi_m g', a_there, a_kind, a_num, a_open, a_openAt, pw, fi_m T) → m' ≤ 8 → C ≠ pf_c 0 → ys_ok g' C m' pw → postY (nI m') (nI cnt, f_latestPlace, f_opens, f_top, f_fault, f_faultAt, f_dry, nI m', fi_m g', a_there, a_kind, a_num, a_open, a_openAt, pw, fi_m T)) → wpY_factors postY (nI cnt, f_latestPlace, f_opens, f_top, f_fault, f_faultAt, f_dry, f_found, fi_m g, a_there, a_kind, a_num, a_open, a_openAt, a_power, fi_m T) (nI a) (nI p) := by
      intro postY y0 y1
      refine yk_factors a p ha hp p9 hy (fun z => y0 (eS ▸ z)) (fun m' g' pw hm' fr nz ok' => ?_)
      rw [eS] at nz ok'
      exact y1 m' g' pw ⟨cnt, g', T, kd, cn, pv, hc, rfl, rfl, rfl, rfl, tt, tk, ya_9_fr p9 fr, hb, eb, rfl, bb_Pg hP (ya_pl_fr fr)⟩ hm' nz ok'
    refine hx (br_f (by decide) (xk_split a p (by omega) hp hC lC (fun m a_rest a_divisor a_spare a_quotient a_factorDegrees a_factorPowers a_factorCells hm ok => ?_)))
    by_cases c0 : v3 < 0
    · exact br_t c0 (hA _ (fun _ R => bb_kx R) (fun {postY} h => Y (fun _ => h _ _ I0 (Or.inl c0)) (fun m' g' pw R _ _ _ => h _ _ R (Or.inl c0))))
    · obtain ⟨i, hi, rfl⟩ := nI_of c0
      by_cases c1 : i < m
      · rcases ok with ⟨_, z⟩ | ⟨N, r, F, D, n, hN, S, so, hr, fs⟩
        · omega
        · have hN9 := pf_hd_lt hN lC
          have hD := pf_Sp_D S hN c1
          refine br_f c0 (br_f (nI_ge c1 (by omega)) (hB _ i m (D i) (n i) (F i) (fun _ R => bb_kx R) c1 hm rfl (S.1 i c1).1 (by omega) (fs i c1).1 (fs i c1).2.1 (fs i c1).2.2 (fun {postY} h => Y (fun z => absurd z (pf_hd_n0 hN)) (fun m' g' pw R _ nz ok' => ?_))))
          rcases ok' with ⟨z, _⟩ | ⟨N', r', D', n', _, S', hr'⟩
          · exact absurd z nz
          · obtain ⟨em, eu⟩ := pf_so_u S S'.1 hr hr' so S'.2.2
            subst em
            obtain ⟨eD, eF, en⟩ := eu i c1
            exact h _ g' R rfl eF.symm ((S'.2.1 i c1).trans (by rw [en]))
      · refine br_f c0 (br_t (nI_le (by omega) hi) (hA _ (fun _ R => bb_kx R) (fun {postY} h => Y (fun _ => h _ _ I0 (Or.inr (bb_m1 c0))) (fun m' g' pw R _ nz ok' => h _ _ R (Or.inr ?_)))))
        rcases ok with ⟨z, _⟩ | ⟨N, r, F, D, n, hN, S, so, hr, fs⟩
        · exact absurd z nz
        · rcases ok' with ⟨z, _⟩ | ⟨N', r', D', n', _, S', hr'⟩
          · exact absurd z nz
          · obtain ⟨em, eu⟩ := pf_so_u S S'.1 hr hr' so S'.2.2
            subst em
            exact nI_le (by omega) hi
theorem bb_factorDegree2 {u : SX} {v : SY} {v1 v2 v3 : Int32} {Q : Int32 → Int32 → SX → SY → Prop} (I : bb_R u v) (h : ∀ r u' v', bb_R u' v' → Q r r u' v') : wpX_factorDegree (fun r u' => wpY_factorDegree (fun r' v' => Q r r' u' v') v v1 v2 v3) u v1 v2 v3 := by
  have I0 := I
  obtain ⟨f_tokenCount, f_latestPlace, f_stepCount, f_waitingCount, f_stackCount, f_factorCount, a_tokenKind, a_tokenContent, a_stepKind, a_stepToken, a_waitingKind, a_waitingToken, a_present, a_cells, a_leftTop, a_leftBottom, a_rightTop, a_rightBottom, a_top, a_bottom, a_product, a_quotient, a_common, a_spare, a_rest, a_divisor, a_inverse, a_numerator, a_factorDegrees, a_factorPowers, a_factorCells⟩ := u
  unfold wpX_factorDegree
  dsimp only
  refine bb_fac I0 (fun u' k hy => ?_) (fun u' i m D n F k him hm e3 hF hD8 f1 f2 f3 hy => ?_)
  · obtain ⟨f_tokenCount, f_latestPlace, f_stepCount, f_waitingCount, f_stackCount, f_factorCount, a_tokenKind, a_tokenContent, a_stepKind, a_stepToken, a_waitingKind, a_waitingToken, a_present, a_cells, a_leftTop, a_leftBottom, a_rightTop, a_rightBottom, a_top, a_bottom, a_product, a_quotient, a_common, a_spare, a_rest, a_divisor, a_inverse, a_numerator, a_factorDegrees, a_factorPowers, a_factorCells⟩ := u'
    obtain ⟨f_count, f_place, f_opens, f_top, f_fault, f_faultAt, f_dry, f_found, a_c, a_there, a_kind, a_num, a_open, a_openAt, a_power, a_table⟩ := v
    dsimp only
    refine br_t rfl ?_
    unfold wpY_factorDegree
    dsimp only
    refine hy (fun r v' R hr => ?_)
    obtain ⟨f_count, f_place, f_opens, f_top, f_fault, f_faultAt, f_dry, f_found, a_c, a_there, a_kind, a_num, a_open, a_openAt, a_power, a_table⟩ := v'
    dsimp only
    by_cases c : v3 < 0
    · exact br_t c (h _ _ _ (k _ R))
    · exact br_f c (br_f (Int32.not_lt.mpr (hr.resolve_left c)) (h _ _ _ (k _ R)))
  · obtain ⟨f_tokenCount, f_latestPlace, f_stepCount, f_waitingCount, f_stackCount, f_factorCount, a_tokenKind, a_tokenContent, a_stepKind, a_stepToken, a_waitingKind, a_waitingToken, a_present, a_cells, a_leftTop, a_leftBottom, a_rightTop, a_rightBottom, a_top, a_bottom, a_product, a_quotient, a_common, a_spare, a_rest, a_divisor, a_inverse, a_numerator, a_factorDegrees, a_factorPowers, a_factorCells⟩ := u'
    obtain ⟨f_count, f_place, f_opens, f_top, f_fault, f_faultAt, f_dry, f_found, a_c, a_there, a_kind, a_num, a_open, a_openAt, a_power, a_table⟩ := v
    dsimp only at f1 f2 f3 ⊢
    subst e3
    refine br_f (by decide) ⟨vp_in_nI (by omega) (by omega), ?_⟩
    rw [nI_clamp (by omega), f1]
    unfold wpY_factorDegree
    dsimp only
    refine hy (fun v' g' R eg eF ep => ?_)
    obtain ⟨f_count, f_place, f_opens, f_top, f_fault, f_faultAt, f_dry, f_found, a_c, a_there, a_kind, a_num, a_open, a_openAt, a_power, a_table⟩ := v'
    dsimp only at eg ep ⊢
    subst eg
    refine br_f (nI_pos (by omega)) (br_t (nI_lt him (by omega)) (yc_deg (72 + i) (by omega) (fun z => ?_) (fun d hd hd2 => ?_) (fi_72 i)))
    · rw [eF] at z; exact absurd z (pf_hd_n0 hF)
    · rw [eF] at hd2
      obtain rfl := pf_hd_u hd2 hF
      exact h _ _ _ (k _ R)
theorem bb_power2 {u : SX} {v : SY} {v1 v2 v3 : Int32} {Q : Int32 → Int32 → SX → SY → Prop} (I : bb_R u v) (h : ∀ r u' v', bb_R u' v' → Q r r u' v') : wpX_power (fun r u' => wpY_power (fun r' v' => Q r r' u' v') v v1 v2 v3) u v1 v2 v3 := by
  have I0 := I
  obtain ⟨f_tokenCount, f_latestPlace, f_stepCount, f_waitingCount, f_stackCount, f_factorCount, a_tokenKind, a_tokenContent, a_stepKind, a_stepToken, a_waitingKind, a_waitingToken, a_present, a_cells, a_leftTop, a_leftBottom, a_rightTop, a_rightBottom, a_top, a_bottom, a_product, a_quotient, a_common, a_spare, a_rest, a_divisor, a_inverse, a_numerator, a_factorDegrees, a_factorPowers, a_factorCells⟩ := u
  unfold wpX_power
  dsimp only
  refine bb_fac I0 (fun u' k hy => ?_) (fun u' i m D n F k him hm e3 hF hD8 f1 f2 f3 hy => ?_)
  · obtain ⟨f_tokenCount, f_latestPlace, f_stepCount, f_waitingCount, f_stackCount, f_factorCount, a_tokenKind, a_tokenContent, a_stepKind, a_stepToken, a_waitingKind, a_waitingToken, a_present, a_cells, a_leftTop, a_leftBottom, a_rightTop, a_rightBottom, a_top, a_bottom, a_product, a_quotient, a_common, a_spare, a_rest, a_divisor, a_inverse, a_numerator, a_factorDegrees, a_factorPowers, a_factorCells⟩ := u'
    obtain ⟨f_count, f_place, f_opens, f_top, f_fault, f_faultAt, f_dry, f_found, a_c, a_there, a_kind, a_num, a_open, a_openAt, a_power, a_table⟩ := v
    dsimp only
    refine br_t rfl ?_
    unfold wpY_power
    dsimp only
    refine hy (fun r v' R hr => ?_)
    obtain ⟨f_count, f_place, f_opens, f_top, f_fault, f_faultAt, f_dry, f_found, a_c, a_there, a_kind, a_num, a_open, a_openAt, a_power, a_table⟩ := v'
    dsimp only
    by_cases c : v3 < 0
    · exact br_t c (h _ _ _ (k _ R))
    · exact br_f c (br_f (Int32.not_lt.mpr (hr.resolve_left c)) (h _ _ _ (k _ R)))
  · obtain ⟨f_tokenCount, f_latestPlace, f_stepCount, f_waitingCount, f_stackCount, f_factorCount, a_tokenKind, a_tokenContent, a_stepKind, a_stepToken, a_waitingKind, a_waitingToken, a_present, a_cells, a_leftTop, a_leftBottom, a_rightTop, a_rightBottom, a_top, a_bottom, a_product, a_quotient, a_common, a_spare, a_rest, a_divisor, a_inverse, a_numerator, a_factorDegrees, a_factorPowers, a_factorCells⟩ := u'
    obtain ⟨f_count, f_place, f_opens, f_top, f_fault, f_faultAt, f_dry, f_found, a_c, a_there, a_kind, a_num, a_open, a_openAt, a_power, a_table⟩ := v
    dsimp only at f1 f2 f3 ⊢
    subst e3
    refine br_f (by decide) ⟨vp_in_nI (by omega) (by omega), ?_⟩
    rw [nI_clamp (by omega), f2]
    unfold wpY_power
    dsimp only
    refine hy (fun v' g' R eg eF ep => ?_)
    obtain ⟨f_count, f_place, f_opens, f_top, f_fault, f_faultAt, f_dry, f_found, a_c, a_there, a_kind, a_num, a_open, a_openAt, a_power, a_table⟩ := v'
    dsimp only at eg ep ⊢
    subst eg
    refine br_f (nI_pos (by omega)) (br_t (nI_lt him (by omega)) ⟨vp_in_nI (by omega) (by omega), ?_⟩)
    rw [nI_clamp (by omega), ep]
    exact h _ _ _ (k _ R)
theorem bb_factor2 {u : SX} {v : SY} {v1 v2 v3 v4 : Int32} {Q : Int32 → Int32 → SX → SY → Prop} (I : bb_R u v) (h : ∀ r u' v', bb_R u' v' → Q r r u' v') : wpX_factor (fun r u' => wpY_factor (fun r' v' => Q r r' u' v') v v1 v2 v3 v4) u v1 v2 v3 v4 := by
  have I0 := I
  by_cases k0 : v4 < 0 ∨ 8 < v4
  · have Y : wpY_factor (fun r' v' => Q 0 r' u v') v v1 v2 v3 v4 := by
      obtain ⟨f_tokenCount, f_latestPlace, f_stepCount, f_waitingCount, f_stackCount, f_factorCount, a_tokenKind, a_tokenContent, a_stepKind, a_stepToken, a_waitingKind, a_waitingToken, a_present, a_cells, a_leftTop, a_leftBottom, a_rightTop, a_rightBottom, a_top, a_bottom, a_product, a_quotient, a_common, a_spare, a_rest, a_divisor, a_inverse, a_numerator, a_factorDegrees, a_factorPowers, a_factorCells⟩ := u
      obtain ⟨f_count, f_place, f_opens, f_top, f_fault, f_faultAt, f_dry, f_found, a_c, a_there, a_kind, a_num, a_open, a_openAt, a_power, a_table⟩ := v
      obtain ⟨cnt, g, T, kd, cn, pv, hc, e1, e2, e3, e4, tt, tk, p9, hb, eb, ep, hP⟩ := I
      dsimp only at e1 e2 e3 e4 tt tk hb eb ep hP
      subst e1 e2 e3 e4 ep
      have L : ∀ v' : SY, bb_R (nI cnt, f_latestPlace, f_stepCount, f_waitingCount, f_stackCount, f_factorCount, a_tokenKind, a_tokenContent, a_stepKind, a_stepToken, a_waitingKind, a_waitingToken, a_present, a_cells, a_leftTop, a_leftBottom, a_rightTop, a_rightBottom, a_top, a_bottom, a_product, a_quotient, a_common, a_spare, a_rest, a_divisor, a_inverse, a_numerator, a_factorDegrees, a_factorPowers, a_factorCells) v' → (v4 < 0 → Q 0 0 (nI cnt, f_latestPlace, f_stepCount, f_waitingCount, f_stackCount, f_factorCount, a_tokenKind, a_tokenContent, a_stepKind, a_stepToken, a_waitingKind, a_waitingToken, a_present, a_cells, a_leftTop, a_leftBottom, a_rightTop, a_rightBottom, a_top, a_bottom, a_product, a_quotient, a_common, a_spare, a_rest, a_divisor, a_inverse, a_numerator, a_factorDegrees, a_factorPowers, a_factorCells) v') ∧ (¬ v4 < 0 → (v4 ≤ 8 → False)) := fun v' R => ⟨fun _ => h _ _ _ R, fun n1 n2 => by
        rcases k0 with c | c
        · exact n1 c
        · exact absurd n2 (Int32.not_le.mpr c)⟩
      unfold wpY_factor
      refine yc_factors p9 ?_ (fun a p m g' pw _ _ _ _ hm fr _ _ => ?_)
      · have R : bb_R (nI cnt, f_latestPlace, f_stepCount, f_waitingCount, f_stackCount, f_factorCount, a_tokenKind, a_tokenContent, a_stepKind, a_stepToken, a_waitingKind, a_waitingToken, a_present, a_cells, a_leftTop, a_leftBottom, a_rightTop, a_rightBottom, a_top, a_bottom, a_product, a_quotient, a_common, a_spare, a_rest, a_divisor, a_inverse, a_numerator, a_factorDegrees, a_factorPowers, a_factorCells) (nI cnt, f_latestPlace, f_opens, f_top, f_fault, f_faultAt, f_dry, f_found, fi_m g, a_there, a_kind, a_num, a_open, a_openAt, a_power, fi_m T) := I0
        refine br_c (fun _ => h _ _ _ R) (fun _ => br_c (fun _ => h _ _ _ R) (fun _ => br_c (fun _ => h _ _ _ R) (fun n1 => br_c (fun n2 => ((L _ R).2 n1 n2).elim) (fun _ => h _ _ _ R))))
      · have R : bb_R (nI cnt, f_latestPlace, f_stepCount, f_waitingCount, f_stackCount, f_factorCount, a_tokenKind, a_tokenContent, a_stepKind, a_stepToken, a_waitingKind, a_waitingToken, a_present, a_cells, a_leftTop, a_leftBottom, a_rightTop, a_rightBottom, a_top, a_bottom, a_product, a_quotient, a_common, a_spare, a_rest, a_divisor, a_inverse, a_numerator, a_factorDegrees, a_factorPowers, a_factorCells) (nI cnt, f_latestPlace, f_opens, f_top, f_fault, f_faultAt, f_dry, nI m, fi_m g', a_there, a_kind, a_num, a_open, a_openAt, pw, fi_m T) := ⟨cnt, g', T, kd, cn, pv, hc, rfl, rfl, rfl, rfl, tt, tk, ya_9_fr p9 fr, hb, eb, rfl, bb_Pg hP (ya_pl_fr fr)⟩
        refine br_c (fun _ => h _ _ _ R) (fun _ => br_c (fun _ => h _ _ _ R) (fun _ => br_c (fun _ => h _ _ _ R) (fun n1 => br_c (fun n2 => ((L _ R).2 n1 n2).elim) (fun _ => h _ _ _ R))))
    obtain ⟨f_tokenCount, f_latestPlace, f_stepCount, f_waitingCount, f_stackCount, f_factorCount, a_tokenKind, a_tokenContent, a_stepKind, a_stepToken, a_waitingKind, a_waitingToken, a_present, a_cells, a_leftTop, a_leftBottom, a_rightTop, a_rightBottom, a_top, a_bottom, a_product, a_quotient, a_common, a_spare, a_rest, a_divisor, a_inverse, a_numerator, a_factorDegrees, a_factorPowers, a_factorCells⟩ := u
    unfold wpX_factor
    dsimp only
    by_cases c0 : v4 < 0
    · exact br_t c0 Y
    · exact br_f c0 (br_t (k0.resolve_left c0) Y)
  · have k1 : ¬ v4 < 0 := fun c => k0 (Or.inl c)
    have k2 : ¬ 8 < v4 := fun c => k0 (Or.inr c)
    obtain ⟨kk, hkk, rfl⟩ := nI_of k1
    have hk8 : kk ≤ 8 := (nI_leI (b := 8) hkk (by decide)).mp (Int32.not_lt.mp k2)
    obtain ⟨f_tokenCount, f_latestPlace, f_stepCount, f_waitingCount, f_stackCount, f_factorCount, a_tokenKind, a_tokenContent, a_stepKind, a_stepToken, a_waitingKind, a_waitingToken, a_present, a_cells, a_leftTop, a_leftBottom, a_rightTop, a_rightBottom, a_top, a_bottom, a_product, a_quotient, a_common, a_spare, a_rest, a_divisor, a_inverse, a_numerator, a_factorDegrees, a_factorPowers, a_factorCells⟩ := u
    unfold wpX_factor
    dsimp only
    refine br_f k1 (br_f k2 ?_)
    refine bb_fac I0 (fun u' k hy => ?_) (fun u' i m D n F k him hm e3 hF hD8 f1 f2 f3 hy => ?_)
    · obtain ⟨f_tokenCount, f_latestPlace, f_stepCount, f_waitingCount, f_stackCount, f_factorCount, a_tokenKind, a_tokenContent, a_stepKind, a_stepToken, a_waitingKind, a_waitingToken, a_present, a_cells, a_leftTop, a_leftBottom, a_rightTop, a_rightBottom, a_top, a_bottom, a_product, a_quotient, a_common, a_spare, a_rest, a_divisor, a_inverse, a_numerator, a_factorDegrees, a_factorPowers, a_factorCells⟩ := u'
      obtain ⟨f_count, f_place, f_opens, f_top, f_fault, f_faultAt, f_dry, f_found, a_c, a_there, a_kind, a_num, a_open, a_openAt, a_power, a_table⟩ := v
      dsimp only
      refine br_t rfl ?_
      unfold wpY_factor
      dsimp only
      refine hy (fun r v' R hr => ?_)
      obtain ⟨f_count, f_place, f_opens, f_top, f_fault, f_faultAt, f_dry, f_found, a_c, a_there, a_kind, a_num, a_open, a_openAt, a_power, a_table⟩ := v'
      dsimp only
      by_cases c : v3 < 0
      · exact br_t c (h _ _ _ (k _ R))
      · exact br_f c (br_t (hr.resolve_left c) (h _ _ _ (k _ R)))
    · obtain ⟨f_tokenCount, f_latestPlace, f_stepCount, f_waitingCount, f_stackCount, f_factorCount, a_tokenKind, a_tokenContent, a_stepKind, a_stepToken, a_waitingKind, a_waitingToken, a_present, a_cells, a_leftTop, a_leftBottom, a_rightTop, a_rightBottom, a_top, a_bottom, a_product, a_quotient, a_common, a_spare, a_rest, a_divisor, a_inverse, a_numerator, a_factorDegrees, a_factorPowers, a_factorCells⟩ := u'
      obtain ⟨f_count, f_place, f_opens, f_top, f_fault, f_faultAt, f_dry, f_found, a_c, a_there, a_kind, a_num, a_open, a_openAt, a_power, a_table⟩ := v
      dsimp only at f1 f2 f3 ⊢
      subst e3
      have e9 : nI i * 9 = nI (i * 9) := pk_mul i 9
      refine br_f (by decide) ⟨pk_in (i * 9 + kk) 72 (by omega) (by rw [e9, nI_add]), ?_⟩
      rw [e9, nI_add, nI_clamp (by omega), f3 kk (by omega)]
      unfold wpY_factor
      dsimp only
      refine hy (fun v' g' R eg eF ep => ?_)
      obtain ⟨f_count, f_place, f_opens, f_top, f_fault, f_faultAt, f_dry, f_found, a_c, a_there, a_kind, a_num, a_open, a_openAt, a_power, a_table⟩ := v'
      dsimp only at eg ep ⊢
      subst eg
      refine br_f (nI_pos (by omega)) (br_f (nI_ge him (by omega)) (br_f k1 (br_t (Int32.not_lt.mp k2) ⟨pk_in (20 * (72 + i) + kk) 1800 (by omega) (by rw [fi_72, fi_ix]), ?_⟩)))
      have e : fi_m g' (20 * (72 + nI i) + nI kk).toNatClampNeg = fi_I (F kk) := by
        rw [fi_72, fi_ix, nI_clamp (by omega), ← eF, fi_s_at (by omega)]; rfl
      rw [e]
      exact h _ _ _ (k _ R)
