/-! The class's operators of two sides, settle, and the loop of evaluate -/
section
variable {f_tokenCount f_latestPlace f_stepCount f_waitingCount f_stackCount f_factorCount : Int32} {a_tokenKind a_tokenContent a_stepKind a_stepToken a_waitingKind a_waitingToken a_present a_cells a_leftTop a_leftBottom a_rightTop a_rightBottom a_top a_bottom a_product a_quotient a_common a_spare a_rest a_divisor a_inverse a_numerator a_factorDegrees a_factorPowers a_factorCells : Nat → Int32}
theorem xb_workB {post : Int32 → SX → Prop} {vs : Nat → Option (PF × PF)} {T : List (PF × PF)} {x c : Int32} {a b : PF × PF} (k : Nat) (hk : k = 5 ∨ k = 6 ∨ k = 7 ∨ k = 8 ∨ k = 11) (oa : pr_ok a) (ob : pr_ok b) (h1 : xv a_leftTop a.1) (h2 : xv a_leftBottom a.2) (h3 : xv a_rightTop b.1) (h4 : xv a_rightBottom b.2)
    (h : ∀ (code : Nat) (P0 Q0 : PF), code ≤ 4 → pr_wk vs k c (b :: a :: T) T code P0 Q0 → (code = 0 → pr_big P0 Q0) → ∀ a_leftTop a_leftBottom a_rightTop a_rightBottom a_top a_bottom a_product a_quotient a_common a_spare a_rest a_divisor a_inverse a_numerator : Nat → Int32, (code = 0 → xv a_top P0 ∧ xv a_bottom Q0) → post (nI code) (f_tokenCount, f_latestPlace, f_stepCount, f_waitingCount, f_stackCount, f_factorCount, a_tokenKind, a_tokenContent, a_stepKind, a_stepToken, a_waitingKind, a_waitingToken, a_present, a_cells, a_leftTop, a_leftBottom, a_rightTop, a_rightBottom, a_top, a_bottom, a_product, a_quotient, a_common, a_spare, a_rest, a_divisor, a_inverse, a_numerator, a_factorDegrees, a_factorPowers, a_factorCells)) (ex : x = nI k := by rfl) : wpX_work post (f_tokenCount, f_latestPlace, f_stepCount, f_waitingCount, f_stackCount, f_factorCount, a_tokenKind, a_tokenContent, a_stepKind, a_stepToken, a_waitingKind, a_waitingToken, a_present, a_cells, a_leftTop, a_leftBottom, a_rightTop, a_rightBottom, a_top, a_bottom, a_product, a_quotient, a_common, a_spare, a_rest, a_divisor, a_inverse, a_numerator, a_factorDegrees, a_factorPowers, a_factorCells) x c := by
  subst ex
  have bi : ∀ code L', pr_bi k a b T code L' → pr_st vs k c (b :: a :: T) code L' := fun code L' u => Or.inr (Or.inr ⟨a, b, T, rfl, u⟩)
  have ad : ∀ y : Fin 5, pf_ln (pf_add (pf_mul a.1 b.2) (pf_mul (pf_c y) (pf_mul b.1 a.2))) 17 := fun y => pf_add_ln (pr_17 oa.1 ob.2.1) (pf_c_ml _ (pr_17 ob.1 oa.2.1))
  unfold wpX_work
  rcases hk with e | e | e | e | e
  · subst e
    refine br_f (by decide) (br_f (by decide) (br_f (by decide) (br_f (by decide) (br_f (by decide) (br_f (by decide) (br_f (by decide) (br_t (by decide) ?_)))))))
    exact xg_addSides 1 h1 h2 h3 h4 (fun a_leftTop a_leftBottom a_rightTop a_rightBottom a_top a_bottom a_product a_quotient a_common a_spare a_rest a_divisor a_inverse a_numerator t1 t2 => h 0 _ _ (by omega) (fun code' L' => ⟨fun z => absurd rfl z, fun _ hl => bi _ _ (Or.inl ⟨rfl, hl⟩)⟩) (fun _ => ⟨ad 1, pr_17 oa.2.1 ob.2.1, pr_hd2 oa ob⟩) _ _ _ _ _ _ _ _ _ _ _ _ _ _ (fun _ => ⟨t1, t2⟩))
  · subst e
    refine br_f (by decide) (br_f (by decide) (br_f (by decide) (br_f (by decide) (br_f (by decide) (br_f (by decide) (br_f (by decide) (br_f (by decide) (br_t (by decide) ?_))))))))
    exact xg_addSides (-1) h1 h2 h3 h4 (fun a_leftTop a_leftBottom a_rightTop a_rightBottom a_top a_bottom a_product a_quotient a_common a_spare a_rest a_divisor a_inverse a_numerator t1 t2 => h 0 _ _ (by omega) (fun code' L' => ⟨fun z => absurd rfl z, fun _ hl => bi _ _ (Or.inr (Or.inl ⟨rfl, hl⟩))⟩) (fun _ => ⟨ad (-1), pr_17 oa.2.1 ob.2.1, pr_hd2 oa ob⟩) _ _ _ _ _ _ _ _ _ _ _ _ _ _ (fun _ => ⟨t1, t2⟩)) (by decide)
  · subst e
    refine br_f (by decide) (br_f (by decide) (br_f (by decide) (br_f (by decide) (br_f (by decide) (br_f (by decide) (br_f (by decide) (br_f (by decide) (br_f (by decide) (br_t (by decide) ?_)))))))))
    exact xg_multiplySides h1 h2 h3 h4 (fun a_leftTop a_leftBottom a_rightTop a_rightBottom a_top a_bottom a_product a_quotient a_common a_spare a_rest a_divisor a_inverse a_numerator t1 t2 => h 0 _ _ (by omega) (fun code' L' => ⟨fun z => absurd rfl z, fun _ hl => bi _ _ (Or.inr (Or.inr (Or.inl ⟨rfl, hl⟩)))⟩) (fun _ => ⟨pr_17 oa.1 ob.1, pr_17 oa.2.1 ob.2.1, pr_hd2 oa ob⟩) _ _ _ _ _ _ _ _ _ _ _ _ _ _ (fun _ => ⟨t1, t2⟩))
  · subst e
    refine br_f (by decide) (br_f (by decide) (br_f (by decide) (br_f (by decide) (br_f (by decide) (br_f (by decide) (br_f (by decide) (br_f (by decide) (br_f (by decide) (br_f (by decide) (br_t (by decide) ?_))))))))))
    refine xg_divideSides h1 h2 h3 h4 (pf_ln_mono ob.1 (by omega)) (fun z a_leftTop a_leftBottom a_rightTop a_rightBottom a_top a_bottom a_product a_quotient a_common a_spare a_rest a_divisor a_inverse a_numerator => ?_) (fun nz a_leftTop a_leftBottom a_rightTop a_rightBottom a_top a_bottom a_product a_quotient a_common a_spare a_rest a_divisor a_inverse a_numerator t1 t2 => ?_)
    · exact h 3 (pf_c 0) (pf_c 0) (by omega) (fun code' L' => ⟨fun _ => bi _ _ (Or.inr (Or.inr (Or.inr (Or.inl ⟨rfl, Or.inl ⟨z, rfl⟩⟩)))), fun z => absurd z (by decide)⟩) (fun z => absurd z (by decide)) _ _ _ _ _ _ _ _ _ _ _ _ _ _ (fun z => absurd z (by decide))
    · obtain ⟨d, hd⟩ : ∃ d, pf_hd b.1 d := by
        rcases pf_fin_hd (pr_ok_f1 ob) with z | z
        · exact absurd z nz
        · exact z
      obtain ⟨e, he, _⟩ := oa.2.2.1
      exact h 0 _ _ (by omega) (fun code' L' => ⟨fun z => absurd rfl z, fun _ hl => bi _ _ (Or.inr (Or.inr (Or.inr (Or.inl ⟨rfl, Or.inr ⟨nz, hl⟩⟩))))⟩) (fun _ => ⟨pr_17 oa.1 ob.2.1, pr_17 oa.2.1 ob.1, ⟨_, pf_mul_hd he hd⟩⟩) _ _ _ _ _ _ _ _ _ _ _ _ _ _ (fun _ => ⟨t1, t2⟩)
  · subst e
    obtain ⟨m, hm8, sm⟩ := pr_sz_ex oa
    obtain ⟨z, hz8, sz⟩ := pr_sz_ex ob
    have b11 : ∀ code L', (((z = 0 ∧ pf_hn a.2 (b.1 0) 16 17 = 0) ∧ code = 3) ∨ (¬ (z = 0 ∧ pf_hn a.2 (b.1 0) 16 17 = 0) ∧ ((8 < m * z ∧ code = 4) ∨ (m * z ≤ 8 ∧ pr_lim (pr_put a.1 b.1 b.2 m) (pr_put a.2 b.1 b.2 m) T code L')))) → pr_st vs 11 c (b :: a :: T) code L' := fun code L' u => bi _ _ (Or.inr (Or.inr (Or.inr (Or.inr ⟨rfl, m, z, sm, sz, u⟩))))
    refine br_f (by decide) (br_f (by decide) (br_f (by decide) (br_f (by decide) (br_f (by decide) (br_f (by decide) (br_f (by decide) (br_f (by decide) (br_f (by decide) (br_f (by decide) (br_f (by decide) (br_f (by decide) (br_f (by decide) (br_t (by decide) ?_)))))))))))))
    refine xg_compose h1 h2 h3 h4 (pr_ok_n oa) (pr_ok_n ob) (by omega) (by omega) sm sz (fun z0 hv a_leftTop a_leftBottom a_rightTop a_rightBottom a_top a_bottom a_product a_quotient a_common a_spare a_rest a_divisor a_inverse a_numerator => ?_) (fun no big a_leftTop a_leftBottom a_rightTop a_rightBottom a_top a_bottom a_product a_quotient a_common a_spare a_rest a_divisor a_inverse a_numerator => ?_) (fun no h8 a_leftTop a_leftBottom a_rightTop a_rightBottom a_top a_bottom a_product a_quotient a_common a_spare a_rest a_divisor a_inverse a_numerator t1 t2 => ?_)
    · exact h 3 (pf_c 0) (pf_c 0) (by omega) (fun code' L' => ⟨fun _ => b11 _ _ (Or.inl ⟨⟨z0, hv⟩, rfl⟩), fun z => absurd z (by decide)⟩) (fun z => absurd z (by decide)) _ _ _ _ _ _ _ _ _ _ _ _ _ _ (fun z => absurd z (by decide))
    · exact h 4 (pf_c 0) (pf_c 0) (by omega) (fun code' L' => ⟨fun _ => b11 _ _ (Or.inr ⟨no, Or.inl ⟨big, rfl⟩⟩), fun z => absurd z (by decide)⟩) (fun z => absurd z (by decide)) _ _ _ _ _ _ _ _ _ _ _ _ _ _ (fun z => absurd z (by decide))
    · have lput : ∀ S : PF, pf_ln (pr_put S b.1 b.2 m) 17 := fun S => pf_sP_ln (fun i _ => pf_ln_mono (pf_T_ln sz.1 sz.2.1 i m) (by omega))
      exact h 0 _ _ (by omega) (fun code' L' => ⟨fun z => absurd rfl z, fun _ hl => b11 _ _ (Or.inr ⟨no, Or.inr ⟨h8, hl⟩⟩)⟩) (fun _ => ⟨lput _, lput _, pr_den oa ob sm sz no hm8⟩) _ _ _ _ _ _ _ _ _ _ _ _ _ _ (fun _ => ⟨t1, t2⟩)
theorem xb_settle {post : Int32 → SX → Prop} {P0 Q0 : PF} {T : List (PF × PF)} {x : Int32} (o : Nat) (ho : o ≤ 2) (hT : T.length + 1 ≤ 24) (bg : pr_big P0 Q0) (t1 : xv a_top P0) (t2 : xv a_bottom Q0)
    (h0 : ∀ (R : PF × PF) (cl : Nat → Int32), ∀ a_leftTop a_leftBottom a_rightTop a_rightBottom a_top a_bottom a_product a_quotient a_common a_spare a_rest a_divisor a_inverse a_numerator : Nat → Int32, pr_red P0 Q0 R.1 R.2 → pf_ln R.1 9 → pf_ln R.2 9 → xs_pair cl (7 + T.length) R → (∀ i, i < (7 + T.length) * 18 ∨ (7 + T.length) * 18 + 18 ≤ i → cl i = a_cells i) → post 0 (f_tokenCount, f_latestPlace, f_stepCount, f_waitingCount, nI (T.length + 1), f_factorCount, a_tokenKind, a_tokenContent, a_stepKind, a_stepToken, a_waitingKind, a_waitingToken, a_present, cl, a_leftTop, a_leftBottom, a_rightTop, a_rightBottom, a_top, a_bottom, a_product, a_quotient, a_common, a_spare, a_rest, a_divisor, a_inverse, a_numerator, a_factorDegrees, a_factorPowers, a_factorCells))
    (h4 : ∀ R : PF × PF, ∀ a_leftTop a_leftBottom a_rightTop a_rightBottom a_top a_bottom a_product a_quotient a_common a_spare a_rest a_divisor a_inverse a_numerator : Nat → Int32, pr_red P0 Q0 R.1 R.2 → ¬ (pf_ln R.1 9 ∧ pf_ln R.2 9) → post 4 (f_tokenCount, f_latestPlace, f_stepCount, f_waitingCount, nI (T.length + o), f_factorCount, a_tokenKind, a_tokenContent, a_stepKind, a_stepToken, a_waitingKind, a_waitingToken, a_present, a_cells, a_leftTop, a_leftBottom, a_rightTop, a_rightBottom, a_top, a_bottom, a_product, a_quotient, a_common, a_spare, a_rest, a_divisor, a_inverse, a_numerator, a_factorDegrees, a_factorPowers, a_factorCells)) (ex : x = nI o := by rfl) : wpX_settle post (f_tokenCount, f_latestPlace, f_stepCount, f_waitingCount, nI (T.length + o), f_factorCount, a_tokenKind, a_tokenContent, a_stepKind, a_stepToken, a_waitingKind, a_waitingToken, a_present, a_cells, a_leftTop, a_leftBottom, a_rightTop, a_rightBottom, a_top, a_bottom, a_product, a_quotient, a_common, a_spare, a_rest, a_divisor, a_inverse, a_numerator, a_factorDegrees, a_factorPowers, a_factorCells) x := by
  subst ex
  obtain ⟨lP, lQ, nQ⟩ := bg
  have e1 : nI (T.length + o) - nI o + 1 = nI (T.length + 1) := by
    rw [pk_sub (by omega), Nat.add_sub_cancel, nI_1]
  have e2 : (7 : Int32) + nI (T.length + 1) - 1 = nI (7 + T.length) := by
    have : (7 : Int32) + nI (T.length + 1) = nI (7 + T.length + 1) := nI_add 7 (T.length + 1)
    rw [this]; exact nI_pred _
  unfold wpX_settle
  refine xg_cancel t1 t2 lP lQ nQ (fun P1 Q1 rd l1 l2 a_top a_bottom a_quotient a_common a_spare u1 u2 => ?_)
  obtain ⟨bb, hbb, mbb⟩ := rd.2.1
  refine xf_sizeOf__top_bottom u1 u2 l1 l2 (pf_hd_n0 hbb) (fun z hz a b c => ?_)
  have sz : pr_sz P1 Q1 z := ⟨a, b, c⟩
  by_cases c8 : z ≤ 8
  · have l9 := (pr_sz_9 sz).mpr c8
    refine br_t (nI_le (b := 8) c8 (by decide)) (nm_r e1 (nm_r e2 ?_))
    refine xf_keep__top (7 + T.length) 0 (by omega) (by omega) u1 (fun cl k1 k2 => ?_)
    refine xf_keep__bottom (7 + T.length) 1 (by omega) (by omega) u2 (fun cl2 k3 k4 => ?_)
    refine h0 (P1, Q1) cl2 _ _ _ _ _ _ _ _ _ _ _ _ _ _ rd l9.1 l9.2 ⟨fun k hk => ?_, k3⟩ (fun i hi => ?_)
    · rw [k4 _ (by omega)]; exact k1 k hk
    · rw [k4 i (by omega), k2 i (by omega)]
  · refine br_f (nI_ge (a := 8) (by omega) (by omega)) (h4 (P1, Q1) _ _ _ _ _ _ _ _ _ _ _ _ _ _ rd (fun l => c8 ((pr_sz_9 sz).mp l)))
end
