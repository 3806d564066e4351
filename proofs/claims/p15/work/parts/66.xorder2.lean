/-! The class's orderSteps is the machine -/
theorem sy_fit {kd : Nat → Nat} {r i dp : Nat} {op sg : Bool} (h : ya_sc kd (r + 1) i dp op sg = none) : ya_fit (kd i) dp op sg = true := by
  cases c : ya_fit (kd i) dp op sg with
  | true => rfl
  | false => rw [ya_sc_f c] at h; exact nomatch h
section
variable {f_tokenCount f_latestPlace f_stepCount f_waitingCount f_stackCount f_factorCount : Int32} {a_tokenKind a_tokenContent a_stepKind a_stepToken a_waitingKind a_waitingToken a_present a_cells a_leftTop a_leftBottom a_rightTop a_rightBottom a_top a_bottom a_product a_quotient a_common a_spare a_rest a_divisor a_inverse a_numerator a_factorDegrees a_factorPowers a_factorCells : Nat → Int32}
theorem xb_dropOpen {post : SX → Prop} {n : Nat} (hn : n < 2 ^ 30) (h : post (f_tokenCount, f_latestPlace, f_stepCount, nI n, f_stackCount, f_factorCount, a_tokenKind, a_tokenContent, a_stepKind, a_stepToken, a_waitingKind, a_waitingToken, a_present, a_cells, a_leftTop, a_leftBottom, a_rightTop, a_rightBottom, a_top, a_bottom, a_product, a_quotient, a_common, a_spare, a_rest, a_divisor, a_inverse, a_numerator, a_factorDegrees, a_factorPowers, a_factorCells)) : wpX_dropOpen post (f_tokenCount, f_latestPlace, f_stepCount, nI (n + 1), f_stackCount, f_factorCount, a_tokenKind, a_tokenContent, a_stepKind, a_stepToken, a_waitingKind, a_waitingToken, a_present, a_cells, a_leftTop, a_leftBottom, a_rightTop, a_rightBottom, a_top, a_bottom, a_product, a_quotient, a_common, a_spare, a_rest, a_divisor, a_inverse, a_numerator, a_factorDegrees, a_factorPowers, a_factorCells) := by
  unfold wpX_dropOpen
  dsimp only
  exact br_f (nI_nle (by omega) (by omega)) (nm_r (nI_pred n) h)
theorem xb_orderSteps {post : SX → Prop} {kd : Nat → Nat} (cnt : Nat) (hc : cnt ≤ 24) (tk : ∀ j, j < cnt → a_tokenKind j = nI (kd j) ∧ kd j ≤ 11) (valid : ya_sc kd cnt 0 0 true true = none)
    (h : ∀ (f_waitingCount : Int32) (a_stepKind a_stepToken a_waitingKind a_waitingToken : Nat → Int32), sy_rep a_stepKind a_stepToken (sy_go kd cnt 0 true [] []) → post (nI cnt, f_latestPlace, nI (sy_go kd cnt 0 true [] []).length, f_waitingCount, f_stackCount, f_factorCount, a_tokenKind, a_tokenContent, a_stepKind, a_stepToken, a_waitingKind, a_waitingToken, a_present, a_cells, a_leftTop, a_leftBottom, a_rightTop, a_rightBottom, a_top, a_bottom, a_product, a_quotient, a_common, a_spare, a_rest, a_divisor, a_inverse, a_numerator, a_factorDegrees, a_factorPowers, a_factorCells)) : wpX_orderSteps post (nI cnt, f_latestPlace, f_stepCount, f_waitingCount, f_stackCount, f_factorCount, a_tokenKind, a_tokenContent, a_stepKind, a_stepToken, a_waitingKind, a_waitingToken, a_present, a_cells, a_leftTop, a_leftBottom, a_rightTop, a_rightBottom, a_top, a_bottom, a_product, a_quotient, a_common, a_spare, a_rest, a_divisor, a_inverse, a_numerator, a_factorDegrees, a_factorPowers, a_factorCells) := by
  have key : ∀ (r i : Nat) (op sg : Bool) (ops ro : List (Nat × Nat)) (a_stepKind a_stepToken a_waitingKind a_waitingToken : Nat → Int32), i + r = cnt → ya_sc kd r i (sy_dep ops) op sg = none → sy_ok i op ops ro → sy_rep a_waitingKind a_waitingToken ops → sy_rep a_stepKind a_stepToken ro → sy_go kd r i op ops ro = sy_go kd cnt 0 true [] [] →
      wX_orderSteps_14 post (r + 1) (if op then 1 else 0) (nI i) (nI cnt) f_latestPlace (nI ro.length) (nI ops.length) f_stackCount f_factorCount a_tokenKind a_tokenContent a_stepKind a_stepToken a_waitingKind a_waitingToken a_present a_cells a_leftTop a_leftBottom a_rightTop a_rightBottom a_top a_bottom a_product a_quotient a_common a_spare a_rest a_divisor a_inverse a_numerator a_factorDegrees a_factorPowers a_factorCells := by
    intro r
    induction r with
    | zero =>
      intro i op sg ops ro a_stepKind a_stepToken a_waitingKind a_waitingToken hi hs ok hw hr hg
      have hlen := ok.2.2.2.2.2.2
      refine br_t (nI_le (by omega) (by omega)) (xb_release 1 (by omega) ok.1 hw hr (by omega) (fun a_stepKind a_stepToken w1 w2 => ?_))
      rw [sy_popx_1 ok.1] at w2 ⊢
      have e : (sy_pop 1 ops ro).2 = sy_go kd cnt 0 true [] [] := hg
      rw [e] at w2 ⊢
      exact h _ _ _ _ _ w2
    | succ r ih =>
      intro i op sg ops ro a_stepKind a_stepToken a_waitingKind a_waitingToken hi hs ok hw hr hg
      have hlen := ok.2.2.2.2.2.2
      have hset := ok.1
      have h11 := ok.2.1
      obtain ⟨k1, k2⟩ := tk i (by omega)
      have fit := sy_fit hs
      rw [ya_sc_t fit] at hs
      obtain ⟨ok2, dep2⟩ := sy_ok_s ok k2 rfl fit
      rw [← dep2] at hs
      have hg2 : sy_go kd r (i + 1) (!ya_eo (kd i)) (sy_st (kd i) i op ops ro).1 (sy_st (kd i) i op ops ro).2 = sy_go kd cnt 0 true [] [] := hg
      -- the next token
      have next : ∀ (o2 r2 : List (Nat × Nat)) (z0 : Int32) (a_stepKind a_stepToken a_waitingKind a_waitingToken : Nat → Int32), sy_st (kd i) i op ops ro = (o2, r2) → z0 = (if !ya_eo (kd i) then 1 else 0) → sy_rep a_waitingKind a_waitingToken o2 → sy_rep a_stepKind a_stepToken r2 →
          wX_orderSteps_14 post (r + 1) z0 (nI (i + 1)) (nI cnt) f_latestPlace (nI r2.length) (nI o2.length) f_stackCount f_factorCount a_tokenKind a_tokenContent a_stepKind a_stepToken a_waitingKind a_waitingToken a_present a_cells a_leftTop a_leftBottom a_rightTop a_rightBottom a_top a_bottom a_product a_quotient a_common a_spare a_rest a_divisor a_inverse a_numerator a_factorDegrees a_factorPowers a_factorCells := by
        intro o2 r2 z0 a_stepKind a_stepToken a_waitingKind a_waitingToken e ez w1 w2
        rw [e] at hs ok2 hg2
        subst ez
        exact ih (i + 1) _ _ o2 r2 _ _ _ _ (by omega) hs ok2 w1 w2 hg2
      refine br_f (nI_ge (by omega) (by omega)) ⟨vp_in_nI (by omega) (by omega), ?_⟩
      rw [nI_clamp (by omega)]
      refine nm_r k1 ?_
      have ne : ∀ (k q : Nat), k < 20 → q < 2 ^ 31 → k ≠ q → ¬ nI k = nI q := fun k q hk hq n z => n ((nI_eq (by omega) hq).mp z)
      cases op with
      | true =>
        by_cases c6 : kd i = 6
        · refine br_t (by rw [c6]; rfl) (br_f (by decide) ?_)
          unfold wX_orderSteps_42
          refine xb_endsOperand 12 (by omega) (br_t rfl ?_)
          unfold wX_orderSteps_54
          refine br_t (by decide) (br_f (by decide) (br_f (by decide) (br_f (by decide) (br_f (by decide) (br_t rfl ?_)))))
          unfold wX_orderSteps_134
          refine xb_holdBack 12 i hw (by omega) (fun a_waitingKind a_waitingToken w => nm_r (nI_1 i) ?_)
          exact next ((12, i) :: ops) ro 1 _ _ _ _ (by rw [c6]; rfl) (by rw [c6]; rfl) w hr
        · have c6' : ¬ nI (kd i) = 6 := ne _ 6 (by omega) (by decide) c6
          refine br_f c6' ?_
          unfold wX_orderSteps_42
          by_cases c3 : kd i = 3
          · refine xb_endsOperand (kd i) (by omega) ?_
            have he : ya_eo (kd i) = false := by rw [c3]; rfl
            rw [he]
            refine br_t rfl ?_
            unfold wX_orderSteps_54
            refine br_t (by rw [c3]; decide) (br_f (by rw [c3]; decide) (br_f (by rw [c3]; decide) (br_f (by rw [c3]; decide) (br_t (by rw [c3]; rfl) ?_))))
            unfold wX_orderSteps_134
            refine xb_holdBack (kd i) i hw (by omega) (fun a_waitingKind a_waitingToken w => nm_r (nI_1 i) ?_)
            exact next ((kd i, i) :: ops) ro 1 _ _ _ _ (by rw [c3]; rfl) (by rw [he]; rfl) w hr
          · have c2 : kd i ≤ 2 := by
              have hf2 : (decide (kd i ≤ 3) || (decide (kd i = 6) && sg)) = true := fit
              rw [decide_eq_false c6] at hf2
              by_cases c : kd i ≤ 3
              · omega
              · rw [decide_eq_false c] at hf2; exact absurd (show false = true from hf2) (by decide)
            have he : ya_eo (kd i) = true := by
              show (decide (kd i ≤ 2) || _ || _ || _) = true
              rw [decide_eq_true c2]; rfl
            refine xb_endsOperand (kd i) (by omega) ?_
            rw [he]
            refine br_f (by decide) ?_
            unfold wX_orderSteps_54
            refine br_f (nI_nlt (a := 2) (by omega) (by decide)) ?_
            refine xb_addStep (kd i) i hr (by omega) (fun a_stepKind a_stepToken w => ?_)
            refine xb_release (ops := ops) (ro := (kd i, i) :: ro) 3 (by omega) hset hw w (by show ops.length + (ro.length + 1) ≤ 24; omega) (fun a_stepKind a_stepToken w1 w2 => nm_r (nI_1 i) ?_)
            have e : sy_st (kd i) i true ops ro = sy_one ops ((kd i, i) :: ro) := by
              show (if kd i = 6 then _ else if kd i = 3 then _ else sy_one ops ((kd i, i) :: ro)) = _
              rw [if_neg c6, if_neg c3]
            rw [sy_popx_3 hset h11] at w1 w2 ⊢
            exact next _ _ 0 _ _ _ _ e (by rw [he]; rfl) w1 w2
      | false =>
        have h3 := ok.2.2.1 rfl
        have wf0 : sy_wf ro (sy_bin ops + 1) := ok.2.2.2.1
        have p42 : wX_orderSteps_42 post (wX_orderSteps_14 post (r + 1)) (nI i) (nI (kd i)) (nI cnt) f_latestPlace (nI ro.length) (nI ops.length) f_stackCount f_factorCount a_tokenKind a_tokenContent a_stepKind a_stepToken a_waitingKind a_waitingToken a_present a_cells a_leftTop a_leftBottom a_rightTop a_rightBottom a_top a_bottom a_product a_quotient a_common a_spare a_rest a_divisor a_inverse a_numerator a_factorDegrees a_factorPowers a_factorCells := by
          unfold wX_orderSteps_42
          by_cases c4 : kd i = 4
          · have he : ya_eo (kd i) = true := by rw [c4]; rfl
            refine xb_endsOperand (kd i) (by omega) ?_
            rw [he]
            refine br_f (by decide) ?_
            unfold wX_orderSteps_54
            refine br_t (by rw [c4]; decide) (br_t (by rw [c4]; rfl) ?_)
            refine xb_release 1 (by omega) hset hw hr (by omega) (fun a_stepKind a_stepToken w1 w2 => ?_)
            rw [sy_popx_1 hset] at w1 w2 ⊢
            obtain ⟨b1, b2, b3, b4, b5, b6, b7, b8⟩ := sy_pop_inv (l := 1) (Nat.le_refl _) ops ro (i + 1) hset h11 wf0 (sy_lt_m ok.2.2.2.2.1 (by omega)) (sy_lt_m ok.2.2.2.2.2.1 (by omega))
            cases hT : (sy_pop 1 ops ro).1 with
            | nil =>
              exfalso
              rw [hT] at b6
              have z : sy_dep ([] : List (Nat × Nat)) = 0 := rfl
              rw [z] at b6
              rw [c4] at fit
              have hf2 : (decide (5 ≤ 4) || (decide (4 = 4) && decide (0 < sy_dep ops))) = true := fit
              rw [decide_eq_false (show ¬ 0 < sy_dep ops by omega)] at hf2
              exact absurd (show false = true from hf2) (by decide)
            | cons q s =>
              rw [hT] at w1 b1 b2 b7
              have b7' : (s.length + 1) + (sy_pop 1 ops ro).2.length = ops.length + ro.length := b7
              refine xb_dropOpen (n := s.length) (by omega) ?_
              refine xb_release 3 (by omega) (fun p hp => b1 p (List.mem_cons_of_mem _ hp)) w1.2.2 w2 (by omega) (fun a_stepKind a_stepToken v1 v2 => nm_r (nI_1 i) ?_)
              rw [sy_popx_3 (fun p hp => b1 p (List.mem_cons_of_mem _ hp)) b2.2] at v1 v2 ⊢
              refine next _ _ 0 _ _ _ _ ?_ (by rw [he]; rfl) v1 v2
              rw [c4]
              show sy_one (sy_pop 1 ops ro).1.tail (sy_pop 1 ops ro).2 = _
              rw [hT]; rfl
          · have c4' : ¬ nI (kd i) = 4 := ne _ 4 (by omega) (by decide) c4
            by_cases c9 : kd i = 9
            · have he : ya_eo (kd i) = true := by rw [c9]; rfl
              refine xb_endsOperand (kd i) (by omega) ?_
              rw [he]
              refine br_f (by decide) ?_
              unfold wX_orderSteps_54
              refine br_t (by rw [c9]; decide) (br_f c4' (br_t (by rw [c9]; rfl) ?_))
              unfold wX_orderSteps_108
              refine xb_addStep (kd i) i hr (by omega) (fun a_stepKind a_stepToken w => nm_r (nI_1 i) ?_)
              exact next ops ((kd i, i) :: ro) 0 _ _ _ _ (by rw [c9]; rfl) (by rw [he]; rfl) hw w
            · have c9' : ¬ nI (kd i) = 9 := ne _ 9 (by omega) (by decide) c9
              by_cases c10 : kd i = 10
              · have he : ya_eo (kd i) = true := by rw [c10]; rfl
                refine xb_endsOperand (kd i) (by omega) ?_
                rw [he]
                refine br_f (by decide) ?_
                unfold wX_orderSteps_54
                refine br_t (by rw [c10]; decide) (br_f c4' (br_f c9' (br_t (by rw [c10]; rfl) ?_)))
                unfold wX_orderSteps_108
                refine xb_addStep (kd i) i hr (by omega) (fun a_stepKind a_stepToken w => nm_r (nI_1 i) ?_)
                exact next ops ((kd i, i) :: ro) 0 _ _ _ _ (by rw [c10]; rfl) (by rw [he]; rfl) hw w
              · have c10' : ¬ nI (kd i) = 10 := ne _ 10 (by omega) (by decide) c10
                have k5 : 5 ≤ kd i := by
                  have hf2 : (decide (5 ≤ kd i) || (decide (kd i = 4) && decide (0 < sy_dep ops))) = true := fit
                  rw [decide_eq_false c4] at hf2
                  by_cases c : 5 ≤ kd i
                  · exact c
                  · rw [decide_eq_false c] at hf2; exact absurd (show false = true from hf2) (by decide)
                have he : ya_eo (kd i) = false := by
                  show (decide (kd i ≤ 2) || decide (kd i = 4) || decide (kd i = 9) || decide (kd i = 10)) = false
                  rw [decide_eq_false (show ¬ kd i ≤ 2 by omega), decide_eq_false c4, decide_eq_false c9, decide_eq_false c10]; rfl
                have es : sy_st (kd i) i false ops ro = ((kd i, i) :: (sy_pop (sy_lv (kd i)) ops ro).1, (sy_pop (sy_lv (kd i)) ops ro).2) := by
                  show (if kd i = 4 then _ else if kd i = 9 then _ else if kd i = 10 then _ else _) = _
                  rw [if_neg c4, if_neg c9, if_neg c10]
                refine xb_endsOperand (kd i) (by omega) ?_
                rw [he]
                refine br_t rfl ?_
                unfold wX_orderSteps_54
                refine br_t (nI_lt (a := 2) (by omega) (by omega)) (br_f c4' (br_f c9' (br_f c10' (br_f (ne _ 3 (by omega) (by decide) (by omega)) (br_f (ne _ 12 (by omega) (by decide) (by omega)) ?_)))))
                by_cases c11 : kd i = 11
                · refine br_t (by rw [c11]; rfl) ?_
                  unfold wX_orderSteps_134
                  refine xb_holdBack (kd i) i hw (by omega) (fun a_waitingKind a_waitingToken w => nm_r (nI_1 i) ?_)
                  refine next ((kd i, i) :: ops) ro 1 _ _ _ _ ?_ (by rw [he]; rfl) w hr
                  have lv4 : sy_lv (kd i) = 4 := if_pos c11
                  rw [es, lv4, sy_pop_4 hset h3]
                · refine br_f (ne _ 11 (by omega) (by decide) c11) ?_
                  refine xb_rankOf (kd i) (by omega) ?_
                  have hx10 : sy_xr (kd i) < 10 := by
                    have : kd i = 5 ∨ kd i = 6 ∨ kd i = 7 ∨ kd i = 8 := by omega
                    rcases this with z | z | z | z <;> rw [z] <;> decide
                  have ex : sy_popx (sy_xr (kd i)) ops ro = sy_pop (sy_lv (kd i)) ops ro := by
                    have : kd i = 5 ∨ kd i = 6 ∨ kd i = 7 ∨ kd i = 8 := by omega
                    rcases this with z | z | z | z
                    · rw [z]; exact sy_popx_1 hset
                    · rw [z]; exact sy_popx_1 hset
                    · rw [z]; exact sy_popx_2 hset
                    · rw [z]; exact sy_popx_2 hset
                  have lv1 : 1 ≤ sy_lv (kd i) := by
                    unfold sy_lv
                    rw [if_neg c11]
                    by_cases c2 : kd i ≤ 6
                    · rw [if_pos c2]; omega
                    · rw [if_neg c2]; omega
                  obtain ⟨b1, b2, b3, b4, b5, b6, b7, b8⟩ := sy_pop_inv lv1 ops ro (i + 1) hset h11 wf0 (sy_lt_m ok.2.2.2.2.1 (by omega)) (sy_lt_m ok.2.2.2.2.2.1 (by omega))
                  refine xb_release (sy_xr (kd i)) hx10 hset hw hr (by omega) (fun a_stepKind a_stepToken w1 w2 => ?_)
                  rw [ex] at w1 w2 ⊢
                  refine xb_holdBack (kd i) i w1 (by omega) (fun a_waitingKind a_waitingToken w => nm_r (nI_1 i) ?_)
                  exact next ((kd i, i) :: (sy_pop (sy_lv (kd i)) ops ro).1) (sy_pop (sy_lv (kd i)) ops ro).2 1 _ _ _ _ es (by rw [he]; rfl) w w2
        by_cases c6 : kd i = 6
        · refine br_t (by rw [c6]; rfl) (br_t rfl p42)
        · exact br_f (ne _ 6 (by omega) (by decide) c6) p42
  exact ⟨cnt + 1, key cnt 0 true true [] [] _ _ _ _ (by omega) valid sy_ok0 trivial trivial rfl⟩
end
