/-! evaluate on either side: the scan, and the run of steps -/
theorem xs_vs_p {cl pres : Nat → Int32} {vs : Nat → Option (PF × PF)} {x : Int32} (h : xs_vs cl pres vs) : xs_vs cl (upd pres 6 x) vs := by
  intro n hn
  rcases h n hn with ⟨a, b⟩ | ⟨w, a, b, c, d⟩
  · exact Or.inl ⟨a, by rw [pk_un (by omega)]; exact b⟩
  · exact Or.inr ⟨w, a, by rw [pk_un (by omega)]; exact b, c, d⟩
theorem ys_vs_p {g : Nat → Fin 5} {th : Nat → Int32} {vs : Nat → Option (PF × PF)} {x : Int32} (h : ys_vs g th vs) : ys_vs g (upd th 6 x) vs := by
  intro n hn
  rcases h n hn with ⟨a, b⟩ | ⟨w, a, b, c⟩
  · exact Or.inl ⟨a, by rw [pk_un (by omega)]; exact b⟩
  · exact Or.inr ⟨w, a, by rw [pk_un (by omega)]; exact b, c⟩
theorem ya_sc_le {kd : Nat → Nat} : ∀ r i dp op sg p, ya_sc kd r i dp op sg = some p → p ≤ i + r := by
  intro r
  induction r with
  | zero =>
    intro i dp op sg p e
    have e2 : (if op || decide (0 < dp) then some i else none) = some p := e
    by_cases c2 : (op || decide (0 < dp)) = true
    · rw [if_pos c2] at e2; injection e2 with e3; omega
    · rw [if_neg c2] at e2; exact nomatch e2
  | succ r ih =>
    intro i dp op sg p e
    by_cases c2 : ya_fit (kd i) dp op sg = true
    · rw [ya_sc_t c2] at e
      have := ih _ _ _ _ _ e
      omega
    · rw [ya_sc_f (by simpa using c2)] at e; injection e with e3; omega
section
variable {f_tokenCount f_latestPlace f_stepCount f_waitingCount f_stackCount f_factorCount : Int32} {a_tokenKind a_tokenContent a_stepKind a_stepToken a_waitingKind a_waitingToken a_present a_cells a_leftTop a_leftBottom a_rightTop a_rightBottom a_top a_bottom a_product a_quotient a_common a_spare a_rest a_divisor a_inverse a_numerator a_factorDegrees a_factorPowers a_factorCells : Nat → Int32}
theorem xb_evaluate {post : Int32 → SX → Prop} {vs : Nat → Option (PF × PF)} {cn : Nat → Int32} {kd : Nat → Nat} (cnt : Nat) (hc : cnt ≤ 24) (tk : ∀ j, j < cnt → a_tokenKind j = nI (kd j) ∧ kd j ≤ 11)
    (tkn : ∀ j, j < cnt → a_tokenContent j = cn j ∧ kd j ≤ 11 ∧ (kd j = 2 → ∃ n, n < 6 ∧ cn j = nI n) ∧ (kd j = 9 → ∃ q, q ≤ 8 ∧ (cn j = nI q ∨ (cn j = -nI q ∧ 1 ≤ q)))) (hb : xw_b a_present) (hvs : xs_vs a_cells a_present vs)
    (h1 : ∀ p, p ≤ 24 → ya_sc kd cnt 0 0 true true = some p → post 1 (nI cnt, nI p, f_stepCount, f_waitingCount, f_stackCount, f_factorCount, a_tokenKind, a_tokenContent, a_stepKind, a_stepToken, a_waitingKind, a_waitingToken, upd a_present 6 (vp_nar .boolean 0), a_cells, a_leftTop, a_leftBottom, a_rightTop, a_rightBottom, a_top, a_bottom, a_product, a_quotient, a_common, a_spare, a_rest, a_divisor, a_inverse, a_numerator, a_factorDegrees, a_factorPowers, a_factorCells))
    (hF : ya_sc kd cnt 0 0 true true = none → ∀ (code place : Nat) (L : List (PF × PF)) (f_stepCount f_waitingCount f_stackCount : Int32) (a_stepKind a_stepToken a_waitingKind a_waitingToken cl : Nat → Int32), ∀ a_leftTop a_leftBottom a_rightTop a_rightBottom a_top a_bottom a_product a_quotient a_common a_spare a_rest a_divisor a_inverse a_numerator : Nat → Int32, code ≠ 0 → code ≤ 4 → pr_run vs cn (sy_go kd cnt 0 true [] []) code place L → (∀ i, i < 126 → cl i = a_cells i) → post (nI code) (nI cnt, nI place, f_stepCount, f_waitingCount, f_stackCount, f_factorCount, a_tokenKind, a_tokenContent, a_stepKind, a_stepToken, a_waitingKind, a_waitingToken, upd a_present 6 (vp_nar .boolean 0), cl, a_leftTop, a_leftBottom, a_rightTop, a_rightBottom, a_top, a_bottom, a_product, a_quotient, a_common, a_spare, a_rest, a_divisor, a_inverse, a_numerator, a_factorDegrees, a_factorPowers, a_factorCells))
    (h0 : ya_sc kd cnt 0 0 true true = none → ∀ (place : Nat) (w : PF × PF) (f_stepCount f_waitingCount f_stackCount : Int32) (a_stepKind a_stepToken a_waitingKind a_waitingToken cl : Nat → Int32), ∀ a_leftTop a_leftBottom a_rightTop a_rightBottom a_top a_bottom a_product a_quotient a_common a_spare a_rest a_divisor a_inverse a_numerator : Nat → Int32, pr_run vs cn (sy_go kd cnt 0 true [] []) 0 place [w] → pr_ok w → xs_pair cl 6 w → (∀ i, i < 108 → cl i = a_cells i) → post 0 (nI cnt, -1, f_stepCount, f_waitingCount, f_stackCount, f_factorCount, a_tokenKind, a_tokenContent, a_stepKind, a_stepToken, a_waitingKind, a_waitingToken, upd (upd a_present 6 (vp_nar .boolean 0)) 6 (vp_nar .boolean 1), cl, a_leftTop, a_leftBottom, a_rightTop, a_rightBottom, a_top, a_bottom, a_product, a_quotient, a_common, a_spare, a_rest, a_divisor, a_inverse, a_numerator, a_factorDegrees, a_factorPowers, a_factorCells)) : wpX_evaluate post (nI cnt, f_latestPlace, f_stepCount, f_waitingCount, f_stackCount, f_factorCount, a_tokenKind, a_tokenContent, a_stepKind, a_stepToken, a_waitingKind, a_waitingToken, a_present, a_cells, a_leftTop, a_leftBottom, a_rightTop, a_rightBottom, a_top, a_bottom, a_product, a_quotient, a_common, a_spare, a_rest, a_divisor, a_inverse, a_numerator, a_factorDegrees, a_factorPowers, a_factorCells) := by
  unfold wpX_evaluate
  refine nm_e (xb_findSyntaxFault cnt hc tk ?_)
  generalize er : ya_sc kd cnt 0 0 true true = res at h1 hF h0
  cases res with
  | some p =>
    have hp := ya_sc_le _ _ _ _ _ _ er
    exact br_f (nI_pos (n := p) (by omega)) (h1 p (by omega) rfl)
  | none =>
    refine br_t (by decide) (xb_orderSteps cnt hc tk er (fun f_waitingCount a_stepKind a_stepToken a_waitingKind a_waitingToken hrep => ?_))
    obtain ⟨i1, i2, i3, i4⟩ := sy_go_inv (kd := kd) (cnt := cnt) (fun j hj => (tk j hj).2) cnt 0 true true [] [] (by omega) er sy_ok0 (fun p hp => nomatch hp) (fun p hp => nomatch hp)
    have t := xb_evloop (post := post) (vs := vs) (cn := cn) (kd := kd) (cnt := cnt) (ro := sy_go kd cnt 0 true [] []) (f_tokenCount := nI cnt) (f_latestPlace := -1) (f_waitingCount := f_waitingCount) (f_factorCount := f_factorCount) (a_tokenKind := a_tokenKind) (a_tokenContent := a_tokenContent) (a_stepKind := a_stepKind) (a_stepToken := a_stepToken) (a_waitingKind := a_waitingKind) (a_waitingToken := a_waitingToken) (a_present := upd a_present 6 (vp_nar .boolean 0)) (a_factorDegrees := a_factorDegrees) (a_factorPowers := a_factorPowers) (a_factorCells := a_factorCells)
      hc i3 i1 i2 i4 hrep tkn (xw_b0 hb 6) a_cells (fun code place L f_stackCount cl a_leftTop a_leftBottom a_rightTop a_rightBottom a_top a_bottom a_product a_quotient a_common a_spare a_rest a_divisor a_inverse a_numerator c0 c4 hr hcl => hF rfl code place L _ _ _ _ _ _ _ cl _ _ _ _ _ _ _ _ _ _ _ _ _ _ c0 c4 hr hcl) (fun place w f_stackCount cl a_leftTop a_leftBottom a_rightTop a_rightBottom a_top a_bottom a_product a_quotient a_common a_spare a_rest a_divisor a_inverse a_numerator hr ow hp hcl => h0 rfl place w _ _ _ _ _ _ _ cl _ _ _ _ _ _ _ _ _ _ _ _ _ _ hr ow hp hcl)
      (sy_go kd cnt 0 true [] []).length (sy_go kd cnt 0 true [] []) [] [] 0 a_cells a_leftTop a_leftBottom a_rightTop a_rightBottom a_top a_bottom a_product a_quotient a_common a_spare a_rest a_divisor a_inverse a_numerator rfl (List.append_nil _).symm ⟨rfl, rfl⟩ trivial (xs_vs_p hvs) (fun _ _ => rfl)
    exact ⟨_, t⟩
end
section
variable {f_count f_place f_opens f_top f_fault f_faultAt f_dry f_found : Int32} {a_c a_there a_kind a_num a_open a_openAt a_power a_table : Nat → Int32}
theorem yb_evaluate {post : Int32 → SY → Prop} {vs : Nat → Option (PF × PF)} {cn : Nat → Int32} {kd : Nat → Nat} {cnt : Nat} {g : Nat → Fin 5} (hc : cnt ≤ 24) (tk : ya_tk a_kind a_num cnt kd) (hcn : ∀ j, j < cnt → cn j = a_num j) (pl9 : ya_9 g) (hvs : ys_vs g a_there vs)
    (h1 : ∀ (p : Nat) (g' : Nat → Fin 5) (f_opens f_top f_fault f_faultAt f_dry f_found : Int32) (a_open a_openAt a_power : Nat → Int32), ya_sc kd cnt 0 0 true true = some p → ya_pl g g' → post 1 (nI cnt, nI p, f_opens, f_top, f_fault, f_faultAt, f_dry, f_found, fi_m g', upd a_there 6 (vp_nar .boolean 0), a_kind, a_num, a_open, a_openAt, a_power, a_table))
    (hF : ya_sc kd cnt 0 0 true true = none → ∀ (code place : Nat) (L : List (PF × PF)) (g' : Nat → Fin 5) (f_opens f_top f_fault f_faultAt f_dry f_found : Int32) (a_open a_openAt a_power : Nat → Int32), code ≠ 0 → code ≤ 4 → pr_run vs cn (sy_go kd cnt 0 true [] []) code place L → ya_pl g g' → post (nI code) (nI cnt, nI place, f_opens, f_top, f_fault, f_faultAt, f_dry, f_found, fi_m g', upd a_there 6 (vp_nar .boolean 0), a_kind, a_num, a_open, a_openAt, a_power, a_table))
    (h0 : ya_sc kd cnt 0 0 true true = none → ∀ (place : Nat) (w : PF × PF) (g' : Nat → Fin 5) (f_opens f_top f_fault f_faultAt f_dry f_found : Int32) (a_open a_openAt a_power : Nat → Int32), pr_run vs cn (sy_go kd cnt 0 true [] []) 0 place [w] → pr_ok w → fi_s g' 64 = w.1 → fi_s g' 65 = w.2 → (∀ s, 52 ≤ s → s < 64 → fi_s g' s = fi_s g s) → post 0 (nI cnt, -1, f_opens, f_top, f_fault, f_faultAt, f_dry, f_found, fi_m g', upd (upd a_there 6 (vp_nar .boolean 0)) 6 (vp_nar .boolean 1), a_kind, a_num, a_open, a_openAt, a_power, a_table)) :
    wpY_evaluate post (nI cnt, f_place, f_opens, f_top, f_fault, f_faultAt, f_dry, f_found, fi_m g, a_there, a_kind, a_num, a_open, a_openAt, a_power, a_table) := by
  unfold wpY_evaluate
  refine nm_e (yc_pass hc tk pl9 (fun _ => rfl) (fun g1 ops tp ft fa m pw ao aa p1 hin => ?_))
  generalize er : ya_sc kd cnt 0 0 true true = res at h1 hF h0 hin
  cases res with
  | some p =>
    have hp := ya_sc_le _ _ _ _ _ _ er
    exact br_f (nI_pos (n := p) (by omega)) (h1 p g1 _ _ _ _ _ _ _ _ _ rfl p1)
  | none =>
    have ft0 : ft = 0 := (hin rfl).2 (by decide)
    subst ft0
    refine br_t (by decide) ?_
    unfold wpY_pass
    refine ⟨cnt + 1, ?_⟩
    obtain ⟨i1, i2, i3, i4⟩ := sy_go_inv (kd := kd) (cnt := cnt) (fun j hj => (tk j hj).2.1) cnt 0 true true [] [] (by omega) er sy_ok0 (fun p hp => nomatch hp) (fun p hp => nomatch hp)
    refine yb_pass16 (vs := vs) (cn := cn) (kd := kd) (cnt := cnt) (g0 := g1) hc tk hcn (ys_vs_o (ys_vs_p hvs) p1) (fun code place g2 op2 tp2 m2 fa2 pw2 ao2 aa2 hI p2 => ?_) cnt 0 true true 1 1 [] [] 0 0 g1 m fa pw ao aa (by omega) er rfl rfl (fun _ => ⟨fun z => absurd z (by decide), fun z => absurd z (by decide)⟩) sy_ok0 trivial ⟨[], ⟨rfl, rfl⟩, by omega, fun _ => trivial, fun z => absurd rfl z⟩ (ya_pl_r g1)
    obtain ⟨L, hrun, hc4, hr, hfa⟩ := hI
    by_cases c0 : code = 0
    · subst c0
      have l1 := pr_run_l _ _ _ _ hrun i1
      obtain ⟨w, eL⟩ : ∃ w, L = [w] := by
        cases L with
        | nil => exact nomatch (show 0 = 1 from l1)
        | cons w t =>
          cases t with
          | nil => exact ⟨w, rfl⟩
          | cons a b => exact absurd (show b.length + 1 + 1 = 1 from l1) (by omega)
      subst eL
      obtain ⟨hw, ow, _⟩ := hr rfl
      refine br_t rfl ?_
      refine yc_copy 0 64 (by omega) (by omega) ?_
      refine yc_copy 1 65 (by omega) (by omega) (nm_e (h0 rfl place w _ _ _ _ _ _ _ _ _ _ hrun ow ?_ ?_ (fun s a b => ?_)))
      · rw [fi_sq (by omega), fi_sp (fi_s_ln _ _)]; exact hw.1
      · rw [fi_sp (fi_s_ln _ _), fi_sq (by omega)]; exact hw.2
      · rw [fi_sq (by omega), fi_sq (by omega), p2 s a (by omega), p1 s a (by omega)]
    · have e := hfa c0
      subst e
      exact br_f (nI_ne0 (by omega) (by omega)) (hF rfl code place L g2 _ _ _ _ _ _ _ _ _ c0 hc4 hrun (ya_pl_t p1 p2))
end
