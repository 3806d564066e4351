/-! The class's leaves on polynomials (written by wip/p2/gen_x2.py) -/
section
variable {f_tokenCount f_latestPlace f_stepCount f_waitingCount f_stackCount f_factorCount : Int32} {a_tokenKind a_tokenContent a_stepKind a_stepToken a_waitingKind a_waitingToken a_present a_cells a_leftTop a_leftBottom a_rightTop a_rightBottom a_top a_bottom a_product a_quotient a_common a_spare a_rest a_divisor a_inverse a_numerator a_factorDegrees a_factorPowers a_factorCells : Nat → Int32}
theorem xf_addMultiple__top_product {post : SX → Prop} {P Q : PF} {x : Int32} (y : Fin 5) (hA : xv a_top P) (hB : xv a_product Q) (h : ∀ a_top : Nat → Int32, xv a_top (fun k => P k + y * Q k) → post (f_tokenCount, f_latestPlace, f_stepCount, f_waitingCount, f_stackCount, f_factorCount, a_tokenKind, a_tokenContent, a_stepKind, a_stepToken, a_waitingKind, a_waitingToken, a_present, a_cells, a_leftTop, a_leftBottom, a_rightTop, a_rightBottom, a_top, a_bottom, a_product, a_quotient, a_common, a_spare, a_rest, a_divisor, a_inverse, a_numerator, a_factorDegrees, a_factorPowers, a_factorCells)) (ex : x = fi_I y := by rfl) : wpX_addMultiple__top_product post (f_tokenCount, f_latestPlace, f_stepCount, f_waitingCount, f_stackCount, f_factorCount, a_tokenKind, a_tokenContent, a_stepKind, a_stepToken, a_waitingKind, a_waitingToken, a_present, a_cells, a_leftTop, a_leftBottom, a_rightTop, a_rightBottom, a_top, a_bottom, a_product, a_quotient, a_common, a_spare, a_rest, a_divisor, a_inverse, a_numerator, a_factorDegrees, a_factorPowers, a_factorCells) x := by
  subst ex
  have key : ∀ d j, ∀ a_top : Nat → Int32, j + d = 17 → xv a_top (fun k => if k < j then P k + y * Q k else P k) → wX_addMultiple__top_product_2 post (fi_I y) f_tokenCount f_latestPlace f_stepCount f_waitingCount f_stackCount f_factorCount (d + 1) (nI j) a_tokenKind a_tokenContent a_stepKind a_stepToken a_waitingKind a_waitingToken a_present a_cells a_leftTop a_leftBottom a_rightTop a_rightBottom a_top a_bottom a_product a_quotient a_common a_spare a_rest a_divisor a_inverse a_numerator a_factorDegrees a_factorPowers a_factorCells := by
    intro d
    induction d with
    | zero =>
      intro j a_top hj hx
      obtain rfl : j = 17 := by omega
      exact br_t (by decide) (h _ (xv_e hx (fun k hk => if_pos hk)))
    | succ d ih =>
      intro j a_top hj hx
      refine br_f (xl_17 (by omega)) ⟨vp_in_nI (by omega) (by omega), vp_in_nI (by omega) (by omega), by decide, vp_in_nI (by omega) (by omega), nm_e (nm_r (nI_1 j) (ih (j + 1) _ (by omega) ?_))⟩
      rw [nI_clamp (by omega), hB j (by omega)]; exact xv_am hx (by omega)
  exact ⟨18, key 17 0 a_top rfl (xv_e hA (fun k _ => (if_neg (Nat.not_lt_zero k)).symm))⟩
theorem xf_degreeOf__rightTop {post : Int32 → Prop} {P : PF} (hA : xv a_rightTop P) (lA : pf_ln P 17) (z : P = pf_c 0 → post (-1)) (p : ∀ d, d < 17 → pf_hd P d → post (nI d)) : wpX_degreeOf__rightTop post (f_tokenCount, f_latestPlace, f_stepCount, f_waitingCount, f_stackCount, f_factorCount, a_tokenKind, a_tokenContent, a_stepKind, a_stepToken, a_waitingKind, a_waitingToken, a_present, a_cells, a_leftTop, a_leftBottom, a_rightTop, a_rightBottom, a_top, a_bottom, a_product, a_quotient, a_common, a_spare, a_rest, a_divisor, a_inverse, a_numerator, a_factorDegrees, a_factorPowers, a_factorCells) := by
  have key : ∀ j n, j < n → j ≤ 17 → (∀ k, j ≤ k → P k = 0) → wX_degreeOf__rightTop_3 post f_tokenCount f_latestPlace f_stepCount f_waitingCount f_stackCount f_factorCount a_tokenKind a_tokenContent a_stepKind a_stepToken a_waitingKind a_waitingToken a_present a_cells a_leftTop a_leftBottom a_rightTop a_rightBottom a_top a_bottom a_product a_quotient a_common a_spare a_rest a_divisor a_inverse a_numerator a_factorDegrees a_factorPowers a_factorCells n (nI j + (-1)) := by
    intro j
    induction j with
    | zero =>
      intro n hn _ hz
      obtain ⟨n, rfl⟩ : ∃ m, n = m + 1 := ⟨n - 1, by omega⟩
      have e0 : nI 0 + (-1) = -1 := by decide
      rw [e0]
      exact br_t (by decide) (z (by rw [pf_c0]; exact funext fun k => hz k (Nat.zero_le k)))
    | succ j ih =>
      intro n hn hj hz
      obtain ⟨n, rfl⟩ : ∃ m, n = m + 1 := ⟨n - 1, by omega⟩
      rw [pk_m1]
      refine br_f (nI_pos (by omega)) ⟨vp_in_nI (by omega) (by omega), ?_⟩
      rw [nI_clamp (by omega), hA j (by omega)]
      by_cases c : P j = 0
      · refine br_t ((fi_0 _).mpr c) (nm_e (ih n (by omega) (by omega) ?_))
        intro k hk
        by_cases ek : k = j
        · rw [ek]; exact c
        · exact hz k (by omega)
      · exact br_f (fun e => c ((fi_0 _).mp e)) (p j (by omega) ⟨fun k hk => hz k (by omega), c⟩)
  have e16 : nI 17 + (-1) = 16 := by decide
  have t := key 17 18 (by omega) (by omega) lA
  rw [e16] at t
  exact ⟨18, t⟩
theorem xf_degreeOf__leftTop {post : Int32 → Prop} {P : PF} (hA : xv a_leftTop P) (lA : pf_ln P 17) (z : P = pf_c 0 → post (-1)) (p : ∀ d, d < 17 → pf_hd P d → post (nI d)) : wpX_degreeOf__leftTop post (f_tokenCount, f_latestPlace, f_stepCount, f_waitingCount, f_stackCount, f_factorCount, a_tokenKind, a_tokenContent, a_stepKind, a_stepToken, a_waitingKind, a_waitingToken, a_present, a_cells, a_leftTop, a_leftBottom, a_rightTop, a_rightBottom, a_top, a_bottom, a_product, a_quotient, a_common, a_spare, a_rest, a_divisor, a_inverse, a_numerator, a_factorDegrees, a_factorPowers, a_factorCells) := by
  have key : ∀ j n, j < n → j ≤ 17 → (∀ k, j ≤ k → P k = 0) → wX_degreeOf__leftTop_3 post f_tokenCount f_latestPlace f_stepCount f_waitingCount f_stackCount f_factorCount a_tokenKind a_tokenContent a_stepKind a_stepToken a_waitingKind a_waitingToken a_present a_cells a_leftTop a_leftBottom a_rightTop a_rightBottom a_top a_bottom a_product a_quotient a_common a_spare a_rest a_divisor a_inverse a_numerator a_factorDegrees a_factorPowers a_factorCells n (nI j + (-1)) := by
    intro j
    induction j with
    | zero =>
      intro n hn _ hz
      obtain ⟨n, rfl⟩ : ∃ m, n = m + 1 := ⟨n - 1, by omega⟩
      have e0 : nI 0 + (-1) = -1 := by decide
      rw [e0]
      exact br_t (by decide) (z (by rw [pf_c0]; exact funext fun k => hz k (Nat.zero_le k)))
    | succ j ih =>
      intro n hn hj hz
      obtain ⟨n, rfl⟩ : ∃ m, n = m + 1 := ⟨n - 1, by omega⟩
      rw [pk_m1]
      refine br_f (nI_pos (by omega)) ⟨vp_in_nI (by omega) (by omega), ?_⟩
      rw [nI_clamp (by omega), hA j (by omega)]
      by_cases c : P j = 0
      · refine br_t ((fi_0 _).mpr c) (nm_e (ih n (by omega) (by omega) ?_))
        intro k hk
        by_cases ek : k = j
        · rw [ek]; exact c
        · exact hz k (by omega)
      · exact br_f (fun e => c ((fi_0 _).mp e)) (p j (by omega) ⟨fun k hk => hz k (by omega), c⟩)
  have e16 : nI 17 + (-1) = 16 := by decide
  have t := key 17 18 (by omega) (by omega) lA
  rw [e16] at t
  exact ⟨18, t⟩
theorem xf_degreeOf__leftBottom {post : Int32 → Prop} {P : PF} (hA : xv a_leftBottom P) (lA : pf_ln P 17) (z : P = pf_c 0 → post (-1)) (p : ∀ d, d < 17 → pf_hd P d → post (nI d)) : wpX_degreeOf__leftBottom post (f_tokenCount, f_latestPlace, f_stepCount, f_waitingCount, f_stackCount, f_factorCount, a_tokenKind, a_tokenContent, a_stepKind, a_stepToken, a_waitingKind, a_waitingToken, a_present, a_cells, a_leftTop, a_leftBottom, a_rightTop, a_rightBottom, a_top, a_bottom, a_product, a_quotient, a_common, a_spare, a_rest, a_divisor, a_inverse, a_numerator, a_factorDegrees, a_factorPowers, a_factorCells) := by
  have key : ∀ j n, j < n → j ≤ 17 → (∀ k, j ≤ k → P k = 0) → wX_degreeOf__leftBottom_3 post f_tokenCount f_latestPlace f_stepCount f_waitingCount f_stackCount f_factorCount a_tokenKind a_tokenContent a_stepKind a_stepToken a_waitingKind a_waitingToken a_present a_cells a_leftTop a_leftBottom a_rightTop a_rightBottom a_top a_bottom a_product a_quotient a_common a_spare a_rest a_divisor a_inverse a_numerator a_factorDegrees a_factorPowers a_factorCells n (nI j + (-1)) := by
    intro j
    induction j with
    | zero =>
      intro n hn _ hz
      obtain ⟨n, rfl⟩ : ∃ m, n = m + 1 := ⟨n - 1, by omega⟩
      have e0 : nI 0 + (-1) = -1 := by decide
      rw [e0]
      exact br_t (by decide) (z (by rw [pf_c0]; exact funext fun k => hz k (Nat.zero_le k)))
    | succ j ih =>
      intro n hn hj hz
      obtain ⟨n, rfl⟩ : ∃ m, n = m + 1 := ⟨n - 1, by omega⟩
      rw [pk_m1]
      refine br_f (nI_pos (by omega)) ⟨vp_in_nI (by omega) (by omega), ?_⟩
      rw [nI_clamp (by omega), hA j (by omega)]
      by_cases c : P j = 0
      · refine br_t ((fi_0 _).mpr c) (nm_e (ih n (by omega) (by omega) ?_))
        intro k hk
        by_cases ek : k = j
        · rw [ek]; exact c
        · exact hz k (by omega)
      · exact br_f (fun e => c ((fi_0 _).mp e)) (p j (by omega) ⟨fun k hk => hz k (by omega), c⟩)
  have e16 : nI 17 + (-1) = 16 := by decide
  have t := key 17 18 (by omega) (by omega) lA
  rw [e16] at t
  exact ⟨18, t⟩
theorem xf_exchange__top_bottom {post : SX → Prop} {P Q : PF} (hA : xv a_top P) (hB : xv a_bottom Q) (h : ∀ a_top a_bottom : Nat → Int32, xv a_top Q → xv a_bottom P → post (f_tokenCount, f_latestPlace, f_stepCount, f_waitingCount, f_stackCount, f_factorCount, a_tokenKind, a_tokenContent, a_stepKind, a_stepToken, a_waitingKind, a_waitingToken, a_present, a_cells, a_leftTop, a_leftBottom, a_rightTop, a_rightBottom, a_top, a_bottom, a_product, a_quotient, a_common, a_spare, a_rest, a_divisor, a_inverse, a_numerator, a_factorDegrees, a_factorPowers, a_factorCells)) : wpX_exchange__top_bottom post (f_tokenCount, f_latestPlace, f_stepCount, f_waitingCount, f_stackCount, f_factorCount, a_tokenKind, a_tokenContent, a_stepKind, a_stepToken, a_waitingKind, a_waitingToken, a_present, a_cells, a_leftTop, a_leftBottom, a_rightTop, a_rightBottom, a_top, a_bottom, a_product, a_quotient, a_common, a_spare, a_rest, a_divisor, a_inverse, a_numerator, a_factorDegrees, a_factorPowers, a_factorCells) := by
  have key : ∀ d j, ∀ a_top a_bottom : Nat → Int32, j + d = 17 → xv a_top (fun k => if k < j then Q k else P k) → xv a_bottom (fun k => if k < j then P k else Q k) → wX_exchange__top_bottom_2 post f_tokenCount f_latestPlace f_stepCount f_waitingCount f_stackCount f_factorCount (d + 1) (nI j) a_tokenKind a_tokenContent a_stepKind a_stepToken a_waitingKind a_waitingToken a_present a_cells a_leftTop a_leftBottom a_rightTop a_rightBottom a_top a_bottom a_product a_quotient a_common a_spare a_rest a_divisor a_inverse a_numerator a_factorDegrees a_factorPowers a_factorCells := by
    intro d
    induction d with
    | zero =>
      intro j a_top a_bottom hj hx hy
      obtain rfl : j = 17 := by omega
      exact br_t (by decide) (h _ _ (xv_e hx (fun k hk => if_pos hk)) (xv_e hy (fun k hk => if_pos hk)))
    | succ d ih =>
      intro j a_top a_bottom hj hx hy
      have e : vp_in (nI j) 17 := vp_in_nI (by omega) (by omega)
      refine br_f (xl_17 (by omega)) ⟨e, nm_e ⟨e, e, nm_e ⟨e, nm_e (nm_r (nI_1 j) (ih (j + 1) _ _ (by omega) ?_ ?_))⟩⟩⟩
      · rw [nI_clamp (by omega)]; exact xv_ex hx hy (by omega)
      · rw [nI_clamp (by omega)]; exact xv_ex hy hx (by omega)
  exact ⟨18, key 17 0 a_top a_bottom rfl (xv_e hA (fun k _ => (if_neg (Nat.not_lt_zero k)).symm)) (xv_e hB (fun k _ => (if_neg (Nat.not_lt_zero k)).symm))⟩
theorem xf_copy__product_top {post : SX → Prop} {Q : PF} (hB : xv a_product Q) (h : ∀ a_top : Nat → Int32, xv a_top Q → post (f_tokenCount, f_latestPlace, f_stepCount, f_waitingCount, f_stackCount, f_factorCount, a_tokenKind, a_tokenContent, a_stepKind, a_stepToken, a_waitingKind, a_waitingToken, a_present, a_cells, a_leftTop, a_leftBottom, a_rightTop, a_rightBottom, a_top, a_bottom, a_product, a_quotient, a_common, a_spare, a_rest, a_divisor, a_inverse, a_numerator, a_factorDegrees, a_factorPowers, a_factorCells)) : wpX_copy__product_top post (f_tokenCount, f_latestPlace, f_stepCount, f_waitingCount, f_stackCount, f_factorCount, a_tokenKind, a_tokenContent, a_stepKind, a_stepToken, a_waitingKind, a_waitingToken, a_present, a_cells, a_leftTop, a_leftBottom, a_rightTop, a_rightBottom, a_top, a_bottom, a_product, a_quotient, a_common, a_spare, a_rest, a_divisor, a_inverse, a_numerator, a_factorDegrees, a_factorPowers, a_factorCells) := by
  have key : ∀ d j, ∀ a_top : Nat → Int32, j + d = 17 → (∀ k, k < j → a_top k = fi_I (Q k)) → wX_copy__product_top_2 post f_tokenCount f_latestPlace f_stepCount f_waitingCount f_stackCount f_factorCount (d + 1) (nI j) a_tokenKind a_tokenContent a_stepKind a_stepToken a_waitingKind a_waitingToken a_present a_cells a_leftTop a_leftBottom a_rightTop a_rightBottom a_top a_bottom a_product a_quotient a_common a_spare a_rest a_divisor a_inverse a_numerator a_factorDegrees a_factorPowers a_factorCells := by
    intro d
    induction d with
    | zero =>
      intro j a_top hj hx
      obtain rfl : j = 17 := by omega
      exact br_t (by decide) (h _ (hx))
    | succ d ih =>
      intro j a_top hj hx
      refine br_f (xl_17 (by omega)) ⟨vp_in_nI (by omega) (by omega), vp_in_nI (by omega) (by omega), nm_e (nm_r (nI_1 j) (ih (j + 1) _ (by omega) ?_))⟩
      rw [nI_clamp (by omega), hB j (by omega)]; exact xv_cp hx
  exact ⟨18, key 17 0 a_top rfl (fun k hk => by omega)⟩
theorem xf_copy__product_bottom {post : SX → Prop} {Q : PF} (hB : xv a_product Q) (h : ∀ a_bottom : Nat → Int32, xv a_bottom Q → post (f_tokenCount, f_latestPlace, f_stepCount, f_waitingCount, f_stackCount, f_factorCount, a_tokenKind, a_tokenContent, a_stepKind, a_stepToken, a_waitingKind, a_waitingToken, a_present, a_cells, a_leftTop, a_leftBottom, a_rightTop, a_rightBottom, a_top, a_bottom, a_product, a_quotient, a_common, a_spare, a_rest, a_divisor, a_inverse, a_numerator, a_factorDegrees, a_factorPowers, a_factorCells)) : wpX_copy__product_bottom post (f_tokenCount, f_latestPlace, f_stepCount, f_waitingCount, f_stackCount, f_factorCount, a_tokenKind, a_tokenContent, a_stepKind, a_stepToken, a_waitingKind, a_waitingToken, a_present, a_cells, a_leftTop, a_leftBottom, a_rightTop, a_rightBottom, a_top, a_bottom, a_product, a_quotient, a_common, a_spare, a_rest, a_divisor, a_inverse, a_numerator, a_factorDegrees, a_factorPowers, a_factorCells) := by
  have key : ∀ d j, ∀ a_bottom : Nat → Int32, j + d = 17 → (∀ k, k < j → a_bottom k = fi_I (Q k)) → wX_copy__product_bottom_2 post f_tokenCount f_latestPlace f_stepCount f_waitingCount f_stackCount f_factorCount (d + 1) (nI j) a_tokenKind a_tokenContent a_stepKind a_stepToken a_waitingKind a_waitingToken a_present a_cells a_leftTop a_leftBottom a_rightTop a_rightBottom a_top a_bottom a_product a_quotient a_common a_spare a_rest a_divisor a_inverse a_numerator a_factorDegrees a_factorPowers a_factorCells := by
    intro d
    induction d with
    | zero =>
      intro j a_bottom hj hx
      obtain rfl : j = 17 := by omega
      exact br_t (by decide) (h _ (hx))
    | succ d ih =>
      intro j a_bottom hj hx
      refine br_f (xl_17 (by omega)) ⟨vp_in_nI (by omega) (by omega), vp_in_nI (by omega) (by omega), nm_e (nm_r (nI_1 j) (ih (j + 1) _ (by omega) ?_))⟩
      rw [nI_clamp (by omega), hB j (by omega)]; exact xv_cp hx
  exact ⟨18, key 17 0 a_bottom rfl (fun k hk => by omega)⟩
theorem xf_takeDerivative__leftTop_spare {post : SX → Prop} {P : PF} (hA : xv a_leftTop P) (lA : pf_ln P 17) (h : ∀ a_spare : Nat → Int32, xv a_spare (pf_dr P) → post (f_tokenCount, f_latestPlace, f_stepCount, f_waitingCount, f_stackCount, f_factorCount, a_tokenKind, a_tokenContent, a_stepKind, a_stepToken, a_waitingKind, a_waitingToken, a_present, a_cells, a_leftTop, a_leftBottom, a_rightTop, a_rightBottom, a_top, a_bottom, a_product, a_quotient, a_common, a_spare, a_rest, a_divisor, a_inverse, a_numerator, a_factorDegrees, a_factorPowers, a_factorCells)) : wpX_takeDerivative__leftTop_spare post (f_tokenCount, f_latestPlace, f_stepCount, f_waitingCount, f_stackCount, f_factorCount, a_tokenKind, a_tokenContent, a_stepKind, a_stepToken, a_waitingKind, a_waitingToken, a_present, a_cells, a_leftTop, a_leftBottom, a_rightTop, a_rightBottom, a_top, a_bottom, a_product, a_quotient, a_common, a_spare, a_rest, a_divisor, a_inverse, a_numerator, a_factorDegrees, a_factorPowers, a_factorCells) := by
  have key : ∀ d j, ∀ a_spare : Nat → Int32, j + d = 16 → xv a_spare (fun k => if k < j then pf_dr P k else 0) → wX_takeDerivative__leftTop_spare_7 post f_tokenCount f_latestPlace f_stepCount f_waitingCount f_stackCount f_factorCount (d + 1) (nI (j + 1)) a_tokenKind a_tokenContent a_stepKind a_stepToken a_waitingKind a_waitingToken a_present a_cells a_leftTop a_leftBottom a_rightTop a_rightBottom a_top a_bottom a_product a_quotient a_common a_spare a_rest a_divisor a_inverse a_numerator a_factorDegrees a_factorPowers a_factorCells := by
    intro d
    induction d with
    | zero =>
      intro j a_spare hj hy
      obtain rfl : j = 16 := by omega
      exact br_t (by decide) (h _ (xv_dr hy lA))
    | succ d ih =>
      intro j a_spare hj hy
      refine br_f (xl_17 (by omega)) ⟨vp_in_nI (by omega) (by omega), by decide, pk_in j 17 (by omega) (nI_pred j), nm_e (nm_r (nI_1 (j + 1)) (ih (j + 1) _ (by omega) ?_))⟩
      rw [nI_pred, nI_clamp (by omega), nI_clamp (by omega), hA (j + 1) (by omega)]; exact xv_ds hy (by omega)
  unfold wpX_takeDerivative__leftTop_spare
  exact xf_setNumber__spare 0 (fun a_spare hy => ⟨17, key 16 0 _ rfl (xv_e hy (fun k _ => by rw [pf_c0, if_neg (by omega)]))⟩)
theorem xf_takeDerivative__leftBottom_spare {post : SX → Prop} {P : PF} (hA : xv a_leftBottom P) (lA : pf_ln P 17) (h : ∀ a_spare : Nat → Int32, xv a_spare (pf_dr P) → post (f_tokenCount, f_latestPlace, f_stepCount, f_waitingCount, f_stackCount, f_factorCount, a_tokenKind, a_tokenContent, a_stepKind, a_stepToken, a_waitingKind, a_waitingToken, a_present, a_cells, a_leftTop, a_leftBottom, a_rightTop, a_rightBottom, a_top, a_bottom, a_product, a_quotient, a_common, a_spare, a_rest, a_divisor, a_inverse, a_numerator, a_factorDegrees, a_factorPowers, a_factorCells)) : wpX_takeDerivative__leftBottom_spare post (f_tokenCount, f_latestPlace, f_stepCount, f_waitingCount, f_stackCount, f_factorCount, a_tokenKind, a_tokenContent, a_stepKind, a_stepToken, a_waitingKind, a_waitingToken, a_present, a_cells, a_leftTop, a_leftBottom, a_rightTop, a_rightBottom, a_top, a_bottom, a_product, a_quotient, a_common, a_spare, a_rest, a_divisor, a_inverse, a_numerator, a_factorDegrees, a_factorPowers, a_factorCells) := by
  have key : ∀ d j, ∀ a_spare : Nat → Int32, j + d = 16 → xv a_spare (fun k => if k < j then pf_dr P k else 0) → wX_takeDerivative__leftBottom_spare_7 post f_tokenCount f_latestPlace f_stepCount f_waitingCount f_stackCount f_factorCount (d + 1) (nI (j + 1)) a_tokenKind a_tokenContent a_stepKind a_stepToken a_waitingKind a_waitingToken a_present a_cells a_leftTop a_leftBottom a_rightTop a_rightBottom a_top a_bottom a_product a_quotient a_common a_spare a_rest a_divisor a_inverse a_numerator a_factorDegrees a_factorPowers a_factorCells := by
    intro d
    induction d with
    | zero =>
      intro j a_spare hj hy
      obtain rfl : j = 16 := by omega
      exact br_t (by decide) (h _ (xv_dr hy lA))
    | succ d ih =>
      intro j a_spare hj hy
      refine br_f (xl_17 (by omega)) ⟨vp_in_nI (by omega) (by omega), by decide, pk_in j 17 (by omega) (nI_pred j), nm_e (nm_r (nI_1 (j + 1)) (ih (j + 1) _ (by omega) ?_))⟩
      rw [nI_pred, nI_clamp (by omega), nI_clamp (by omega), hA (j + 1) (by omega)]; exact xv_ds hy (by omega)
  unfold wpX_takeDerivative__leftBottom_spare
  exact xf_setNumber__spare 0 (fun a_spare hy => ⟨17, key 16 0 _ rfl (xv_e hy (fun k _ => by rw [pf_c0, if_neg (by omega)]))⟩)
theorem xf_degreeOf__rightBottom {post : Int32 → Prop} {P : PF} (hA : xv a_rightBottom P) (lA : pf_ln P 17) (z : P = pf_c 0 → post (-1)) (p : ∀ d, d < 17 → pf_hd P d → post (nI d)) : wpX_degreeOf__rightBottom post (f_tokenCount, f_latestPlace, f_stepCount, f_waitingCount, f_stackCount, f_factorCount, a_tokenKind, a_tokenContent, a_stepKind, a_stepToken, a_waitingKind, a_waitingToken, a_present, a_cells, a_leftTop, a_leftBottom, a_rightTop, a_rightBottom, a_top, a_bottom, a_product, a_quotient, a_common, a_spare, a_rest, a_divisor, a_inverse, a_numerator, a_factorDegrees, a_factorPowers, a_factorCells) := by
  have key : ∀ j n, j < n → j ≤ 17 → (∀ k, j ≤ k → P k = 0) → wX_degreeOf__rightBottom_3 post f_tokenCount f_latestPlace f_stepCount f_waitingCount f_stackCount f_factorCount a_tokenKind a_tokenContent a_stepKind a_stepToken a_waitingKind a_waitingToken a_present a_cells a_leftTop a_leftBottom a_rightTop a_rightBottom a_top a_bottom a_product a_quotient a_common a_spare a_rest a_divisor a_inverse a_numerator a_factorDegrees a_factorPowers a_factorCells n (nI j + (-1)) := by
    intro j
    induction j with
    | zero =>
      intro n hn _ hz
      obtain ⟨n, rfl⟩ : ∃ m, n = m + 1 := ⟨n - 1, by omega⟩
      have e0 : nI 0 + (-1) = -1 := by decide
      rw [e0]
      exact br_t (by decide) (z (by rw [pf_c0]; exact funext fun k => hz k (Nat.zero_le k)))
    | succ j ih =>
      intro n hn hj hz
      obtain ⟨n, rfl⟩ : ∃ m, n = m + 1 := ⟨n - 1, by omega⟩
      rw [pk_m1]
      refine br_f (nI_pos (by omega)) ⟨vp_in_nI (by omega) (by omega), ?_⟩
      rw [nI_clamp (by omega), hA j (by omega)]
      by_cases c : P j = 0
      · refine br_t ((fi_0 _).mpr c) (nm_e (ih n (by omega) (by omega) ?_))
        intro k hk
        by_cases ek : k = j
        · rw [ek]; exact c
        · exact hz k (by omega)
      · exact br_f (fun e => c ((fi_0 _).mp e)) (p j (by omega) ⟨fun k hk => hz k (by omega), c⟩)
  have e16 : nI 17 + (-1) = 16 := by decide
  have t := key 17 18 (by omega) (by omega) lA
  rw [e16] at t
  exact ⟨18, t⟩
theorem xf_addMultiple__top_spare {post : SX → Prop} {P Q : PF} {x : Int32} (y : Fin 5) (hA : xv a_top P) (hB : xv a_spare Q) (h : ∀ a_top : Nat → Int32, xv a_top (fun k => P k + y * Q k) → post (f_tokenCount, f_latestPlace, f_stepCount, f_waitingCount, f_stackCount, f_factorCount, a_tokenKind, a_tokenContent, a_stepKind, a_stepToken, a_waitingKind, a_waitingToken, a_present, a_cells, a_leftTop, a_leftBottom, a_rightTop, a_rightBottom, a_top, a_bottom, a_product, a_quotient, a_common, a_spare, a_rest, a_divisor, a_inverse, a_numerator, a_factorDegrees, a_factorPowers, a_factorCells)) (ex : x = fi_I y := by rfl) : wpX_addMultiple__top_spare post (f_tokenCount, f_latestPlace, f_stepCount, f_waitingCount, f_stackCount, f_factorCount, a_tokenKind, a_tokenContent, a_stepKind, a_stepToken, a_waitingKind, a_waitingToken, a_present, a_cells, a_leftTop, a_leftBottom, a_rightTop, a_rightBottom, a_top, a_bottom, a_product, a_quotient, a_common, a_spare, a_rest, a_divisor, a_inverse, a_numerator, a_factorDegrees, a_factorPowers, a_factorCells) x := by
  subst ex
  have key : ∀ d j, ∀ a_top : Nat → Int32, j + d = 17 → xv a_top (fun k => if k < j then P k + y * Q k else P k) → wX_addMultiple__top_spare_2 post (fi_I y) f_tokenCount f_latestPlace f_stepCount f_waitingCount f_stackCount f_factorCount (d + 1) (nI j) a_tokenKind a_tokenContent a_stepKind a_stepToken a_waitingKind a_waitingToken a_present a_cells a_leftTop a_leftBottom a_rightTop a_rightBottom a_top a_bottom a_product a_quotient a_common a_spare a_rest a_divisor a_inverse a_numerator a_factorDegrees a_factorPowers a_factorCells := by
    intro d
    induction d with
    | zero =>
      intro j a_top hj hx
      obtain rfl : j = 17 := by omega
      exact br_t (by decide) (h _ (xv_e hx (fun k hk => if_pos hk)))
    | succ d ih =>
      intro j a_top hj hx
      refine br_f (xl_17 (by omega)) ⟨vp_in_nI (by omega) (by omega), vp_in_nI (by omega) (by omega), by decide, vp_in_nI (by omega) (by omega), nm_e (nm_r (nI_1 j) (ih (j + 1) _ (by omega) ?_))⟩
      rw [nI_clamp (by omega), hB j (by omega)]; exact xv_am hx (by omega)
  exact ⟨18, key 17 0 a_top rfl (xv_e hA (fun k _ => (if_neg (Nat.not_lt_zero k)).symm))⟩
theorem xf_copy__product_spare {post : SX → Prop} {Q : PF} (hB : xv a_product Q) (h : ∀ a_spare : Nat → Int32, xv a_spare Q → post (f_tokenCount, f_latestPlace, f_stepCount, f_waitingCount, f_stackCount, f_factorCount, a_tokenKind, a_tokenContent, a_stepKind, a_stepToken, a_waitingKind, a_waitingToken, a_present, a_cells, a_leftTop, a_leftBottom, a_rightTop, a_rightBottom, a_top, a_bottom, a_product, a_quotient, a_common, a_spare, a_rest, a_divisor, a_inverse, a_numerator, a_factorDegrees, a_factorPowers, a_factorCells)) : wpX_copy__product_spare post (f_tokenCount, f_latestPlace, f_stepCount, f_waitingCount, f_stackCount, f_factorCount, a_tokenKind, a_tokenContent, a_stepKind, a_stepToken, a_waitingKind, a_waitingToken, a_present, a_cells, a_leftTop, a_leftBottom, a_rightTop, a_rightBottom, a_top, a_bottom, a_product, a_quotient, a_common, a_spare, a_rest, a_divisor, a_inverse, a_numerator, a_factorDegrees, a_factorPowers, a_factorCells) := by
  have key : ∀ d j, ∀ a_spare : Nat → Int32, j + d = 17 → (∀ k, k < j → a_spare k = fi_I (Q k)) → wX_copy__product_spare_2 post f_tokenCount f_latestPlace f_stepCount f_waitingCount f_stackCount f_factorCount (d + 1) (nI j) a_tokenKind a_tokenContent a_stepKind a_stepToken a_waitingKind a_waitingToken a_present a_cells a_leftTop a_leftBottom a_rightTop a_rightBottom a_top a_bottom a_product a_quotient a_common a_spare a_rest a_divisor a_inverse a_numerator a_factorDegrees a_factorPowers a_factorCells := by
    intro d
    induction d with
    | zero =>
      intro j a_spare hj hx
      obtain rfl : j = 17 := by omega
      exact br_t (by decide) (h _ (hx))
    | succ d ih =>
      intro j a_spare hj hx
      refine br_f (xl_17 (by omega)) ⟨vp_in_nI (by omega) (by omega), vp_in_nI (by omega) (by omega), nm_e (nm_r (nI_1 j) (ih (j + 1) _ (by omega) ?_))⟩
      rw [nI_clamp (by omega), hB j (by omega)]; exact xv_cp hx
  exact ⟨18, key 17 0 a_spare rfl (fun k hk => by omega)⟩
theorem xf_addMultiple__bottom_spare {post : SX → Prop} {P Q : PF} {x : Int32} (y : Fin 5) (hA : xv a_bottom P) (hB : xv a_spare Q) (h : ∀ a_bottom : Nat → Int32, xv a_bottom (fun k => P k + y * Q k) → post (f_tokenCount, f_latestPlace, f_stepCount, f_waitingCount, f_stackCount, f_factorCount, a_tokenKind, a_tokenContent, a_stepKind, a_stepToken, a_waitingKind, a_waitingToken, a_present, a_cells, a_leftTop, a_leftBottom, a_rightTop, a_rightBottom, a_top, a_bottom, a_product, a_quotient, a_common, a_spare, a_rest, a_divisor, a_inverse, a_numerator, a_factorDegrees, a_factorPowers, a_factorCells)) (ex : x = fi_I y := by rfl) : wpX_addMultiple__bottom_spare post (f_tokenCount, f_latestPlace, f_stepCount, f_waitingCount, f_stackCount, f_factorCount, a_tokenKind, a_tokenContent, a_stepKind, a_stepToken, a_waitingKind, a_waitingToken, a_present, a_cells, a_leftTop, a_leftBottom, a_rightTop, a_rightBottom, a_top, a_bottom, a_product, a_quotient, a_common, a_spare, a_rest, a_divisor, a_inverse, a_numerator, a_factorDegrees, a_factorPowers, a_factorCells) x := by
  subst ex
  have key : ∀ d j, ∀ a_bottom : Nat → Int32, j + d = 17 → xv a_bottom (fun k => if k < j then P k + y * Q k else P k) → wX_addMultiple__bottom_spare_2 post (fi_I y) f_tokenCount f_latestPlace f_stepCount f_waitingCount f_stackCount f_factorCount (d + 1) (nI j) a_tokenKind a_tokenContent a_stepKind a_stepToken a_waitingKind a_waitingToken a_present a_cells a_leftTop a_leftBottom a_rightTop a_rightBottom a_top a_bottom a_product a_quotient a_common a_spare a_rest a_divisor a_inverse a_numerator a_factorDegrees a_factorPowers a_factorCells := by
    intro d
    induction d with
    | zero =>
      intro j a_bottom hj hx
      obtain rfl : j = 17 := by omega
      exact br_t (by decide) (h _ (xv_e hx (fun k hk => if_pos hk)))
    | succ d ih =>
      intro j a_bottom hj hx
      refine br_f (xl_17 (by omega)) ⟨vp_in_nI (by omega) (by omega), vp_in_nI (by omega) (by omega), by decide, vp_in_nI (by omega) (by omega), nm_e (nm_r (nI_1 j) (ih (j + 1) _ (by omega) ?_))⟩
      rw [nI_clamp (by omega), hB j (by omega)]; exact xv_am hx (by omega)
  exact ⟨18, key 17 0 a_bottom rfl (xv_e hA (fun k _ => (if_neg (Nat.not_lt_zero k)).symm))⟩
theorem xf_valueAt__leftBottom {post : Int32 → Prop} {x : Int32} {P : PF} (y : Fin 5) (hA : xv a_leftBottom P) (h : post (fi_I (pf_hn P y 16 17))) (ex : x = fi_I y := by rfl) : wpX_valueAt__leftBottom post (f_tokenCount, f_latestPlace, f_stepCount, f_waitingCount, f_stackCount, f_factorCount, a_tokenKind, a_tokenContent, a_stepKind, a_stepToken, a_waitingKind, a_waitingToken, a_present, a_cells, a_leftTop, a_leftBottom, a_rightTop, a_rightBottom, a_top, a_bottom, a_product, a_quotient, a_common, a_spare, a_rest, a_divisor, a_inverse, a_numerator, a_factorDegrees, a_factorPowers, a_factorCells) x := by
  subst ex
  have key : ∀ j m, j + m = 17 → wX_valueAt__leftBottom_5 post (fi_I y) f_tokenCount f_latestPlace f_stepCount f_waitingCount f_stackCount f_factorCount a_tokenKind a_tokenContent a_stepKind a_stepToken a_waitingKind a_waitingToken a_present a_cells a_leftTop a_leftBottom a_rightTop a_rightBottom a_top a_bottom a_product a_quotient a_common a_spare a_rest a_divisor a_inverse a_numerator a_factorDegrees a_factorPowers a_factorCells (j + 1) (fi_I (pf_hn P y 16 m)) (nI j + (-1)) := by
    intro j
    induction j with
    | zero =>
      intro m hm
      obtain rfl : m = 17 := by omega
      have e0 : nI 0 + (-1) = -1 := by decide
      rw [e0]
      exact br_t (by decide) h
    | succ j ih =>
      intro m hm
      rw [pk_m1]
      refine br_f (nI_pos (by omega)) ⟨vp_in_nI (by omega) (by omega), by decide, nm_r (e' := fi_I (pf_hn P y 16 (m + 1))) ?_ (nm_e (ih (m + 1) (by omega)))⟩
      rw [nI_clamp (by omega), hA j (by omega), xm_ma']
      have e : 16 - m = j := by omega
      show _ = fi_I (pf_hn P y 16 m * y + P (16 - m))
      rw [e]
  have e16 : nI 17 + (-1) = 16 := by decide
  have t := key 17 0 rfl
  rw [e16] at t
  exact ⟨18, t⟩
theorem xf_addMultiple__top_leftTop {post : SX → Prop} {P Q : PF} {x : Int32} (y : Fin 5) (hA : xv a_top P) (hB : xv a_leftTop Q) (h : ∀ a_top : Nat → Int32, xv a_top (fun k => P k + y * Q k) → post (f_tokenCount, f_latestPlace, f_stepCount, f_waitingCount, f_stackCount, f_factorCount, a_tokenKind, a_tokenContent, a_stepKind, a_stepToken, a_waitingKind, a_waitingToken, a_present, a_cells, a_leftTop, a_leftBottom, a_rightTop, a_rightBottom, a_top, a_bottom, a_product, a_quotient, a_common, a_spare, a_rest, a_divisor, a_inverse, a_numerator, a_factorDegrees, a_factorPowers, a_factorCells)) (ex : x = fi_I y := by rfl) : wpX_addMultiple__top_leftTop post (f_tokenCount, f_latestPlace, f_stepCount, f_waitingCount, f_stackCount, f_factorCount, a_tokenKind, a_tokenContent, a_stepKind, a_stepToken, a_waitingKind, a_waitingToken, a_present, a_cells, a_leftTop, a_leftBottom, a_rightTop, a_rightBottom, a_top, a_bottom, a_product, a_quotient, a_common, a_spare, a_rest, a_divisor, a_inverse, a_numerator, a_factorDegrees, a_factorPowers, a_factorCells) x := by
  subst ex
  have key : ∀ d j, ∀ a_top : Nat → Int32, j + d = 17 → xv a_top (fun k => if k < j then P k + y * Q k else P k) → wX_addMultiple__top_leftTop_2 post (fi_I y) f_tokenCount f_latestPlace f_stepCount f_waitingCount f_stackCount f_factorCount (d + 1) (nI j) a_tokenKind a_tokenContent a_stepKind a_stepToken a_waitingKind a_waitingToken a_present a_cells a_leftTop a_leftBottom a_rightTop a_rightBottom a_top a_bottom a_product a_quotient a_common a_spare a_rest a_divisor a_inverse a_numerator a_factorDegrees a_factorPowers a_factorCells := by
    intro d
    induction d with
    | zero =>
      intro j a_top hj hx
      obtain rfl : j = 17 := by omega
      exact br_t (by decide) (h _ (xv_e hx (fun k hk => if_pos hk)))
    | succ d ih =>
      intro j a_top hj hx
      refine br_f (xl_17 (by omega)) ⟨vp_in_nI (by omega) (by omega), vp_in_nI (by omega) (by omega), by decide, vp_in_nI (by omega) (by omega), nm_e (nm_r (nI_1 j) (ih (j + 1) _ (by omega) ?_))⟩
      rw [nI_clamp (by omega), hB j (by omega)]; exact xv_am hx (by omega)
  exact ⟨18, key 17 0 a_top rfl (xv_e hA (fun k _ => (if_neg (Nat.not_lt_zero k)).symm))⟩
theorem xf_copy__leftBottom_bottom {post : SX → Prop} {Q : PF} (hB : xv a_leftBottom Q) (h : ∀ a_bottom : Nat → Int32, xv a_bottom Q → post (f_tokenCount, f_latestPlace, f_stepCount, f_waitingCount, f_stackCount, f_factorCount, a_tokenKind, a_tokenContent, a_stepKind, a_stepToken, a_waitingKind, a_waitingToken, a_present, a_cells, a_leftTop, a_leftBottom, a_rightTop, a_rightBottom, a_top, a_bottom, a_product, a_quotient, a_common, a_spare, a_rest, a_divisor, a_inverse, a_numerator, a_factorDegrees, a_factorPowers, a_factorCells)) : wpX_copy__leftBottom_bottom post (f_tokenCount, f_latestPlace, f_stepCount, f_waitingCount, f_stackCount, f_factorCount, a_tokenKind, a_tokenContent, a_stepKind, a_stepToken, a_waitingKind, a_waitingToken, a_present, a_cells, a_leftTop, a_leftBottom, a_rightTop, a_rightBottom, a_top, a_bottom, a_product, a_quotient, a_common, a_spare, a_rest, a_divisor, a_inverse, a_numerator, a_factorDegrees, a_factorPowers, a_factorCells) := by
  have key : ∀ d j, ∀ a_bottom : Nat → Int32, j + d = 17 → (∀ k, k < j → a_bottom k = fi_I (Q k)) → wX_copy__leftBottom_bottom_2 post f_tokenCount f_latestPlace f_stepCount f_waitingCount f_stackCount f_factorCount (d + 1) (nI j) a_tokenKind a_tokenContent a_stepKind a_stepToken a_waitingKind a_waitingToken a_present a_cells a_leftTop a_leftBottom a_rightTop a_rightBottom a_top a_bottom a_product a_quotient a_common a_spare a_rest a_divisor a_inverse a_numerator a_factorDegrees a_factorPowers a_factorCells := by
    intro d
    induction d with
    | zero =>
      intro j a_bottom hj hx
      obtain rfl : j = 17 := by omega
      exact br_t (by decide) (h _ (hx))
    | succ d ih =>
      intro j a_bottom hj hx
      refine br_f (xl_17 (by omega)) ⟨vp_in_nI (by omega) (by omega), vp_in_nI (by omega) (by omega), nm_e (nm_r (nI_1 j) (ih (j + 1) _ (by omega) ?_))⟩
      rw [nI_clamp (by omega), hB j (by omega)]; exact xv_cp hx
  exact ⟨18, key 17 0 a_bottom rfl (fun k hk => by omega)⟩
theorem xf_copy__top_common {post : SX → Prop} {Q : PF} (hB : xv a_top Q) (h : ∀ a_common : Nat → Int32, xv a_common Q → post (f_tokenCount, f_latestPlace, f_stepCount, f_waitingCount, f_stackCount, f_factorCount, a_tokenKind, a_tokenContent, a_stepKind, a_stepToken, a_waitingKind, a_waitingToken, a_present, a_cells, a_leftTop, a_leftBottom, a_rightTop, a_rightBottom, a_top, a_bottom, a_product, a_quotient, a_common, a_spare, a_rest, a_divisor, a_inverse, a_numerator, a_factorDegrees, a_factorPowers, a_factorCells)) : wpX_copy__top_common post (f_tokenCount, f_latestPlace, f_stepCount, f_waitingCount, f_stackCount, f_factorCount, a_tokenKind, a_tokenContent, a_stepKind, a_stepToken, a_waitingKind, a_waitingToken, a_present, a_cells, a_leftTop, a_leftBottom, a_rightTop, a_rightBottom, a_top, a_bottom, a_product, a_quotient, a_common, a_spare, a_rest, a_divisor, a_inverse, a_numerator, a_factorDegrees, a_factorPowers, a_factorCells) := by
  have key : ∀ d j, ∀ a_common : Nat → Int32, j + d = 17 → (∀ k, k < j → a_common k = fi_I (Q k)) → wX_copy__top_common_2 post f_tokenCount f_latestPlace f_stepCount f_waitingCount f_stackCount f_factorCount (d + 1) (nI j) a_tokenKind a_tokenContent a_stepKind a_stepToken a_waitingKind a_waitingToken a_present a_cells a_leftTop a_leftBottom a_rightTop a_rightBottom a_top a_bottom a_product a_quotient a_common a_spare a_rest a_divisor a_inverse a_numerator a_factorDegrees a_factorPowers a_factorCells := by
    intro d
    induction d with
    | zero =>
      intro j a_common hj hx
      obtain rfl : j = 17 := by omega
      exact br_t (by decide) (h _ (hx))
    | succ d ih =>
      intro j a_common hj hx
      refine br_f (xl_17 (by omega)) ⟨vp_in_nI (by omega) (by omega), vp_in_nI (by omega) (by omega), nm_e (nm_r (nI_1 j) (ih (j + 1) _ (by omega) ?_))⟩
      rw [nI_clamp (by omega), hB j (by omega)]; exact xv_cp hx
  exact ⟨18, key 17 0 a_common rfl (fun k hk => by omega)⟩
theorem xf_copy__bottom_spare {post : SX → Prop} {Q : PF} (hB : xv a_bottom Q) (h : ∀ a_spare : Nat → Int32, xv a_spare Q → post (f_tokenCount, f_latestPlace, f_stepCount, f_waitingCount, f_stackCount, f_factorCount, a_tokenKind, a_tokenContent, a_stepKind, a_stepToken, a_waitingKind, a_waitingToken, a_present, a_cells, a_leftTop, a_leftBottom, a_rightTop, a_rightBottom, a_top, a_bottom, a_product, a_quotient, a_common, a_spare, a_rest, a_divisor, a_inverse, a_numerator, a_factorDegrees, a_factorPowers, a_factorCells)) : wpX_copy__bottom_spare post (f_tokenCount, f_latestPlace, f_stepCount, f_waitingCount, f_stackCount, f_factorCount, a_tokenKind, a_tokenContent, a_stepKind, a_stepToken, a_waitingKind, a_waitingToken, a_present, a_cells, a_leftTop, a_leftBottom, a_rightTop, a_rightBottom, a_top, a_bottom, a_product, a_quotient, a_common, a_spare, a_rest, a_divisor, a_inverse, a_numerator, a_factorDegrees, a_factorPowers, a_factorCells) := by
  have key : ∀ d j, ∀ a_spare : Nat → Int32, j + d = 17 → (∀ k, k < j → a_spare k = fi_I (Q k)) → wX_copy__bottom_spare_2 post f_tokenCount f_latestPlace f_stepCount f_waitingCount f_stackCount f_factorCount (d + 1) (nI j) a_tokenKind a_tokenContent a_stepKind a_stepToken a_waitingKind a_waitingToken a_present a_cells a_leftTop a_leftBottom a_rightTop a_rightBottom a_top a_bottom a_product a_quotient a_common a_spare a_rest a_divisor a_inverse a_numerator a_factorDegrees a_factorPowers a_factorCells := by
    intro d
    induction d with
    | zero =>
      intro j a_spare hj hx
      obtain rfl : j = 17 := by omega
      exact br_t (by decide) (h _ (hx))
    | succ d ih =>
      intro j a_spare hj hx
      refine br_f (xl_17 (by omega)) ⟨vp_in_nI (by omega) (by omega), vp_in_nI (by omega) (by omega), nm_e (nm_r (nI_1 j) (ih (j + 1) _ (by omega) ?_))⟩
      rw [nI_clamp (by omega), hB j (by omega)]; exact xv_cp hx
  exact ⟨18, key 17 0 a_spare rfl (fun k hk => by omega)⟩
theorem xf_degreeOf__spare {post : Int32 → Prop} {P : PF} (hA : xv a_spare P) (lA : pf_ln P 17) (z : P = pf_c 0 → post (-1)) (p : ∀ d, d < 17 → pf_hd P d → post (nI d)) : wpX_degreeOf__spare post (f_tokenCount, f_latestPlace, f_stepCount, f_waitingCount, f_stackCount, f_factorCount, a_tokenKind, a_tokenContent, a_stepKind, a_stepToken, a_waitingKind, a_waitingToken, a_present, a_cells, a_leftTop, a_leftBottom, a_rightTop, a_rightBottom, a_top, a_bottom, a_product, a_quotient, a_common, a_spare, a_rest, a_divisor, a_inverse, a_numerator, a_factorDegrees, a_factorPowers, a_factorCells) := by
  have key : ∀ j n, j < n → j ≤ 17 → (∀ k, j ≤ k → P k = 0) → wX_degreeOf__spare_3 post f_tokenCount f_latestPlace f_stepCount f_waitingCount f_stackCount f_factorCount a_tokenKind a_tokenContent a_stepKind a_stepToken a_waitingKind a_waitingToken a_present a_cells a_leftTop a_leftBottom a_rightTop a_rightBottom a_top a_bottom a_product a_quotient a_common a_spare a_rest a_divisor a_inverse a_numerator a_factorDegrees a_factorPowers a_factorCells n (nI j + (-1)) := by
    intro j
    induction j with
    | zero =>
      intro n hn _ hz
      obtain ⟨n, rfl⟩ : ∃ m, n = m + 1 := ⟨n - 1, by omega⟩
      have e0 : nI 0 + (-1) = -1 := by decide
      rw [e0]
      exact br_t (by decide) (z (by rw [pf_c0]; exact funext fun k => hz k (Nat.zero_le k)))
    | succ j ih =>
      intro n hn hj hz
      obtain ⟨n, rfl⟩ : ∃ m, n = m + 1 := ⟨n - 1, by omega⟩
      rw [pk_m1]
      refine br_f (nI_pos (by omega)) ⟨vp_in_nI (by omega) (by omega), ?_⟩
      rw [nI_clamp (by omega), hA j (by omega)]
      by_cases c : P j = 0
      · refine br_t ((fi_0 _).mpr c) (nm_e (ih n (by omega) (by omega) ?_))
        intro k hk
        by_cases ek : k = j
        · rw [ek]; exact c
        · exact hz k (by omega)
      · exact br_f (fun e => c ((fi_0 _).mp e)) (p j (by omega) ⟨fun k hk => hz k (by omega), c⟩)
  have e16 : nI 17 + (-1) = 16 := by decide
  have t := key 17 18 (by omega) (by omega) lA
  rw [e16] at t
  exact ⟨18, t⟩
theorem xf_exchange__common_spare {post : SX → Prop} {P Q : PF} (hA : xv a_common P) (hB : xv a_spare Q) (h : ∀ a_common a_spare : Nat → Int32, xv a_common Q → xv a_spare P → post (f_tokenCount, f_latestPlace, f_stepCount, f_waitingCount, f_stackCount, f_factorCount, a_tokenKind, a_tokenContent, a_stepKind, a_stepToken, a_waitingKind, a_waitingToken, a_present, a_cells, a_leftTop, a_leftBottom, a_rightTop, a_rightBottom, a_top, a_bottom, a_product, a_quotient, a_common, a_spare, a_rest, a_divisor, a_inverse, a_numerator, a_factorDegrees, a_factorPowers, a_factorCells)) : wpX_exchange__common_spare post (f_tokenCount, f_latestPlace, f_stepCount, f_waitingCount, f_stackCount, f_factorCount, a_tokenKind, a_tokenContent, a_stepKind, a_stepToken, a_waitingKind, a_waitingToken, a_present, a_cells, a_leftTop, a_leftBottom, a_rightTop, a_rightBottom, a_top, a_bottom, a_product, a_quotient, a_common, a_spare, a_rest, a_divisor, a_inverse, a_numerator, a_factorDegrees, a_factorPowers, a_factorCells) := by
  have key : ∀ d j, ∀ a_common a_spare : Nat → Int32, j + d = 17 → xv a_common (fun k => if k < j then Q k else P k) → xv a_spare (fun k => if k < j then P k else Q k) → wX_exchange__common_spare_2 post f_tokenCount f_latestPlace f_stepCount f_waitingCount f_stackCount f_factorCount (d + 1) (nI j) a_tokenKind a_tokenContent a_stepKind a_stepToken a_waitingKind a_waitingToken a_present a_cells a_leftTop a_leftBottom a_rightTop a_rightBottom a_top a_bottom a_product a_quotient a_common a_spare a_rest a_divisor a_inverse a_numerator a_factorDegrees a_factorPowers a_factorCells := by
    intro d
    induction d with
    | zero =>
      intro j a_common a_spare hj hx hy
      obtain rfl : j = 17 := by omega
      exact br_t (by decide) (h _ _ (xv_e hx (fun k hk => if_pos hk)) (xv_e hy (fun k hk => if_pos hk)))
    | succ d ih =>
      intro j a_common a_spare hj hx hy
      have e : vp_in (nI j) 17 := vp_in_nI (by omega) (by omega)
      refine br_f (xl_17 (by omega)) ⟨e, nm_e ⟨e, e, nm_e ⟨e, nm_e (nm_r (nI_1 j) (ih (j + 1) _ _ (by omega) ?_ ?_))⟩⟩⟩
      · rw [nI_clamp (by omega)]; exact xv_ex hx hy (by omega)
      · rw [nI_clamp (by omega)]; exact xv_ex hy hx (by omega)
  exact ⟨18, key 17 0 a_common a_spare rfl (xv_e hA (fun k _ => (if_neg (Nat.not_lt_zero k)).symm)) (xv_e hB (fun k _ => (if_neg (Nat.not_lt_zero k)).symm))⟩
theorem xf_degreeOf__common {post : Int32 → Prop} {P : PF} (hA : xv a_common P) (lA : pf_ln P 17) (z : P = pf_c 0 → post (-1)) (p : ∀ d, d < 17 → pf_hd P d → post (nI d)) : wpX_degreeOf__common post (f_tokenCount, f_latestPlace, f_stepCount, f_waitingCount, f_stackCount, f_factorCount, a_tokenKind, a_tokenContent, a_stepKind, a_stepToken, a_waitingKind, a_waitingToken, a_present, a_cells, a_leftTop, a_leftBottom, a_rightTop, a_rightBottom, a_top, a_bottom, a_product, a_quotient, a_common, a_spare, a_rest, a_divisor, a_inverse, a_numerator, a_factorDegrees, a_factorPowers, a_factorCells) := by
  have key : ∀ j n, j < n → j ≤ 17 → (∀ k, j ≤ k → P k = 0) → wX_degreeOf__common_3 post f_tokenCount f_latestPlace f_stepCount f_waitingCount f_stackCount f_factorCount a_tokenKind a_tokenContent a_stepKind a_stepToken a_waitingKind a_waitingToken a_present a_cells a_leftTop a_leftBottom a_rightTop a_rightBottom a_top a_bottom a_product a_quotient a_common a_spare a_rest a_divisor a_inverse a_numerator a_factorDegrees a_factorPowers a_factorCells n (nI j + (-1)) := by
    intro j
    induction j with
    | zero =>
      intro n hn _ hz
      obtain ⟨n, rfl⟩ : ∃ m, n = m + 1 := ⟨n - 1, by omega⟩
      have e0 : nI 0 + (-1) = -1 := by decide
      rw [e0]
      exact br_t (by decide) (z (by rw [pf_c0]; exact funext fun k => hz k (Nat.zero_le k)))
    | succ j ih =>
      intro n hn hj hz
      obtain ⟨n, rfl⟩ : ∃ m, n = m + 1 := ⟨n - 1, by omega⟩
      rw [pk_m1]
      refine br_f (nI_pos (by omega)) ⟨vp_in_nI (by omega) (by omega), ?_⟩
      rw [nI_clamp (by omega), hA j (by omega)]
      by_cases c : P j = 0
      · refine br_t ((fi_0 _).mpr c) (nm_e (ih n (by omega) (by omega) ?_))
        intro k hk
        by_cases ek : k = j
        · rw [ek]; exact c
        · exact hz k (by omega)
      · exact br_f (fun e => c ((fi_0 _).mp e)) (p j (by omega) ⟨fun k hk => hz k (by omega), c⟩)
  have e16 : nI 17 + (-1) = 16 := by decide
  have t := key 17 18 (by omega) (by omega) lA
  rw [e16] at t
  exact ⟨18, t⟩
theorem xf_copy__quotient_top {post : SX → Prop} {Q : PF} (hB : xv a_quotient Q) (h : ∀ a_top : Nat → Int32, xv a_top Q → post (f_tokenCount, f_latestPlace, f_stepCount, f_waitingCount, f_stackCount, f_factorCount, a_tokenKind, a_tokenContent, a_stepKind, a_stepToken, a_waitingKind, a_waitingToken, a_present, a_cells, a_leftTop, a_leftBottom, a_rightTop, a_rightBottom, a_top, a_bottom, a_product, a_quotient, a_common, a_spare, a_rest, a_divisor, a_inverse, a_numerator, a_factorDegrees, a_factorPowers, a_factorCells)) : wpX_copy__quotient_top post (f_tokenCount, f_latestPlace, f_stepCount, f_waitingCount, f_stackCount, f_factorCount, a_tokenKind, a_tokenContent, a_stepKind, a_stepToken, a_waitingKind, a_waitingToken, a_present, a_cells, a_leftTop, a_leftBottom, a_rightTop, a_rightBottom, a_top, a_bottom, a_product, a_quotient, a_common, a_spare, a_rest, a_divisor, a_inverse, a_numerator, a_factorDegrees, a_factorPowers, a_factorCells) := by
  have key : ∀ d j, ∀ a_top : Nat → Int32, j + d = 17 → (∀ k, k < j → a_top k = fi_I (Q k)) → wX_copy__quotient_top_2 post f_tokenCount f_latestPlace f_stepCount f_waitingCount f_stackCount f_factorCount (d + 1) (nI j) a_tokenKind a_tokenContent a_stepKind a_stepToken a_waitingKind a_waitingToken a_present a_cells a_leftTop a_leftBottom a_rightTop a_rightBottom a_top a_bottom a_product a_quotient a_common a_spare a_rest a_divisor a_inverse a_numerator a_factorDegrees a_factorPowers a_factorCells := by
    intro d
    induction d with
    | zero =>
      intro j a_top hj hx
      obtain rfl : j = 17 := by omega
      exact br_t (by decide) (h _ (hx))
    | succ d ih =>
      intro j a_top hj hx
      refine br_f (xl_17 (by omega)) ⟨vp_in_nI (by omega) (by omega), vp_in_nI (by omega) (by omega), nm_e (nm_r (nI_1 j) (ih (j + 1) _ (by omega) ?_))⟩
      rw [nI_clamp (by omega), hB j (by omega)]; exact xv_cp hx
  exact ⟨18, key 17 0 a_top rfl (fun k hk => by omega)⟩
theorem xf_copy__quotient_bottom {post : SX → Prop} {Q : PF} (hB : xv a_quotient Q) (h : ∀ a_bottom : Nat → Int32, xv a_bottom Q → post (f_tokenCount, f_latestPlace, f_stepCount, f_waitingCount, f_stackCount, f_factorCount, a_tokenKind, a_tokenContent, a_stepKind, a_stepToken, a_waitingKind, a_waitingToken, a_present, a_cells, a_leftTop, a_leftBottom, a_rightTop, a_rightBottom, a_top, a_bottom, a_product, a_quotient, a_common, a_spare, a_rest, a_divisor, a_inverse, a_numerator, a_factorDegrees, a_factorPowers, a_factorCells)) : wpX_copy__quotient_bottom post (f_tokenCount, f_latestPlace, f_stepCount, f_waitingCount, f_stackCount, f_factorCount, a_tokenKind, a_tokenContent, a_stepKind, a_stepToken, a_waitingKind, a_waitingToken, a_present, a_cells, a_leftTop, a_leftBottom, a_rightTop, a_rightBottom, a_top, a_bottom, a_product, a_quotient, a_common, a_spare, a_rest, a_divisor, a_inverse, a_numerator, a_factorDegrees, a_factorPowers, a_factorCells) := by
  have key : ∀ d j, ∀ a_bottom : Nat → Int32, j + d = 17 → (∀ k, k < j → a_bottom k = fi_I (Q k)) → wX_copy__quotient_bottom_2 post f_tokenCount f_latestPlace f_stepCount f_waitingCount f_stackCount f_factorCount (d + 1) (nI j) a_tokenKind a_tokenContent a_stepKind a_stepToken a_waitingKind a_waitingToken a_present a_cells a_leftTop a_leftBottom a_rightTop a_rightBottom a_top a_bottom a_product a_quotient a_common a_spare a_rest a_divisor a_inverse a_numerator a_factorDegrees a_factorPowers a_factorCells := by
    intro d
    induction d with
    | zero =>
      intro j a_bottom hj hx
      obtain rfl : j = 17 := by omega
      exact br_t (by decide) (h _ (hx))
    | succ d ih =>
      intro j a_bottom hj hx
      refine br_f (xl_17 (by omega)) ⟨vp_in_nI (by omega) (by omega), vp_in_nI (by omega) (by omega), nm_e (nm_r (nI_1 j) (ih (j + 1) _ (by omega) ?_))⟩
      rw [nI_clamp (by omega), hB j (by omega)]; exact xv_cp hx
  exact ⟨18, key 17 0 a_bottom rfl (fun k hk => by omega)⟩
theorem xf_degreeOf__bottom {post : Int32 → Prop} {P : PF} (hA : xv a_bottom P) (lA : pf_ln P 17) (z : P = pf_c 0 → post (-1)) (p : ∀ d, d < 17 → pf_hd P d → post (nI d)) : wpX_degreeOf__bottom post (f_tokenCount, f_latestPlace, f_stepCount, f_waitingCount, f_stackCount, f_factorCount, a_tokenKind, a_tokenContent, a_stepKind, a_stepToken, a_waitingKind, a_waitingToken, a_present, a_cells, a_leftTop, a_leftBottom, a_rightTop, a_rightBottom, a_top, a_bottom, a_product, a_quotient, a_common, a_spare, a_rest, a_divisor, a_inverse, a_numerator, a_factorDegrees, a_factorPowers, a_factorCells) := by
  have key : ∀ j n, j < n → j ≤ 17 → (∀ k, j ≤ k → P k = 0) → wX_degreeOf__bottom_3 post f_tokenCount f_latestPlace f_stepCount f_waitingCount f_stackCount f_factorCount a_tokenKind a_tokenContent a_stepKind a_stepToken a_waitingKind a_waitingToken a_present a_cells a_leftTop a_leftBottom a_rightTop a_rightBottom a_top a_bottom a_product a_quotient a_common a_spare a_rest a_divisor a_inverse a_numerator a_factorDegrees a_factorPowers a_factorCells n (nI j + (-1)) := by
    intro j
    induction j with
    | zero =>
      intro n hn _ hz
      obtain ⟨n, rfl⟩ : ∃ m, n = m + 1 := ⟨n - 1, by omega⟩
      have e0 : nI 0 + (-1) = -1 := by decide
      rw [e0]
      exact br_t (by decide) (z (by rw [pf_c0]; exact funext fun k => hz k (Nat.zero_le k)))
    | succ j ih =>
      intro n hn hj hz
      obtain ⟨n, rfl⟩ : ∃ m, n = m + 1 := ⟨n - 1, by omega⟩
      rw [pk_m1]
      refine br_f (nI_pos (by omega)) ⟨vp_in_nI (by omega) (by omega), ?_⟩
      rw [nI_clamp (by omega), hA j (by omega)]
      by_cases c : P j = 0
      · refine br_t ((fi_0 _).mpr c) (nm_e (ih n (by omega) (by omega) ?_))
        intro k hk
        by_cases ek : k = j
        · rw [ek]; exact c
        · exact hz k (by omega)
      · exact br_f (fun e => c ((fi_0 _).mp e)) (p j (by omega) ⟨fun k hk => hz k (by omega), c⟩)
  have e16 : nI 17 + (-1) = 16 := by decide
  have t := key 17 18 (by omega) (by omega) lA
  rw [e16] at t
  exact ⟨18, t⟩
theorem xf_multiplyByNumber__top {post : SX → Prop} {P : PF} {x : Int32} (y : Fin 5) (hA : xv a_top P) (h : ∀ a_top : Nat → Int32, xv a_top (fun k => P k * y) → post (f_tokenCount, f_latestPlace, f_stepCount, f_waitingCount, f_stackCount, f_factorCount, a_tokenKind, a_tokenContent, a_stepKind, a_stepToken, a_waitingKind, a_waitingToken, a_present, a_cells, a_leftTop, a_leftBottom, a_rightTop, a_rightBottom, a_top, a_bottom, a_product, a_quotient, a_common, a_spare, a_rest, a_divisor, a_inverse, a_numerator, a_factorDegrees, a_factorPowers, a_factorCells)) (ex : x = fi_I y := by rfl) : wpX_multiplyByNumber__top post (f_tokenCount, f_latestPlace, f_stepCount, f_waitingCount, f_stackCount, f_factorCount, a_tokenKind, a_tokenContent, a_stepKind, a_stepToken, a_waitingKind, a_waitingToken, a_present, a_cells, a_leftTop, a_leftBottom, a_rightTop, a_rightBottom, a_top, a_bottom, a_product, a_quotient, a_common, a_spare, a_rest, a_divisor, a_inverse, a_numerator, a_factorDegrees, a_factorPowers, a_factorCells) x := by
  subst ex
  have key : ∀ d j, ∀ a_top : Nat → Int32, j + d = 17 → xv a_top (fun k => if k < j then P k * y else P k) → wX_multiplyByNumber__top_2 post (fi_I y) f_tokenCount f_latestPlace f_stepCount f_waitingCount f_stackCount f_factorCount (d + 1) (nI j) a_tokenKind a_tokenContent a_stepKind a_stepToken a_waitingKind a_waitingToken a_present a_cells a_leftTop a_leftBottom a_rightTop a_rightBottom a_top a_bottom a_product a_quotient a_common a_spare a_rest a_divisor a_inverse a_numerator a_factorDegrees a_factorPowers a_factorCells := by
    intro d
    induction d with
    | zero =>
      intro j a_top hj hx
      obtain rfl : j = 17 := by omega
      exact br_t (by decide) (h _ (xv_e hx (fun k hk => if_pos hk)))
    | succ d ih =>
      intro j a_top hj hx
      refine br_f (xl_17 (by omega)) ⟨vp_in_nI (by omega) (by omega), by decide, vp_in_nI (by omega) (by omega), nm_e (nm_r (nI_1 j) (ih (j + 1) _ (by omega) ?_))⟩
      rw [nI_clamp (by omega)]; exact xv_mn hx (by omega)
  exact ⟨18, key 17 0 a_top rfl (xv_e hA (fun k _ => (if_neg (Nat.not_lt_zero k)).symm))⟩
theorem xf_multiplyByNumber__bottom {post : SX → Prop} {P : PF} {x : Int32} (y : Fin 5) (hA : xv a_bottom P) (h : ∀ a_bottom : Nat → Int32, xv a_bottom (fun k => P k * y) → post (f_tokenCount, f_latestPlace, f_stepCount, f_waitingCount, f_stackCount, f_factorCount, a_tokenKind, a_tokenContent, a_stepKind, a_stepToken, a_waitingKind, a_waitingToken, a_present, a_cells, a_leftTop, a_leftBottom, a_rightTop, a_rightBottom, a_top, a_bottom, a_product, a_quotient, a_common, a_spare, a_rest, a_divisor, a_inverse, a_numerator, a_factorDegrees, a_factorPowers, a_factorCells)) (ex : x = fi_I y := by rfl) : wpX_multiplyByNumber__bottom post (f_tokenCount, f_latestPlace, f_stepCount, f_waitingCount, f_stackCount, f_factorCount, a_tokenKind, a_tokenContent, a_stepKind, a_stepToken, a_waitingKind, a_waitingToken, a_present, a_cells, a_leftTop, a_leftBottom, a_rightTop, a_rightBottom, a_top, a_bottom, a_product, a_quotient, a_common, a_spare, a_rest, a_divisor, a_inverse, a_numerator, a_factorDegrees, a_factorPowers, a_factorCells) x := by
  subst ex
  have key : ∀ d j, ∀ a_bottom : Nat → Int32, j + d = 17 → xv a_bottom (fun k => if k < j then P k * y else P k) → wX_multiplyByNumber__bottom_2 post (fi_I y) f_tokenCount f_latestPlace f_stepCount f_waitingCount f_stackCount f_factorCount (d + 1) (nI j) a_tokenKind a_tokenContent a_stepKind a_stepToken a_waitingKind a_waitingToken a_present a_cells a_leftTop a_leftBottom a_rightTop a_rightBottom a_top a_bottom a_product a_quotient a_common a_spare a_rest a_divisor a_inverse a_numerator a_factorDegrees a_factorPowers a_factorCells := by
    intro d
    induction d with
    | zero =>
      intro j a_bottom hj hx
      obtain rfl : j = 17 := by omega
      exact br_t (by decide) (h _ (xv_e hx (fun k hk => if_pos hk)))
    | succ d ih =>
      intro j a_bottom hj hx
      refine br_f (xl_17 (by omega)) ⟨vp_in_nI (by omega) (by omega), by decide, vp_in_nI (by omega) (by omega), nm_e (nm_r (nI_1 j) (ih (j + 1) _ (by omega) ?_))⟩
      rw [nI_clamp (by omega)]; exact xv_mn hx (by omega)
  exact ⟨18, key 17 0 a_bottom rfl (xv_e hA (fun k _ => (if_neg (Nat.not_lt_zero k)).symm))⟩
theorem xf_degreeOf__top {post : Int32 → Prop} {P : PF} (hA : xv a_top P) (lA : pf_ln P 17) (z : P = pf_c 0 → post (-1)) (p : ∀ d, d < 17 → pf_hd P d → post (nI d)) : wpX_degreeOf__top post (f_tokenCount, f_latestPlace, f_stepCount, f_waitingCount, f_stackCount, f_factorCount, a_tokenKind, a_tokenContent, a_stepKind, a_stepToken, a_waitingKind, a_waitingToken, a_present, a_cells, a_leftTop, a_leftBottom, a_rightTop, a_rightBottom, a_top, a_bottom, a_product, a_quotient, a_common, a_spare, a_rest, a_divisor, a_inverse, a_numerator, a_factorDegrees, a_factorPowers, a_factorCells) := by
  have key : ∀ j n, j < n → j ≤ 17 → (∀ k, j ≤ k → P k = 0) → wX_degreeOf__top_3 post f_tokenCount f_latestPlace f_stepCount f_waitingCount f_stackCount f_factorCount a_tokenKind a_tokenContent a_stepKind a_stepToken a_waitingKind a_waitingToken a_present a_cells a_leftTop a_leftBottom a_rightTop a_rightBottom a_top a_bottom a_product a_quotient a_common a_spare a_rest a_divisor a_inverse a_numerator a_factorDegrees a_factorPowers a_factorCells n (nI j + (-1)) := by
    intro j
    induction j with
    | zero =>
      intro n hn _ hz
      obtain ⟨n, rfl⟩ : ∃ m, n = m + 1 := ⟨n - 1, by omega⟩
      have e0 : nI 0 + (-1) = -1 := by decide
      rw [e0]
      exact br_t (by decide) (z (by rw [pf_c0]; exact funext fun k => hz k (Nat.zero_le k)))
    | succ j ih =>
      intro n hn hj hz
      obtain ⟨n, rfl⟩ : ∃ m, n = m + 1 := ⟨n - 1, by omega⟩
      rw [pk_m1]
      refine br_f (nI_pos (by omega)) ⟨vp_in_nI (by omega) (by omega), ?_⟩
      rw [nI_clamp (by omega), hA j (by omega)]
      by_cases c : P j = 0
      · refine br_t ((fi_0 _).mpr c) (nm_e (ih n (by omega) (by omega) ?_))
        intro k hk
        by_cases ek : k = j
        · rw [ek]; exact c
        · exact hz k (by omega)
      · exact br_f (fun e => c ((fi_0 _).mp e)) (p j (by omega) ⟨fun k hk => hz k (by omega), c⟩)
  have e16 : nI 17 + (-1) = 16 := by decide
  have t := key 17 18 (by omega) (by omega) lA
  rw [e16] at t
  exact ⟨18, t⟩
theorem xf_degreeOf__rest {post : Int32 → Prop} {P : PF} (hA : xv a_rest P) (lA : pf_ln P 17) (z : P = pf_c 0 → post (-1)) (p : ∀ d, d < 17 → pf_hd P d → post (nI d)) : wpX_degreeOf__rest post (f_tokenCount, f_latestPlace, f_stepCount, f_waitingCount, f_stackCount, f_factorCount, a_tokenKind, a_tokenContent, a_stepKind, a_stepToken, a_waitingKind, a_waitingToken, a_present, a_cells, a_leftTop, a_leftBottom, a_rightTop, a_rightBottom, a_top, a_bottom, a_product, a_quotient, a_common, a_spare, a_rest, a_divisor, a_inverse, a_numerator, a_factorDegrees, a_factorPowers, a_factorCells) := by
  have key : ∀ j n, j < n → j ≤ 17 → (∀ k, j ≤ k → P k = 0) → wX_degreeOf__rest_3 post f_tokenCount f_latestPlace f_stepCount f_waitingCount f_stackCount f_factorCount a_tokenKind a_tokenContent a_stepKind a_stepToken a_waitingKind a_waitingToken a_present a_cells a_leftTop a_leftBottom a_rightTop a_rightBottom a_top a_bottom a_product a_quotient a_common a_spare a_rest a_divisor a_inverse a_numerator a_factorDegrees a_factorPowers a_factorCells n (nI j + (-1)) := by
    intro j
    induction j with
    | zero =>
      intro n hn _ hz
      obtain ⟨n, rfl⟩ : ∃ m, n = m + 1 := ⟨n - 1, by omega⟩
      have e0 : nI 0 + (-1) = -1 := by decide
      rw [e0]
      exact br_t (by decide) (z (by rw [pf_c0]; exact funext fun k => hz k (Nat.zero_le k)))
    | succ j ih =>
      intro n hn hj hz
      obtain ⟨n, rfl⟩ : ∃ m, n = m + 1 := ⟨n - 1, by omega⟩
      rw [pk_m1]
      refine br_f (nI_pos (by omega)) ⟨vp_in_nI (by omega) (by omega), ?_⟩
      rw [nI_clamp (by omega), hA j (by omega)]
      by_cases c : P j = 0
      · refine br_t ((fi_0 _).mpr c) (nm_e (ih n (by omega) (by omega) ?_))
        intro k hk
        by_cases ek : k = j
        · rw [ek]; exact c
        · exact hz k (by omega)
      · exact br_f (fun e => c ((fi_0 _).mp e)) (p j (by omega) ⟨fun k hk => hz k (by omega), c⟩)
  have e16 : nI 17 + (-1) = 16 := by decide
  have t := key 17 18 (by omega) (by omega) lA
  rw [e16] at t
  exact ⟨18, t⟩
theorem xf_valueAt__leftTop {post : Int32 → Prop} {x : Int32} {P : PF} (y : Fin 5) (hA : xv a_leftTop P) (h : post (fi_I (pf_hn P y 16 17))) (ex : x = fi_I y := by rfl) : wpX_valueAt__leftTop post (f_tokenCount, f_latestPlace, f_stepCount, f_waitingCount, f_stackCount, f_factorCount, a_tokenKind, a_tokenContent, a_stepKind, a_stepToken, a_waitingKind, a_waitingToken, a_present, a_cells, a_leftTop, a_leftBottom, a_rightTop, a_rightBottom, a_top, a_bottom, a_product, a_quotient, a_common, a_spare, a_rest, a_divisor, a_inverse, a_numerator, a_factorDegrees, a_factorPowers, a_factorCells) x := by
  subst ex
  have key : ∀ j m, j + m = 17 → wX_valueAt__leftTop_5 post (fi_I y) f_tokenCount f_latestPlace f_stepCount f_waitingCount f_stackCount f_factorCount a_tokenKind a_tokenContent a_stepKind a_stepToken a_waitingKind a_waitingToken a_present a_cells a_leftTop a_leftBottom a_rightTop a_rightBottom a_top a_bottom a_product a_quotient a_common a_spare a_rest a_divisor a_inverse a_numerator a_factorDegrees a_factorPowers a_factorCells (j + 1) (fi_I (pf_hn P y 16 m)) (nI j + (-1)) := by
    intro j
    induction j with
    | zero =>
      intro m hm
      obtain rfl : m = 17 := by omega
      have e0 : nI 0 + (-1) = -1 := by decide
      rw [e0]
      exact br_t (by decide) h
    | succ j ih =>
      intro m hm
      rw [pk_m1]
      refine br_f (nI_pos (by omega)) ⟨vp_in_nI (by omega) (by omega), by decide, nm_r (e' := fi_I (pf_hn P y 16 (m + 1))) ?_ (nm_e (ih (m + 1) (by omega)))⟩
      rw [nI_clamp (by omega), hA j (by omega), xm_ma']
      have e : 16 - m = j := by omega
      show _ = fi_I (pf_hn P y 16 m * y + P (16 - m))
      rw [e]
  have e16 : nI 17 + (-1) = 16 := by decide
  have t := key 17 0 rfl
  rw [e16] at t
  exact ⟨18, t⟩
theorem xf_copy__rest_spare {post : SX → Prop} {Q : PF} (hB : xv a_rest Q) (h : ∀ a_spare : Nat → Int32, xv a_spare Q → post (f_tokenCount, f_latestPlace, f_stepCount, f_waitingCount, f_stackCount, f_factorCount, a_tokenKind, a_tokenContent, a_stepKind, a_stepToken, a_waitingKind, a_waitingToken, a_present, a_cells, a_leftTop, a_leftBottom, a_rightTop, a_rightBottom, a_top, a_bottom, a_product, a_quotient, a_common, a_spare, a_rest, a_divisor, a_inverse, a_numerator, a_factorDegrees, a_factorPowers, a_factorCells)) : wpX_copy__rest_spare post (f_tokenCount, f_latestPlace, f_stepCount, f_waitingCount, f_stackCount, f_factorCount, a_tokenKind, a_tokenContent, a_stepKind, a_stepToken, a_waitingKind, a_waitingToken, a_present, a_cells, a_leftTop, a_leftBottom, a_rightTop, a_rightBottom, a_top, a_bottom, a_product, a_quotient, a_common, a_spare, a_rest, a_divisor, a_inverse, a_numerator, a_factorDegrees, a_factorPowers, a_factorCells) := by
  have key : ∀ d j, ∀ a_spare : Nat → Int32, j + d = 17 → (∀ k, k < j → a_spare k = fi_I (Q k)) → wX_copy__rest_spare_2 post f_tokenCount f_latestPlace f_stepCount f_waitingCount f_stackCount f_factorCount (d + 1) (nI j) a_tokenKind a_tokenContent a_stepKind a_stepToken a_waitingKind a_waitingToken a_present a_cells a_leftTop a_leftBottom a_rightTop a_rightBottom a_top a_bottom a_product a_quotient a_common a_spare a_rest a_divisor a_inverse a_numerator a_factorDegrees a_factorPowers a_factorCells := by
    intro d
    induction d with
    | zero =>
      intro j a_spare hj hx
      obtain rfl : j = 17 := by omega
      exact br_t (by decide) (h _ (hx))
    | succ d ih =>
      intro j a_spare hj hx
      refine br_f (xl_17 (by omega)) ⟨vp_in_nI (by omega) (by omega), vp_in_nI (by omega) (by omega), nm_e (nm_r (nI_1 j) (ih (j + 1) _ (by omega) ?_))⟩
      rw [nI_clamp (by omega), hB j (by omega)]; exact xv_cp hx
  exact ⟨18, key 17 0 a_spare rfl (fun k hk => by omega)⟩
theorem xf_copy__quotient_rest {post : SX → Prop} {Q : PF} (hB : xv a_quotient Q) (h : ∀ a_rest : Nat → Int32, xv a_rest Q → post (f_tokenCount, f_latestPlace, f_stepCount, f_waitingCount, f_stackCount, f_factorCount, a_tokenKind, a_tokenContent, a_stepKind, a_stepToken, a_waitingKind, a_waitingToken, a_present, a_cells, a_leftTop, a_leftBottom, a_rightTop, a_rightBottom, a_top, a_bottom, a_product, a_quotient, a_common, a_spare, a_rest, a_divisor, a_inverse, a_numerator, a_factorDegrees, a_factorPowers, a_factorCells)) : wpX_copy__quotient_rest post (f_tokenCount, f_latestPlace, f_stepCount, f_waitingCount, f_stackCount, f_factorCount, a_tokenKind, a_tokenContent, a_stepKind, a_stepToken, a_waitingKind, a_waitingToken, a_present, a_cells, a_leftTop, a_leftBottom, a_rightTop, a_rightBottom, a_top, a_bottom, a_product, a_quotient, a_common, a_spare, a_rest, a_divisor, a_inverse, a_numerator, a_factorDegrees, a_factorPowers, a_factorCells) := by
  have key : ∀ d j, ∀ a_rest : Nat → Int32, j + d = 17 → (∀ k, k < j → a_rest k = fi_I (Q k)) → wX_copy__quotient_rest_2 post f_tokenCount f_latestPlace f_stepCount f_waitingCount f_stackCount f_factorCount (d + 1) (nI j) a_tokenKind a_tokenContent a_stepKind a_stepToken a_waitingKind a_waitingToken a_present a_cells a_leftTop a_leftBottom a_rightTop a_rightBottom a_top a_bottom a_product a_quotient a_common a_spare a_rest a_divisor a_inverse a_numerator a_factorDegrees a_factorPowers a_factorCells := by
    intro d
    induction d with
    | zero =>
      intro j a_rest hj hx
      obtain rfl : j = 17 := by omega
      exact br_t (by decide) (h _ (hx))
    | succ d ih =>
      intro j a_rest hj hx
      refine br_f (xl_17 (by omega)) ⟨vp_in_nI (by omega) (by omega), vp_in_nI (by omega) (by omega), nm_e (nm_r (nI_1 j) (ih (j + 1) _ (by omega) ?_))⟩
      rw [nI_clamp (by omega), hB j (by omega)]; exact xv_cp hx
  exact ⟨18, key 17 0 a_rest rfl (fun k hk => by omega)⟩
theorem xf_multiplyByNumber__rest {post : SX → Prop} {P : PF} {x : Int32} (y : Fin 5) (hA : xv a_rest P) (h : ∀ a_rest : Nat → Int32, xv a_rest (fun k => P k * y) → post (f_tokenCount, f_latestPlace, f_stepCount, f_waitingCount, f_stackCount, f_factorCount, a_tokenKind, a_tokenContent, a_stepKind, a_stepToken, a_waitingKind, a_waitingToken, a_present, a_cells, a_leftTop, a_leftBottom, a_rightTop, a_rightBottom, a_top, a_bottom, a_product, a_quotient, a_common, a_spare, a_rest, a_divisor, a_inverse, a_numerator, a_factorDegrees, a_factorPowers, a_factorCells)) (ex : x = fi_I y := by rfl) : wpX_multiplyByNumber__rest post (f_tokenCount, f_latestPlace, f_stepCount, f_waitingCount, f_stackCount, f_factorCount, a_tokenKind, a_tokenContent, a_stepKind, a_stepToken, a_waitingKind, a_waitingToken, a_present, a_cells, a_leftTop, a_leftBottom, a_rightTop, a_rightBottom, a_top, a_bottom, a_product, a_quotient, a_common, a_spare, a_rest, a_divisor, a_inverse, a_numerator, a_factorDegrees, a_factorPowers, a_factorCells) x := by
  subst ex
  have key : ∀ d j, ∀ a_rest : Nat → Int32, j + d = 17 → xv a_rest (fun k => if k < j then P k * y else P k) → wX_multiplyByNumber__rest_2 post (fi_I y) f_tokenCount f_latestPlace f_stepCount f_waitingCount f_stackCount f_factorCount (d + 1) (nI j) a_tokenKind a_tokenContent a_stepKind a_stepToken a_waitingKind a_waitingToken a_present a_cells a_leftTop a_leftBottom a_rightTop a_rightBottom a_top a_bottom a_product a_quotient a_common a_spare a_rest a_divisor a_inverse a_numerator a_factorDegrees a_factorPowers a_factorCells := by
    intro d
    induction d with
    | zero =>
      intro j a_rest hj hx
      obtain rfl : j = 17 := by omega
      exact br_t (by decide) (h _ (xv_e hx (fun k hk => if_pos hk)))
    | succ d ih =>
      intro j a_rest hj hx
      refine br_f (xl_17 (by omega)) ⟨vp_in_nI (by omega) (by omega), by decide, vp_in_nI (by omega) (by omega), nm_e (nm_r (nI_1 j) (ih (j + 1) _ (by omega) ?_))⟩
      rw [nI_clamp (by omega)]; exact xv_mn hx (by omega)
  exact ⟨18, key 17 0 a_rest rfl (xv_e hA (fun k _ => (if_neg (Nat.not_lt_zero k)).symm))⟩
theorem xf_copy__leftBottom_spare {post : SX → Prop} {Q : PF} (hB : xv a_leftBottom Q) (h : ∀ a_spare : Nat → Int32, xv a_spare Q → post (f_tokenCount, f_latestPlace, f_stepCount, f_waitingCount, f_stackCount, f_factorCount, a_tokenKind, a_tokenContent, a_stepKind, a_stepToken, a_waitingKind, a_waitingToken, a_present, a_cells, a_leftTop, a_leftBottom, a_rightTop, a_rightBottom, a_top, a_bottom, a_product, a_quotient, a_common, a_spare, a_rest, a_divisor, a_inverse, a_numerator, a_factorDegrees, a_factorPowers, a_factorCells)) : wpX_copy__leftBottom_spare post (f_tokenCount, f_latestPlace, f_stepCount, f_waitingCount, f_stackCount, f_factorCount, a_tokenKind, a_tokenContent, a_stepKind, a_stepToken, a_waitingKind, a_waitingToken, a_present, a_cells, a_leftTop, a_leftBottom, a_rightTop, a_rightBottom, a_top, a_bottom, a_product, a_quotient, a_common, a_spare, a_rest, a_divisor, a_inverse, a_numerator, a_factorDegrees, a_factorPowers, a_factorCells) := by
  have key : ∀ d j, ∀ a_spare : Nat → Int32, j + d = 17 → (∀ k, k < j → a_spare k = fi_I (Q k)) → wX_copy__leftBottom_spare_2 post f_tokenCount f_latestPlace f_stepCount f_waitingCount f_stackCount f_factorCount (d + 1) (nI j) a_tokenKind a_tokenContent a_stepKind a_stepToken a_waitingKind a_waitingToken a_present a_cells a_leftTop a_leftBottom a_rightTop a_rightBottom a_top a_bottom a_product a_quotient a_common a_spare a_rest a_divisor a_inverse a_numerator a_factorDegrees a_factorPowers a_factorCells := by
    intro d
    induction d with
    | zero =>
      intro j a_spare hj hx
      obtain rfl : j = 17 := by omega
      exact br_t (by decide) (h _ (hx))
    | succ d ih =>
      intro j a_spare hj hx
      refine br_f (xl_17 (by omega)) ⟨vp_in_nI (by omega) (by omega), vp_in_nI (by omega) (by omega), nm_e (nm_r (nI_1 j) (ih (j + 1) _ (by omega) ?_))⟩
      rw [nI_clamp (by omega), hB j (by omega)]; exact xv_cp hx
  exact ⟨18, key 17 0 a_spare rfl (fun k hk => by omega)⟩
theorem xf_copy__spare_common {post : SX → Prop} {Q : PF} (hB : xv a_spare Q) (h : ∀ a_common : Nat → Int32, xv a_common Q → post (f_tokenCount, f_latestPlace, f_stepCount, f_waitingCount, f_stackCount, f_factorCount, a_tokenKind, a_tokenContent, a_stepKind, a_stepToken, a_waitingKind, a_waitingToken, a_present, a_cells, a_leftTop, a_leftBottom, a_rightTop, a_rightBottom, a_top, a_bottom, a_product, a_quotient, a_common, a_spare, a_rest, a_divisor, a_inverse, a_numerator, a_factorDegrees, a_factorPowers, a_factorCells)) : wpX_copy__spare_common post (f_tokenCount, f_latestPlace, f_stepCount, f_waitingCount, f_stackCount, f_factorCount, a_tokenKind, a_tokenContent, a_stepKind, a_stepToken, a_waitingKind, a_waitingToken, a_present, a_cells, a_leftTop, a_leftBottom, a_rightTop, a_rightBottom, a_top, a_bottom, a_product, a_quotient, a_common, a_spare, a_rest, a_divisor, a_inverse, a_numerator, a_factorDegrees, a_factorPowers, a_factorCells) := by
  have key : ∀ d j, ∀ a_common : Nat → Int32, j + d = 17 → (∀ k, k < j → a_common k = fi_I (Q k)) → wX_copy__spare_common_2 post f_tokenCount f_latestPlace f_stepCount f_waitingCount f_stackCount f_factorCount (d + 1) (nI j) a_tokenKind a_tokenContent a_stepKind a_stepToken a_waitingKind a_waitingToken a_present a_cells a_leftTop a_leftBottom a_rightTop a_rightBottom a_top a_bottom a_product a_quotient a_common a_spare a_rest a_divisor a_inverse a_numerator a_factorDegrees a_factorPowers a_factorCells := by
    intro d
    induction d with
    | zero =>
      intro j a_common hj hx
      obtain rfl : j = 17 := by omega
      exact br_t (by decide) (h _ (hx))
    | succ d ih =>
      intro j a_common hj hx
      refine br_f (xl_17 (by omega)) ⟨vp_in_nI (by omega) (by omega), vp_in_nI (by omega) (by omega), nm_e (nm_r (nI_1 j) (ih (j + 1) _ (by omega) ?_))⟩
      rw [nI_clamp (by omega), hB j (by omega)]; exact xv_cp hx
  exact ⟨18, key 17 0 a_common rfl (fun k hk => by omega)⟩
theorem xf_copy__product_inverse {post : SX → Prop} {Q : PF} (hB : xv a_product Q) (h : ∀ a_inverse : Nat → Int32, xv a_inverse Q → post (f_tokenCount, f_latestPlace, f_stepCount, f_waitingCount, f_stackCount, f_factorCount, a_tokenKind, a_tokenContent, a_stepKind, a_stepToken, a_waitingKind, a_waitingToken, a_present, a_cells, a_leftTop, a_leftBottom, a_rightTop, a_rightBottom, a_top, a_bottom, a_product, a_quotient, a_common, a_spare, a_rest, a_divisor, a_inverse, a_numerator, a_factorDegrees, a_factorPowers, a_factorCells)) : wpX_copy__product_inverse post (f_tokenCount, f_latestPlace, f_stepCount, f_waitingCount, f_stackCount, f_factorCount, a_tokenKind, a_tokenContent, a_stepKind, a_stepToken, a_waitingKind, a_waitingToken, a_present, a_cells, a_leftTop, a_leftBottom, a_rightTop, a_rightBottom, a_top, a_bottom, a_product, a_quotient, a_common, a_spare, a_rest, a_divisor, a_inverse, a_numerator, a_factorDegrees, a_factorPowers, a_factorCells) := by
  have key : ∀ d j, ∀ a_inverse : Nat → Int32, j + d = 17 → (∀ k, k < j → a_inverse k = fi_I (Q k)) → wX_copy__product_inverse_2 post f_tokenCount f_latestPlace f_stepCount f_waitingCount f_stackCount f_factorCount (d + 1) (nI j) a_tokenKind a_tokenContent a_stepKind a_stepToken a_waitingKind a_waitingToken a_present a_cells a_leftTop a_leftBottom a_rightTop a_rightBottom a_top a_bottom a_product a_quotient a_common a_spare a_rest a_divisor a_inverse a_numerator a_factorDegrees a_factorPowers a_factorCells := by
    intro d
    induction d with
    | zero =>
      intro j a_inverse hj hx
      obtain rfl : j = 17 := by omega
      exact br_t (by decide) (h _ (hx))
    | succ d ih =>
      intro j a_inverse hj hx
      refine br_f (xl_17 (by omega)) ⟨vp_in_nI (by omega) (by omega), vp_in_nI (by omega) (by omega), nm_e (nm_r (nI_1 j) (ih (j + 1) _ (by omega) ?_))⟩
      rw [nI_clamp (by omega), hB j (by omega)]; exact xv_cp hx
  exact ⟨18, key 17 0 a_inverse rfl (fun k hk => by omega)⟩
theorem xf_copy__leftTop_numerator {post : SX → Prop} {Q : PF} (hB : xv a_leftTop Q) (h : ∀ a_numerator : Nat → Int32, xv a_numerator Q → post (f_tokenCount, f_latestPlace, f_stepCount, f_waitingCount, f_stackCount, f_factorCount, a_tokenKind, a_tokenContent, a_stepKind, a_stepToken, a_waitingKind, a_waitingToken, a_present, a_cells, a_leftTop, a_leftBottom, a_rightTop, a_rightBottom, a_top, a_bottom, a_product, a_quotient, a_common, a_spare, a_rest, a_divisor, a_inverse, a_numerator, a_factorDegrees, a_factorPowers, a_factorCells)) : wpX_copy__leftTop_numerator post (f_tokenCount, f_latestPlace, f_stepCount, f_waitingCount, f_stackCount, f_factorCount, a_tokenKind, a_tokenContent, a_stepKind, a_stepToken, a_waitingKind, a_waitingToken, a_present, a_cells, a_leftTop, a_leftBottom, a_rightTop, a_rightBottom, a_top, a_bottom, a_product, a_quotient, a_common, a_spare, a_rest, a_divisor, a_inverse, a_numerator, a_factorDegrees, a_factorPowers, a_factorCells) := by
  have key : ∀ d j, ∀ a_numerator : Nat → Int32, j + d = 17 → (∀ k, k < j → a_numerator k = fi_I (Q k)) → wX_copy__leftTop_numerator_2 post f_tokenCount f_latestPlace f_stepCount f_waitingCount f_stackCount f_factorCount (d + 1) (nI j) a_tokenKind a_tokenContent a_stepKind a_stepToken a_waitingKind a_waitingToken a_present a_cells a_leftTop a_leftBottom a_rightTop a_rightBottom a_top a_bottom a_product a_quotient a_common a_spare a_rest a_divisor a_inverse a_numerator a_factorDegrees a_factorPowers a_factorCells := by
    intro d
    induction d with
    | zero =>
      intro j a_numerator hj hx
      obtain rfl : j = 17 := by omega
      exact br_t (by decide) (h _ (hx))
    | succ d ih =>
      intro j a_numerator hj hx
      refine br_f (xl_17 (by omega)) ⟨vp_in_nI (by omega) (by omega), vp_in_nI (by omega) (by omega), nm_e (nm_r (nI_1 j) (ih (j + 1) _ (by omega) ?_))⟩
      rw [nI_clamp (by omega), hB j (by omega)]; exact xv_cp hx
  exact ⟨18, key 17 0 a_numerator rfl (fun k hk => by omega)⟩
theorem xf_copy__product_numerator {post : SX → Prop} {Q : PF} (hB : xv a_product Q) (h : ∀ a_numerator : Nat → Int32, xv a_numerator Q → post (f_tokenCount, f_latestPlace, f_stepCount, f_waitingCount, f_stackCount, f_factorCount, a_tokenKind, a_tokenContent, a_stepKind, a_stepToken, a_waitingKind, a_waitingToken, a_present, a_cells, a_leftTop, a_leftBottom, a_rightTop, a_rightBottom, a_top, a_bottom, a_product, a_quotient, a_common, a_spare, a_rest, a_divisor, a_inverse, a_numerator, a_factorDegrees, a_factorPowers, a_factorCells)) : wpX_copy__product_numerator post (f_tokenCount, f_latestPlace, f_stepCount, f_waitingCount, f_stackCount, f_factorCount, a_tokenKind, a_tokenContent, a_stepKind, a_stepToken, a_waitingKind, a_waitingToken, a_present, a_cells, a_leftTop, a_leftBottom, a_rightTop, a_rightBottom, a_top, a_bottom, a_product, a_quotient, a_common, a_spare, a_rest, a_divisor, a_inverse, a_numerator, a_factorDegrees, a_factorPowers, a_factorCells) := by
  have key : ∀ d j, ∀ a_numerator : Nat → Int32, j + d = 17 → (∀ k, k < j → a_numerator k = fi_I (Q k)) → wX_copy__product_numerator_2 post f_tokenCount f_latestPlace f_stepCount f_waitingCount f_stackCount f_factorCount (d + 1) (nI j) a_tokenKind a_tokenContent a_stepKind a_stepToken a_waitingKind a_waitingToken a_present a_cells a_leftTop a_leftBottom a_rightTop a_rightBottom a_top a_bottom a_product a_quotient a_common a_spare a_rest a_divisor a_inverse a_numerator a_factorDegrees a_factorPowers a_factorCells := by
    intro d
    induction d with
    | zero =>
      intro j a_numerator hj hx
      obtain rfl : j = 17 := by omega
      exact br_t (by decide) (h _ (hx))
    | succ d ih =>
      intro j a_numerator hj hx
      refine br_f (xl_17 (by omega)) ⟨vp_in_nI (by omega) (by omega), vp_in_nI (by omega) (by omega), nm_e (nm_r (nI_1 j) (ih (j + 1) _ (by omega) ?_))⟩
      rw [nI_clamp (by omega), hB j (by omega)]; exact xv_cp hx
  exact ⟨18, key 17 0 a_numerator rfl (fun k hk => by omega)⟩
theorem xf_addMultiple__leftTop_product {post : SX → Prop} {P Q : PF} {x : Int32} (y : Fin 5) (hA : xv a_leftTop P) (hB : xv a_product Q) (h : ∀ a_leftTop : Nat → Int32, xv a_leftTop (fun k => P k + y * Q k) → post (f_tokenCount, f_latestPlace, f_stepCount, f_waitingCount, f_stackCount, f_factorCount, a_tokenKind, a_tokenContent, a_stepKind, a_stepToken, a_waitingKind, a_waitingToken, a_present, a_cells, a_leftTop, a_leftBottom, a_rightTop, a_rightBottom, a_top, a_bottom, a_product, a_quotient, a_common, a_spare, a_rest, a_divisor, a_inverse, a_numerator, a_factorDegrees, a_factorPowers, a_factorCells)) (ex : x = fi_I y := by rfl) : wpX_addMultiple__leftTop_product post (f_tokenCount, f_latestPlace, f_stepCount, f_waitingCount, f_stackCount, f_factorCount, a_tokenKind, a_tokenContent, a_stepKind, a_stepToken, a_waitingKind, a_waitingToken, a_present, a_cells, a_leftTop, a_leftBottom, a_rightTop, a_rightBottom, a_top, a_bottom, a_product, a_quotient, a_common, a_spare, a_rest, a_divisor, a_inverse, a_numerator, a_factorDegrees, a_factorPowers, a_factorCells) x := by
  subst ex
  have key : ∀ d j, ∀ a_leftTop : Nat → Int32, j + d = 17 → xv a_leftTop (fun k => if k < j then P k + y * Q k else P k) → wX_addMultiple__leftTop_product_2 post (fi_I y) f_tokenCount f_latestPlace f_stepCount f_waitingCount f_stackCount f_factorCount (d + 1) (nI j) a_tokenKind a_tokenContent a_stepKind a_stepToken a_waitingKind a_waitingToken a_present a_cells a_leftTop a_leftBottom a_rightTop a_rightBottom a_top a_bottom a_product a_quotient a_common a_spare a_rest a_divisor a_inverse a_numerator a_factorDegrees a_factorPowers a_factorCells := by
    intro d
    induction d with
    | zero =>
      intro j a_leftTop hj hx
      obtain rfl : j = 17 := by omega
      exact br_t (by decide) (h _ (xv_e hx (fun k hk => if_pos hk)))
    | succ d ih =>
      intro j a_leftTop hj hx
      refine br_f (xl_17 (by omega)) ⟨vp_in_nI (by omega) (by omega), vp_in_nI (by omega) (by omega), by decide, vp_in_nI (by omega) (by omega), nm_e (nm_r (nI_1 j) (ih (j + 1) _ (by omega) ?_))⟩
      rw [nI_clamp (by omega), hB j (by omega)]; exact xv_am hx (by omega)
  exact ⟨18, key 17 0 a_leftTop rfl (xv_e hA (fun k _ => (if_neg (Nat.not_lt_zero k)).symm))⟩
theorem xf_copy__quotient_leftTop {post : SX → Prop} {Q : PF} (hB : xv a_quotient Q) (h : ∀ a_leftTop : Nat → Int32, xv a_leftTop Q → post (f_tokenCount, f_latestPlace, f_stepCount, f_waitingCount, f_stackCount, f_factorCount, a_tokenKind, a_tokenContent, a_stepKind, a_stepToken, a_waitingKind, a_waitingToken, a_present, a_cells, a_leftTop, a_leftBottom, a_rightTop, a_rightBottom, a_top, a_bottom, a_product, a_quotient, a_common, a_spare, a_rest, a_divisor, a_inverse, a_numerator, a_factorDegrees, a_factorPowers, a_factorCells)) : wpX_copy__quotient_leftTop post (f_tokenCount, f_latestPlace, f_stepCount, f_waitingCount, f_stackCount, f_factorCount, a_tokenKind, a_tokenContent, a_stepKind, a_stepToken, a_waitingKind, a_waitingToken, a_present, a_cells, a_leftTop, a_leftBottom, a_rightTop, a_rightBottom, a_top, a_bottom, a_product, a_quotient, a_common, a_spare, a_rest, a_divisor, a_inverse, a_numerator, a_factorDegrees, a_factorPowers, a_factorCells) := by
  have key : ∀ d j, ∀ a_leftTop : Nat → Int32, j + d = 17 → (∀ k, k < j → a_leftTop k = fi_I (Q k)) → wX_copy__quotient_leftTop_2 post f_tokenCount f_latestPlace f_stepCount f_waitingCount f_stackCount f_factorCount (d + 1) (nI j) a_tokenKind a_tokenContent a_stepKind a_stepToken a_waitingKind a_waitingToken a_present a_cells a_leftTop a_leftBottom a_rightTop a_rightBottom a_top a_bottom a_product a_quotient a_common a_spare a_rest a_divisor a_inverse a_numerator a_factorDegrees a_factorPowers a_factorCells := by
    intro d
    induction d with
    | zero =>
      intro j a_leftTop hj hx
      obtain rfl : j = 17 := by omega
      exact br_t (by decide) (h _ (hx))
    | succ d ih =>
      intro j a_leftTop hj hx
      refine br_f (xl_17 (by omega)) ⟨vp_in_nI (by omega) (by omega), vp_in_nI (by omega) (by omega), nm_e (nm_r (nI_1 j) (ih (j + 1) _ (by omega) ?_))⟩
      rw [nI_clamp (by omega), hB j (by omega)]; exact xv_cp hx
  exact ⟨18, key 17 0 a_leftTop rfl (fun k hk => by omega)⟩
theorem xf_copy__quotient_leftBottom {post : SX → Prop} {Q : PF} (hB : xv a_quotient Q) (h : ∀ a_leftBottom : Nat → Int32, xv a_leftBottom Q → post (f_tokenCount, f_latestPlace, f_stepCount, f_waitingCount, f_stackCount, f_factorCount, a_tokenKind, a_tokenContent, a_stepKind, a_stepToken, a_waitingKind, a_waitingToken, a_present, a_cells, a_leftTop, a_leftBottom, a_rightTop, a_rightBottom, a_top, a_bottom, a_product, a_quotient, a_common, a_spare, a_rest, a_divisor, a_inverse, a_numerator, a_factorDegrees, a_factorPowers, a_factorCells)) : wpX_copy__quotient_leftBottom post (f_tokenCount, f_latestPlace, f_stepCount, f_waitingCount, f_stackCount, f_factorCount, a_tokenKind, a_tokenContent, a_stepKind, a_stepToken, a_waitingKind, a_waitingToken, a_present, a_cells, a_leftTop, a_leftBottom, a_rightTop, a_rightBottom, a_top, a_bottom, a_product, a_quotient, a_common, a_spare, a_rest, a_divisor, a_inverse, a_numerator, a_factorDegrees, a_factorPowers, a_factorCells) := by
  have key : ∀ d j, ∀ a_leftBottom : Nat → Int32, j + d = 17 → (∀ k, k < j → a_leftBottom k = fi_I (Q k)) → wX_copy__quotient_leftBottom_2 post f_tokenCount f_latestPlace f_stepCount f_waitingCount f_stackCount f_factorCount (d + 1) (nI j) a_tokenKind a_tokenContent a_stepKind a_stepToken a_waitingKind a_waitingToken a_present a_cells a_leftTop a_leftBottom a_rightTop a_rightBottom a_top a_bottom a_product a_quotient a_common a_spare a_rest a_divisor a_inverse a_numerator a_factorDegrees a_factorPowers a_factorCells := by
    intro d
    induction d with
    | zero =>
      intro j a_leftBottom hj hx
      obtain rfl : j = 17 := by omega
      exact br_t (by decide) (h _ (hx))
    | succ d ih =>
      intro j a_leftBottom hj hx
      refine br_f (xl_17 (by omega)) ⟨vp_in_nI (by omega) (by omega), vp_in_nI (by omega) (by omega), nm_e (nm_r (nI_1 j) (ih (j + 1) _ (by omega) ?_))⟩
      rw [nI_clamp (by omega), hB j (by omega)]; exact xv_cp hx
  exact ⟨18, key 17 0 a_leftBottom rfl (fun k hk => by omega)⟩
end
