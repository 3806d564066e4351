/-! The class's cancel finds the reduced form -/
theorem pf_sub_add {U Q V R : PF} (h : U = pf_add (pf_mul Q V) R) : R = pf_sub U (pf_mul Q V) := by
  letI := pf_ring
  have h1 : U = Q * V + R := h
  show R = U - Q * V
  grind
section
variable {f_tokenCount f_latestPlace f_stepCount f_waitingCount f_stackCount f_factorCount : Int32} {a_tokenKind a_tokenContent a_stepKind a_stepToken a_waitingKind a_waitingToken a_present a_cells a_leftTop a_leftBottom a_rightTop a_rightBottom a_top a_bottom a_product a_quotient a_common a_spare a_rest a_divisor a_inverse a_numerator a_factorDegrees a_factorPowers a_factorCells : Nat → Int32}
theorem xg_findCommon {post : SX → Prop} {P0 Q0 : PF} (hT : xv a_top P0) (hB : xv a_bottom Q0) (lP : pf_ln P0 17) (lQ : pf_ln Q0 17) (nQ : ∃ e, pf_hd Q0 e)
    (h : ∀ (C : PF) (c : Nat), c < 17 → pf_hd C c → (∀ f : PF, pf_fin f → pf_dv f P0 → pf_dv f Q0 → pf_dv f C) → pf_dv C P0 → pf_dv C Q0 → ∀ a_common a_spare a_quotient : Nat → Int32, xv a_common C → post (f_tokenCount, f_latestPlace, f_stepCount, f_waitingCount, f_stackCount, f_factorCount, a_tokenKind, a_tokenContent, a_stepKind, a_stepToken, a_waitingKind, a_waitingToken, a_present, a_cells, a_leftTop, a_leftBottom, a_rightTop, a_rightBottom, a_top, a_bottom, a_product, a_quotient, a_common, a_spare, a_rest, a_divisor, a_inverse, a_numerator, a_factorDegrees, a_factorPowers, a_factorCells)) : wpX_findCommon post (f_tokenCount, f_latestPlace, f_stepCount, f_waitingCount, f_stackCount, f_factorCount, a_tokenKind, a_tokenContent, a_stepKind, a_stepToken, a_waitingKind, a_waitingToken, a_present, a_cells, a_leftTop, a_leftBottom, a_rightTop, a_rightBottom, a_top, a_bottom, a_product, a_quotient, a_common, a_spare, a_rest, a_divisor, a_inverse, a_numerator, a_factorDegrees, a_factorPowers, a_factorCells) := by
  obtain ⟨e0, hQ0⟩ := nQ
  have fin : ∀ (U : PF) (a_common a_spare a_quotient : Nat → Int32), xv a_common U → pf_ln U 17 → (∀ f : PF, pf_fin f → pf_dv f P0 → pf_dv f Q0 → pf_dv f U) → (∀ f : PF, pf_fin f → pf_dv f U → pf_dv f P0 ∧ pf_dv f Q0) → post (f_tokenCount, f_latestPlace, f_stepCount, f_waitingCount, f_stackCount, f_factorCount, a_tokenKind, a_tokenContent, a_stepKind, a_stepToken, a_waitingKind, a_waitingToken, a_present, a_cells, a_leftTop, a_leftBottom, a_rightTop, a_rightBottom, a_top, a_bottom, a_product, a_quotient, a_common, a_spare, a_rest, a_divisor, a_inverse, a_numerator, a_factorDegrees, a_factorPowers, a_factorCells) := by
    intro U a_common a_spare a_quotient hU lU g1 g2
    obtain ⟨d1, d2⟩ := g2 U ⟨17, lU⟩ (pf_dv_r U)
    obtain ⟨c, _, hc, _, _, _⟩ := pf_dv_hd d2 hQ0 ⟨17, lU⟩
    exact h U c (pf_hd_lt hc lU) hc g1 d1 d2 _ _ _ hU
  have loop : ∀ d t, ∀ (U V : PF) (a_common a_spare a_quotient : Nat → Int32), t + d = 18 → xv a_common U → xv a_spare V → pf_ln U 17 → pf_ln V (17 - t) →
      (∀ f : PF, pf_fin f → pf_dv f P0 → pf_dv f Q0 → pf_dv f U ∧ pf_dv f V) → (∀ f : PF, pf_fin f → pf_dv f U → pf_dv f V → pf_dv f P0 ∧ pf_dv f Q0) → wX_findCommon_24 post (d + 1) (nI t) f_tokenCount f_latestPlace f_stepCount f_waitingCount f_stackCount f_factorCount a_tokenKind a_tokenContent a_stepKind a_stepToken a_waitingKind a_waitingToken a_present a_cells a_leftTop a_leftBottom a_rightTop a_rightBottom a_top a_bottom a_product a_quotient a_common a_spare a_rest a_divisor a_inverse a_numerator a_factorDegrees a_factorPowers a_factorCells := by
    intro d
    induction d with
    | zero =>
      intro t U V a_common a_spare a_quotient ht hU hV lU lV g1 g2
      have z : V = pf_c 0 := by
        rw [pf_c0]; exact pf_ln_0 (pf_ln_mono lV (by omega))
      refine br_f (nI_ge (b := 19) (by omega) (by decide)) (xf_degreeOf__spare hV (pf_ln_mono lV (by omega)) (fun _ => ?_) (fun e he hE => absurd z (pf_hd_n0 hE)))
      exact br_f (by decide) (fin U _ _ _ hU lU (fun f ff a b => (g1 f ff a b).1) (fun f ff a => g2 f ff a (by rw [z]; exact pf_dv_0 f)))
    | succ d ih =>
      intro t U V a_common a_spare a_quotient ht hU hV lU lV g1 g2
      refine br_f (nI_ge (b := 19) (by omega) (by decide)) (xf_degreeOf__spare hV (pf_ln_mono lV (by omega)) (fun z => ?_) (fun e he hE => ?_))
      · exact br_f (by decide) (fin U _ _ _ hU lU (fun f ff a b => (g1 f ff a b).1) (fun f ff a => g2 f ff a (by rw [z]; exact pf_dv_0 f)))
      · refine br_t (nI_pos' (by omega)) (xf_divide__common_spare_quotient e he hE hU hV lU (fun Q R lQ lR eU a_common a_quotient hR hQ => ?_))
        refine xf_exchange__common_spare hR hV (fun a_common a_spare h1 h2 => nm_r (nI_1 t) (ih (t + 1) V R _ _ _ (by omega) h1 h2 (pf_ln_mono lV (by omega)) ?_ (fun f ff a b => ?_) (fun f ff a b => ?_)))
        · have := pf_hd_lt hE lV
          exact pf_ln_mono lR (by omega)
        · obtain ⟨x1, x2⟩ := g1 f ff a b
          refine ⟨x2, ?_⟩
          rw [pf_sub_add eU]
          exact pf_dv_sub x1 (pf_dv_ml x2 ⟨_, lQ⟩)
        · refine g2 f ff ?_ a
          rw [eU]
          exact pf_dv_add (pf_dv_ml a ⟨_, lQ⟩) b
  unfold wpX_findCommon
  refine xf_copy__top_common hT (fun a_common h1 => xf_copy__bottom_spare hB (fun a_spare h2 => ⟨19, loop 18 0 P0 Q0 _ _ _ rfl h1 h2 lP lQ (fun f _ a b => ⟨a, b⟩) (fun f _ a b => ⟨a, b⟩)⟩))
theorem xg_cancel {post : SX → Prop} {P0 Q0 : PF} (hT : xv a_top P0) (hB : xv a_bottom Q0) (lP : pf_ln P0 17) (lQ : pf_ln Q0 17) (nQ : ∃ e, pf_hd Q0 e)
    (h : ∀ P1 Q1 : PF, pr_red P0 Q0 P1 Q1 → pf_ln P1 17 → pf_ln Q1 17 → ∀ a_top a_bottom a_quotient a_common a_spare : Nat → Int32, xv a_top P1 → xv a_bottom Q1 → post (f_tokenCount, f_latestPlace, f_stepCount, f_waitingCount, f_stackCount, f_factorCount, a_tokenKind, a_tokenContent, a_stepKind, a_stepToken, a_waitingKind, a_waitingToken, a_present, a_cells, a_leftTop, a_leftBottom, a_rightTop, a_rightBottom, a_top, a_bottom, a_product, a_quotient, a_common, a_spare, a_rest, a_divisor, a_inverse, a_numerator, a_factorDegrees, a_factorPowers, a_factorCells)) : wpX_cancel post (f_tokenCount, f_latestPlace, f_stepCount, f_waitingCount, f_stackCount, f_factorCount, a_tokenKind, a_tokenContent, a_stepKind, a_stepToken, a_waitingKind, a_waitingToken, a_present, a_cells, a_leftTop, a_leftBottom, a_rightTop, a_rightBottom, a_top, a_bottom, a_product, a_quotient, a_common, a_spare, a_rest, a_divisor, a_inverse, a_numerator, a_factorDegrees, a_factorPowers, a_factorCells) := by
  unfold wpX_cancel
  refine xg_findCommon hT hB lP lQ nQ (fun C c hc hC gc dP dQ a_common a_spare a_quotient hx => ?_)
  refine xf_degreeOf__common hx (pf_ln_mono hC.1 (by omega)) (fun z => absurd z (pf_hd_n0 hC)) (fun c' hc' hC' => ?_)
  obtain rfl := pf_hd_u hC' hC
  refine xf_divide__top_common_quotient c' hc hC hT hx lP (fun P' R lP' lR eP a_top a_quotient _ hq => ?_)
  rw [eP] at dP
  have zR := pf_dv_rem hC ⟨_, lP'⟩ lR dP
  rw [zR, pf_add_0] at eP
  refine xf_copy__quotient_top hq (fun a_top ht => ?_)
  refine xf_divide__bottom_common_quotient c' hc hC hB hx lQ (fun Q' R2 lQ' lR2 eQ a_bottom a_quotient _ hq2 => ?_)
  rw [eQ] at dQ
  have zR2 := pf_dv_rem hC ⟨_, lQ'⟩ lR2 dQ
  rw [zR2, pf_add_0] at eQ
  have nQ2 := nQ
  obtain ⟨e0, hQ0⟩ := nQ2
  refine xf_copy__quotient_bottom hq2 (fun a_bottom hb => ?_)
  refine xf_degreeOf__bottom hb lQ' (fun z => ?_) (fun b hb17 hbd => ?_)
  · exfalso
    apply pf_hd_n0 hQ0
    rw [eQ, z, pf_zero_mul]
  · refine br_f (nI_pos (by omega)) ⟨vp_in_nI hb17 (by omega), by decide, ?_⟩
    rw [nI_clamp (by omega), hb b hb17, xm_inv]
    refine xf_multiplyByNumber__top (Q' b * Q' b * Q' b) ht (fun a_top ht2 => xf_multiplyByNumber__bottom (Q' b * Q' b * Q' b) hb (fun a_bottom hb2 => ?_))
    rw [pf_sc] at ht2 hb2
    exact h _ _ (pr_red_gcd nQ ⟨_, lP'⟩ ⟨_, hC⟩ gc eP eQ hbd rfl) (pf_c_ml _ lP') (pf_c_ml _ lQ') _ _ _ _ _ ht2 hb2
end
