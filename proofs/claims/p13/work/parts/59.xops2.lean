/-! The class's compose and raise on polynomials -/
def pr_sz (P Q : PF) (m : Nat) : Prop := pf_ln P (m + 1) ∧ pf_ln Q (m + 1) ∧ (pf_hd P m ∨ pf_hd Q m)
theorem pr_sz_u {P Q : PF} {m n : Nat} (h1 : pr_sz P Q m) (h2 : pr_sz P Q n) : m = n := by
  have a : m ≤ n := by
    rcases h1.2.2 with h | h
    · have := pf_hd_lt h h2.1; omega
    · have := pf_hd_lt h h2.2.1; omega
  have b : n ≤ m := by
    rcases h2.2.2 with h | h
    · have := pf_hd_lt h h1.1; omega
    · have := pf_hd_lt h h1.2.1; omega
  omega
section
variable {f_tokenCount f_latestPlace f_stepCount f_waitingCount f_stackCount f_factorCount : Int32} {a_tokenKind a_tokenContent a_stepKind a_stepToken a_waitingKind a_waitingToken a_present a_cells a_leftTop a_leftBottom a_rightTop a_rightBottom a_top a_bottom a_product a_quotient a_common a_spare a_rest a_divisor a_inverse a_numerator a_factorDegrees a_factorPowers a_factorCells : Nat → Int32}
theorem xg_compose {post : Int32 → SX → Prop} {P1 Q1 P2 Q2 : PF} {m z : Nat} (h1 : xv a_leftTop P1) (h2 : xv a_leftBottom Q1) (h3 : xv a_rightTop P2) (h4 : xv a_rightBottom Q2) (nz1 : Q1 ≠ pf_c 0) (nz2 : Q2 ≠ pf_c 0) (hm : m < 17) (hz : z < 17) (s1 : pr_sz P1 Q1 m) (s2 : pr_sz P2 Q2 z)
    (f3 : z = 0 → pf_hn Q1 (P2 0) 16 17 = 0 → ∀ a_leftTop a_leftBottom a_rightTop a_rightBottom a_top a_bottom a_product a_quotient a_common a_spare a_rest a_divisor a_inverse a_numerator : Nat → Int32, post 3 (f_tokenCount, f_latestPlace, f_stepCount, f_waitingCount, f_stackCount, f_factorCount, a_tokenKind, a_tokenContent, a_stepKind, a_stepToken, a_waitingKind, a_waitingToken, a_present, a_cells, a_leftTop, a_leftBottom, a_rightTop, a_rightBottom, a_top, a_bottom, a_product, a_quotient, a_common, a_spare, a_rest, a_divisor, a_inverse, a_numerator, a_factorDegrees, a_factorPowers, a_factorCells))
    (f4 : ¬ (z = 0 ∧ pf_hn Q1 (P2 0) 16 17 = 0) → 8 < m * z → ∀ a_leftTop a_leftBottom a_rightTop a_rightBottom a_top a_bottom a_product a_quotient a_common a_spare a_rest a_divisor a_inverse a_numerator : Nat → Int32, post 4 (f_tokenCount, f_latestPlace, f_stepCount, f_waitingCount, f_stackCount, f_factorCount, a_tokenKind, a_tokenContent, a_stepKind, a_stepToken, a_waitingKind, a_waitingToken, a_present, a_cells, a_leftTop, a_leftBottom, a_rightTop, a_rightBottom, a_top, a_bottom, a_product, a_quotient, a_common, a_spare, a_rest, a_divisor, a_inverse, a_numerator, a_factorDegrees, a_factorPowers, a_factorCells))
    (h : ¬ (z = 0 ∧ pf_hn Q1 (P2 0) 16 17 = 0) → m * z ≤ 8 → ∀ a_leftTop a_leftBottom a_rightTop a_rightBottom a_top a_bottom a_product a_quotient a_common a_spare a_rest a_divisor a_inverse a_numerator : Nat → Int32, xv a_top (pr_put P1 P2 Q2 m) → xv a_bottom (pr_put Q1 P2 Q2 m) → post 0 (f_tokenCount, f_latestPlace, f_stepCount, f_waitingCount, f_stackCount, f_factorCount, a_tokenKind, a_tokenContent, a_stepKind, a_stepToken, a_waitingKind, a_waitingToken, a_present, a_cells, a_leftTop, a_leftBottom, a_rightTop, a_rightBottom, a_top, a_bottom, a_product, a_quotient, a_common, a_spare, a_rest, a_divisor, a_inverse, a_numerator, a_factorDegrees, a_factorPowers, a_factorCells)) : wpX_compose post (f_tokenCount, f_latestPlace, f_stepCount, f_waitingCount, f_stackCount, f_factorCount, a_tokenKind, a_tokenContent, a_stepKind, a_stepToken, a_waitingKind, a_waitingToken, a_present, a_cells, a_leftTop, a_leftBottom, a_rightTop, a_rightBottom, a_top, a_bottom, a_product, a_quotient, a_common, a_spare, a_rest, a_divisor, a_inverse, a_numerator, a_factorDegrees, a_factorPowers, a_factorCells) := by
  have l : ∀ {A : PF} {n : Nat}, n < 17 → pf_ln A (n + 1) → pf_ln A 17 := fun hn ha => pf_ln_mono ha (by omega)
  have c34 : ¬ (z = 0 ∧ pf_hn Q1 (P2 0) 16 17 = 0) → wX_compose_34 post (nI z) f_tokenCount f_latestPlace f_stepCount f_waitingCount f_stackCount f_factorCount a_tokenKind a_tokenContent a_stepKind a_stepToken a_waitingKind a_waitingToken a_present a_cells a_leftTop a_leftBottom a_rightTop a_rightBottom a_top a_bottom a_product a_quotient a_common a_spare a_rest a_divisor a_inverse a_numerator a_factorDegrees a_factorPowers a_factorCells := by
    intro no
    unfold wX_compose_34
    refine xf_sizeOf__leftTop_leftBottom h1 h2 (l hm s1.1) (l hm s1.2.1) nz1 (fun m' hm' a b c => ?_)
    obtain rfl := pr_sz_u ⟨a, b, c⟩ s1
    have em : nI m' * nI z = nI (m' * z) := pk_mul m' z
    have hb : m' * z ≤ 17 * 17 := Nat.mul_le_mul (by omega) (by omega)
    rw [em]
    by_cases c8 : m' * z ≤ 8
    · exact br_t (nI_le (b := 8) c8 (by decide)) (xg_subst1 m' hm h1 h3 h4 (fun a_top a_product a_spare t1 => xg_subst2 m' hm h2 h3 h4 (fun a_bottom a_product a_spare t2 => h no c8 _ _ _ _ _ _ _ _ _ _ _ _ _ _ t1 t2)))
    · exact br_f (nI_ge (a := 8) (by omega) (by omega)) (f4 no (by omega) _ _ _ _ _ _ _ _ _ _ _ _ _ _)
  unfold wpX_compose
  refine xf_sizeOf__rightTop_rightBottom h3 h4 (l hz s2.1) (l hz s2.2.1) nz2 (fun z' hz' a b c => ?_)
  obtain rfl := pr_sz_u ⟨a, b, c⟩ s2
  by_cases c0 : z' = 0
  · refine br_t (by rw [c0]; rfl) (xf_valueAt__leftBottom (P2 0) h2 ?_ (h3 0 (by omega)))
    by_cases cv : pf_hn Q1 (P2 0) 16 17 = 0
    · exact br_t ((fi_0 _).mpr cv) (f3 c0 cv _ _ _ _ _ _ _ _ _ _ _ _ _ _)
    · exact br_f (fun e => cv ((fi_0 _).mp e)) (c34 (fun t => cv t.2))
  · exact br_f (nI_ne0 (by omega) (by omega)) (c34 (fun t => c0 t.1))
theorem xg_raise65 {post : Int32 → SX → Prop} {x1 : Int32} {P Q : PF} (q : Nat) (hq : q ≤ 8) (h1 : xv a_leftTop P) (h2 : xv a_leftBottom Q)
    (hp : 0 ≤ x1 → ∀ a_leftTop a_leftBottom a_rightTop a_rightBottom a_top a_bottom a_product a_quotient a_common a_spare a_rest a_divisor a_inverse a_numerator : Nat → Int32, xv a_top (pf_pow P q) → xv a_bottom (pf_pow Q q) → post 0 (f_tokenCount, f_latestPlace, f_stepCount, f_waitingCount, f_stackCount, f_factorCount, a_tokenKind, a_tokenContent, a_stepKind, a_stepToken, a_waitingKind, a_waitingToken, a_present, a_cells, a_leftTop, a_leftBottom, a_rightTop, a_rightBottom, a_top, a_bottom, a_product, a_quotient, a_common, a_spare, a_rest, a_divisor, a_inverse, a_numerator, a_factorDegrees, a_factorPowers, a_factorCells)) (hn : ¬ 0 ≤ x1 → ∀ a_leftTop a_leftBottom a_rightTop a_rightBottom a_top a_bottom a_product a_quotient a_common a_spare a_rest a_divisor a_inverse a_numerator : Nat → Int32, xv a_top (pf_pow Q q) → xv a_bottom (pf_pow P q) → post 0 (f_tokenCount, f_latestPlace, f_stepCount, f_waitingCount, f_stackCount, f_factorCount, a_tokenKind, a_tokenContent, a_stepKind, a_stepToken, a_waitingKind, a_waitingToken, a_present, a_cells, a_leftTop, a_leftBottom, a_rightTop, a_rightBottom, a_top, a_bottom, a_product, a_quotient, a_common, a_spare, a_rest, a_divisor, a_inverse, a_numerator, a_factorDegrees, a_factorPowers, a_factorCells)) (t1 : xv a_top (pf_c 1)) (t2 : xv a_bottom (pf_c 1)) : ∃ n, wX_raise_65 post x1 (nI q) n 0 f_tokenCount f_latestPlace f_stepCount f_waitingCount f_stackCount f_factorCount a_tokenKind a_tokenContent a_stepKind a_stepToken a_waitingKind a_waitingToken a_present a_cells a_leftTop a_leftBottom a_rightTop a_rightBottom a_top a_bottom a_product a_quotient a_common a_spare a_rest a_divisor a_inverse a_numerator a_factorDegrees a_factorPowers a_factorCells := by
  have loop : ∀ d k, ∀ (a_top a_bottom a_product : Nat → Int32), k + d = q → xv a_top (pf_pow P k) → xv a_bottom (pf_pow Q k) → wX_raise_65 post x1 (nI q) (d + 1) (nI k) f_tokenCount f_latestPlace f_stepCount f_waitingCount f_stackCount f_factorCount a_tokenKind a_tokenContent a_stepKind a_stepToken a_waitingKind a_waitingToken a_present a_cells a_leftTop a_leftBottom a_rightTop a_rightBottom a_top a_bottom a_product a_quotient a_common a_spare a_rest a_divisor a_inverse a_numerator a_factorDegrees a_factorPowers a_factorCells := by
    intro d
    induction d with
    | zero =>
      intro k a_top a_bottom a_product hk u1 u2
      obtain rfl : k = q := by omega
      refine br_t (nI_le (Nat.le_refl _) (by omega)) (br_c (fun c => hp c _ _ _ _ _ _ _ _ _ _ _ _ _ _ u1 u2) (fun c => xf_exchange__top_bottom u1 u2 (fun a_top a_bottom v1 v2 => hn c _ _ _ _ _ _ _ _ _ _ _ _ _ _ v1 v2)))
    | succ d ih =>
      intro k a_top a_bottom a_product hk u1 u2
      exact br_f (nI_ge (by omega) (by omega)) (xf_multiply__top_leftTop_product u1 h1 (fun a_product v1 => xf_copy__product_top v1 (fun a_top v2 => xf_multiply__bottom_leftBottom_product u2 h2 (fun a_product v3 => xf_copy__product_bottom v3 (fun a_bottom v4 => nm_r (nI_1 k) (ih (k + 1) _ _ _ (by omega) v2 v4))))))
  exact ⟨q + 1, loop q 0 _ _ _ (by omega) t1 t2⟩
theorem xg_raise {post : Int32 → SX → Prop} {x : Int32} {P Q : PF} {m : Nat} (q : Nat) (hq : q ≤ 8) (hx : x = nI q ∨ (x = -nI q ∧ 1 ≤ q)) (h1 : xv a_leftTop P) (h2 : xv a_leftBottom Q) (nz : Q ≠ pf_c 0) (hm : m < 17) (s : pr_sz P Q m)
    (f3 : (x = -nI q ∧ 1 ≤ q) → P = pf_c 0 → ∀ a_leftTop a_leftBottom a_rightTop a_rightBottom a_top a_bottom a_product a_quotient a_common a_spare a_rest a_divisor a_inverse a_numerator : Nat → Int32, post 3 (f_tokenCount, f_latestPlace, f_stepCount, f_waitingCount, f_stackCount, f_factorCount, a_tokenKind, a_tokenContent, a_stepKind, a_stepToken, a_waitingKind, a_waitingToken, a_present, a_cells, a_leftTop, a_leftBottom, a_rightTop, a_rightBottom, a_top, a_bottom, a_product, a_quotient, a_common, a_spare, a_rest, a_divisor, a_inverse, a_numerator, a_factorDegrees, a_factorPowers, a_factorCells))
    (f4 : ¬ ((x = -nI q ∧ 1 ≤ q) ∧ P = pf_c 0) → 8 < m * q → ∀ a_leftTop a_leftBottom a_rightTop a_rightBottom a_top a_bottom a_product a_quotient a_common a_spare a_rest a_divisor a_inverse a_numerator : Nat → Int32, post 4 (f_tokenCount, f_latestPlace, f_stepCount, f_waitingCount, f_stackCount, f_factorCount, a_tokenKind, a_tokenContent, a_stepKind, a_stepToken, a_waitingKind, a_waitingToken, a_present, a_cells, a_leftTop, a_leftBottom, a_rightTop, a_rightBottom, a_top, a_bottom, a_product, a_quotient, a_common, a_spare, a_rest, a_divisor, a_inverse, a_numerator, a_factorDegrees, a_factorPowers, a_factorCells))
    (hp : x = nI q → m * q ≤ 8 → ∀ a_leftTop a_leftBottom a_rightTop a_rightBottom a_top a_bottom a_product a_quotient a_common a_spare a_rest a_divisor a_inverse a_numerator : Nat → Int32, xv a_top (pf_pow P q) → xv a_bottom (pf_pow Q q) → post 0 (f_tokenCount, f_latestPlace, f_stepCount, f_waitingCount, f_stackCount, f_factorCount, a_tokenKind, a_tokenContent, a_stepKind, a_stepToken, a_waitingKind, a_waitingToken, a_present, a_cells, a_leftTop, a_leftBottom, a_rightTop, a_rightBottom, a_top, a_bottom, a_product, a_quotient, a_common, a_spare, a_rest, a_divisor, a_inverse, a_numerator, a_factorDegrees, a_factorPowers, a_factorCells))
    (hn : (x = -nI q ∧ 1 ≤ q) → P ≠ pf_c 0 → m * q ≤ 8 → ∀ a_leftTop a_leftBottom a_rightTop a_rightBottom a_top a_bottom a_product a_quotient a_common a_spare a_rest a_divisor a_inverse a_numerator : Nat → Int32, xv a_top (pf_pow Q q) → xv a_bottom (pf_pow P q) → post 0 (f_tokenCount, f_latestPlace, f_stepCount, f_waitingCount, f_stackCount, f_factorCount, a_tokenKind, a_tokenContent, a_stepKind, a_stepToken, a_waitingKind, a_waitingToken, a_present, a_cells, a_leftTop, a_leftBottom, a_rightTop, a_rightBottom, a_top, a_bottom, a_product, a_quotient, a_common, a_spare, a_rest, a_divisor, a_inverse, a_numerator, a_factorDegrees, a_factorPowers, a_factorCells)) : wpX_raise post (f_tokenCount, f_latestPlace, f_stepCount, f_waitingCount, f_stackCount, f_factorCount, a_tokenKind, a_tokenContent, a_stepKind, a_stepToken, a_waitingKind, a_waitingToken, a_present, a_cells, a_leftTop, a_leftBottom, a_rightTop, a_rightBottom, a_top, a_bottom, a_product, a_quotient, a_common, a_spare, a_rest, a_divisor, a_inverse, a_numerator, a_factorDegrees, a_factorPowers, a_factorCells) x := by
  have lP : pf_ln P 17 := pf_ln_mono s.1 (by omega)
  have lQ : pf_ln Q 17 := pf_ln_mono s.2.1 (by omega)
  have pos : x = nI q → (0 : Int32) ≤ x := fun e => by rw [e]; exact nI_pos' (by omega)
  have neg : (x = -nI q ∧ 1 ≤ q) → ¬ (0 : Int32) ≤ x := fun e => by
    rw [e.1, Int32.le_iff_toInt_le, fi_00, Int32.toInt_neg, nI_toInt (by omega), Int.bmod_eq_of_le (by omega) (by omega)]; omega
  have r26 : ¬ ((x = -nI q ∧ 1 ≤ q) ∧ P = pf_c 0) → wX_raise_26 post x (nI q) f_tokenCount f_latestPlace f_stepCount f_waitingCount f_stackCount f_factorCount a_tokenKind a_tokenContent a_stepKind a_stepToken a_waitingKind a_waitingToken a_present a_cells a_leftTop a_leftBottom a_rightTop a_rightBottom a_top a_bottom a_product a_quotient a_common a_spare a_rest a_divisor a_inverse a_numerator a_factorDegrees a_factorPowers a_factorCells := by
    intro no
    unfold wX_raise_26
    refine xf_sizeOf__leftTop_leftBottom h1 h2 lP lQ nz (fun m' hm' a b c => ?_)
    obtain rfl := pr_sz_u ⟨a, b, c⟩ s
    have em : nI m' * nI q = nI (m' * q) := pk_mul m' q
    have hb : m' * q ≤ 17 * 17 := Nat.mul_le_mul (by omega) (by omega)
    rw [em]
    by_cases c8 : m' * q ≤ 8
    · refine br_t (nI_le (b := 8) c8 (by decide)) (xf_setNumber__top 1 (fun a_top t1 => xf_setNumber__bottom 1 (fun a_bottom t2 => xg_raise65 q hq h1 h2 (fun c a_leftTop a_leftBottom a_rightTop a_rightBottom a_top a_bottom a_product a_quotient a_common a_spare a_rest a_divisor a_inverse a_numerator u1 u2 => ?_) (fun c a_leftTop a_leftBottom a_rightTop a_rightBottom a_top a_bottom a_product a_quotient a_common a_spare a_rest a_divisor a_inverse a_numerator u1 u2 => ?_) t1 t2)))
      · rcases hx with e | e
        · exact hp e c8 _ _ _ _ _ _ _ _ _ _ _ _ _ _ u1 u2
        · exact absurd c (neg e)
      · rcases hx with e | e
        · exact absurd (pos e) c
        · exact hn e (fun z => no ⟨e, z⟩) c8 _ _ _ _ _ _ _ _ _ _ _ _ _ _ u1 u2
    · exact br_f (nI_ge (a := 8) (by omega) (by omega)) (f4 no (by omega) _ _ _ _ _ _ _ _ _ _ _ _ _ _)
  have r16 : ¬ ((x = -nI q ∧ 1 ≤ q) ∧ P = pf_c 0) → wX_raise_16 post x f_tokenCount f_latestPlace f_stepCount f_waitingCount f_stackCount f_factorCount a_tokenKind a_tokenContent a_stepKind a_stepToken a_waitingKind a_waitingToken a_present a_cells a_leftTop a_leftBottom a_rightTop a_rightBottom a_top a_bottom a_product a_quotient a_common a_spare a_rest a_divisor a_inverse a_numerator a_factorDegrees a_factorPowers a_factorCells := by
    intro no
    unfold wX_raise_16
    rcases hx with e | e
    · refine br_t (pos e) ?_
      have t := r26 no
      rw [← e] at t; exact t
    · refine br_f (neg e) ?_
      have nn : -x = nI q := by rw [e.1]; exact Int32.neg_neg
      rw [nn]; exact r26 no
  unfold wpX_raise
  rcases hx with e | e
  · refine br_t (pos e) (r16 (fun z => ?_))
    exact absurd (pos e) (neg z.1)
  · refine br_f (neg e) (xf_degreeOf__leftTop h1 lP (fun z => br_f (by decide) (f3 e z _ _ _ _ _ _ _ _ _ _ _ _ _ _)) (fun d hd hD => br_t (nI_pos' (by omega)) (r16 (fun z => absurd z.2 (pf_hd_n0 hD)))))
end
