/-! The class's leaves on polynomials (written by wip/p2/gen_x2.py) -/
theorem xv_dv2 {a : Nat → Int32} {R B : PF} {f : Fin 5} {j k : Nat} (h : xv a (fun t => R t - (if j ≤ t ∧ t < j + k then f * B (t - j) else 0))) (hj : j + k < 17) :
    xv (upd a (j + k) ((a (j + k) + (5 - fi_I f) * fi_I (B k)) - (a (j + k) + (5 - fi_I f) * fi_I (B k)) / 5 * 5)) (fun t => R t - (if j ≤ t ∧ t < j + (k + 1) then f * B (t - j) else 0)) := by
  intro t ht
  by_cases c : t = j + k
  · subst c
    have e : j + k - j = k := by omega
    rw [pk_us, h (j + k) hj]
    dsimp only
    rw [if_neg (by omega)]
    have e0 : R (j + k) - 0 = R (j + k) := by grind
    rw [e0, xm_ms, if_pos (by omega), e]
  · rw [pk_un c, h t ht]
    dsimp only
    congr 2
    by_cases c2 : j ≤ t ∧ t < j + k
    · rw [if_pos c2, if_pos (by omega)]
    · rw [if_neg c2, if_neg (by omega)]
theorem xv_dv1 {a : Nat → Int32} {R B : PF} {f : Fin 5} {j d : Nat} (h : xv a (fun t => R t - (if j ≤ t ∧ t < j + (d + 1) then f * B (t - j) else 0))) (hB : pf_ln B (d + 1)) : xv a (pf_sub R (pf_mul (pf_mn f j) B)) :=
  xv_e h (fun t _ => by
    show _ = R t + - pf_cm t (pf_mn f j) B
    rw [pf_mn_cm]
    by_cases c : j ≤ t
    · by_cases c2 : t < j + (d + 1)
      · rw [if_pos ⟨c, c2⟩, if_pos c]; grind
      · rw [if_neg (by omega), if_pos c, hB (t - j) (by omega)]; grind
    · rw [if_neg (by omega), if_neg c]; grind)
theorem xv_dv0 {a : Nat → Int32} {R B : PF} {f : Fin 5} {j : Nat} (h : xv a R) : xv a (fun t => R t - (if j ≤ t ∧ t < j + 0 then f * B (t - j) else 0)) :=
  xv_e h (fun t _ => by rw [if_neg (by omega)]; grind)
theorem xv_qt {a : Nat → Int32} {Q : PF} {f : Fin 5} {j : Nat} (h : xv a Q) (hQ : Q j = 0) : xv (upd a j (fi_I f)) (pf_add Q (pf_mn f j)) := by
  intro t ht
  show _ = fi_I (Q t + (if t = j then f else 0))
  by_cases c : t = j
  · subst c; rw [pk_us, if_pos rfl, hQ]; congr 1; grind
  · rw [pk_un c, h t ht, if_neg c]; congr 1; grind
theorem pf_dst {R B : PF} {j d : Nat} (hB : pf_hd B d) (hR : pf_ln R (j + 1 + d)) : pf_ln (pf_sub R (pf_mul (pf_mn (R (j + d) * (B d * B d * B d)) j) B)) (j + d) := by
  intro k hk
  show R k + - pf_cm k (pf_mn (R (j + d) * (B d * B d * B d)) j) B = 0
  rw [pf_mn_cm, if_pos (by omega)]
  by_cases c : k = j + d
  · have e1 : k - j = d := by omega
    have e2 := pf_inv (B d) hB.2
    rw [e1, c]; grind
  · rw [hR k (by omega), hB.1 (k - j) (by omega)]; grind
section
variable {f_tokenCount f_latestPlace f_stepCount f_waitingCount f_stackCount f_factorCount : Int32} {a_tokenKind a_tokenContent a_stepKind a_stepToken a_waitingKind a_waitingToken a_present a_cells a_leftTop a_leftBottom a_rightTop a_rightBottom a_top a_bottom a_product a_quotient a_common a_spare a_rest a_divisor a_inverse a_numerator a_factorDegrees a_factorPowers a_factorCells : Nat → Int32}
theorem xf_divide__common_spare_quotient {post : SX → Prop} {p : Int32} {L B : PF} (d : Nat) (hd : d < 17) (hB : pf_hd B d) (hx : xv a_common L) (hy : xv a_spare B) (lL : pf_ln L 17)
    (h : ∀ Q R : PF, pf_ln Q 17 → pf_ln R d → L = pf_add (pf_mul Q B) R → ∀ a_common a_quotient : Nat → Int32, xv a_common R → xv a_quotient Q → post (f_tokenCount, f_latestPlace, f_stepCount, f_waitingCount, f_stackCount, f_factorCount, a_tokenKind, a_tokenContent, a_stepKind, a_stepToken, a_waitingKind, a_waitingToken, a_present, a_cells, a_leftTop, a_leftBottom, a_rightTop, a_rightBottom, a_top, a_bottom, a_product, a_quotient, a_common, a_spare, a_rest, a_divisor, a_inverse, a_numerator, a_factorDegrees, a_factorPowers, a_factorCells)) (ep : p = nI d := by rfl) : wpX_divide__common_spare_quotient post (f_tokenCount, f_latestPlace, f_stepCount, f_waitingCount, f_stackCount, f_factorCount, a_tokenKind, a_tokenContent, a_stepKind, a_stepToken, a_waitingKind, a_waitingToken, a_present, a_cells, a_leftTop, a_leftBottom, a_rightTop, a_rightBottom, a_top, a_bottom, a_product, a_quotient, a_common, a_spare, a_rest, a_divisor, a_inverse, a_numerator, a_factorDegrees, a_factorPowers, a_factorCells) p := by
  subst ep
  have inner : ∀ (J : Int32 → (Nat → Int32) → (Nat → Int32) → (Nat → Int32) → (Nat → Int32) → (Nat → Int32) → (Nat → Int32) → (Nat → Int32) → (Nat → Int32) → (Nat → Int32) → (Nat → Int32) → (Nat → Int32) → (Nat → Int32) → (Nat → Int32) → (Nat → Int32) → (Nat → Int32) → (Nat → Int32) → (Nat → Int32) → (Nat → Int32) → (Nat → Int32) → (Nat → Int32) → (Nat → Int32) → (Nat → Int32) → (Nat → Int32) → (Nat → Int32) → (Nat → Int32) → Prop) (x4 : Int32) (e : Nat) (f : Fin 5) (R : PF), e + d < 17 → ∀ a_quotient : Nat → Int32, (∀ a_common : Nat → Int32, xv a_common (pf_sub R (pf_mul (pf_mn f e) B)) → J (nI e + (-1)) a_tokenKind a_tokenContent a_stepKind a_stepToken a_waitingKind a_waitingToken a_present a_cells a_leftTop a_leftBottom a_rightTop a_rightBottom a_top a_bottom a_product a_quotient a_common a_spare a_rest a_divisor a_inverse a_numerator a_factorDegrees a_factorPowers a_factorCells) → ∀ m k, ∀ a_common : Nat → Int32, k + m = d + 1 → xv a_common (fun t => R t - (if e ≤ t ∧ t < e + k then f * B (t - e) else 0)) → wX_divide__common_spare_quotient_57 post J (nI d) x4 (nI e) (fi_I f) f_tokenCount f_latestPlace f_stepCount f_waitingCount f_stackCount f_factorCount (m + 1) (nI k) a_tokenKind a_tokenContent a_stepKind a_stepToken a_waitingKind a_waitingToken a_present a_cells a_leftTop a_leftBottom a_rightTop a_rightBottom a_top a_bottom a_product a_quotient a_common a_spare a_rest a_divisor a_inverse a_numerator a_factorDegrees a_factorPowers a_factorCells := by
    intro J x4 e f R hed a_quotient hJ m
    induction m with
    | zero =>
      intro k a_common hk hr
      obtain rfl : k = d + 1 := by omega
      exact br_t (nI_lt (by omega) (by omega)) (nm_e (hJ _ (xv_dv1 hr hB.1)))
    | succ m ih =>
      intro k a_common hk hr
      have i1 := pk_in (x := nI e + nI k) (e + k) 17 (by omega) (nI_add e k)
      refine br_f (nI_nlt (by omega) (by omega)) ⟨i1, vp_in_nI (by omega) (by omega), by decide, i1, nm_e (nm_r (nI_1 k) (ih (k + 1) _ (by omega) ?_))⟩
      rw [nI_add, nI_clamp (by omega), nI_clamp (by omega), hy k (by omega)]
      exact xv_dv2 hr (by omega)
  have key : ∀ j n, ∀ (Q R : PF) (a_common a_quotient : Nat → Int32), j + d ≤ 17 → j < n → xv a_common R → xv a_quotient Q → pf_ln Q 17 → pf_ln R (j + d) → (∀ k, k < j → Q k = 0) → L = pf_add (pf_mul Q B) R → wX_divide__common_spare_quotient_30 post (nI d) (fi_I (B d * B d * B d)) f_tokenCount f_latestPlace f_stepCount f_waitingCount f_stackCount f_factorCount n (nI j + (-1)) a_tokenKind a_tokenContent a_stepKind a_stepToken a_waitingKind a_waitingToken a_present a_cells a_leftTop a_leftBottom a_rightTop a_rightBottom a_top a_bottom a_product a_quotient a_common a_spare a_rest a_divisor a_inverse a_numerator a_factorDegrees a_factorPowers a_factorCells := by
    intro j
    induction j with
    | zero =>
      intro n Q R a_common a_quotient _ hn hr hq lQ lR _ eL
      obtain ⟨n, rfl⟩ : ∃ m, n = m + 1 := ⟨n - 1, by omega⟩
      have e0 : nI 0 + (-1) = -1 := by decide
      rw [e0]
      exact br_t (by decide) (h Q R lQ (pf_ln_mono lR (by omega)) eL _ _ hr hq)
    | succ j ih =>
      intro n Q R a_common a_quotient hj hn hr hq lQ lR zQ eL
      obtain ⟨n, rfl⟩ : ∃ m, n = m + 1 := ⟨n - 1, by omega⟩
      rw [pk_m1]
      refine br_f (nI_pos (by omega)) ⟨pk_in (j + d) 17 (by omega) (nI_add j d), by decide, nm_r (e' := fi_I (R (j + d) * (B d * B d * B d))) ?_ ⟨vp_in_nI (by omega) (by omega), nm_e ⟨d + 2, ?_⟩⟩⟩
      · rw [nI_add, nI_clamp (by omega), hr (j + d) (by omega), xm_mm]
      · rw [nI_clamp (by omega)]
        refine inner _ _ j (R (j + d) * (B d * B d * B d)) R (by omega) _ (fun a_common hr2 => ih n _ _ _ _ (by omega) (by omega) hr2 (xv_qt hq (zQ j (by omega))) (pf_add_ln lQ (pf_ln_mono (pf_mn_ln _ _) (by omega))) (pf_dst hB lR) (fun k hk => ?_) ?_) (d + 1) 0 _ (by omega) (xv_dv0 hr)
        · show Q k + (if k = j then _ else 0) = 0
          rw [zQ k (by omega), if_neg (by omega)]; decide
        · rw [eL]
          generalize pf_mn (R (j + d) * (B d * B d * B d)) j = t
          letI := pf_ring
          show Q * B + R = (Q + t) * B + (R - t * B)
          grind
  unfold wpX_divide__common_spare_quotient
  refine xf_setNumber__quotient 0 (fun a_quotient hz => ?_)
  have e16 : (16 : Int32) - nI d = nI (17 - d) + (-1) := by
    have e1 : 17 - d = (16 - d) + 1 := by omega
    rw [e1, pk_m1]; exact pk_sub (a := 16) (by omega)
  refine br_f (nI_pos (by omega)) (br_t (nI_lt (b := 17) hd (by decide)) ⟨vp_in_nI hd (by omega), by decide, ?_⟩)
  rw [nI_clamp (by omega), hy d hd, xm_inv]
  refine nm_r e16 ⟨18 - d, key (17 - d) (18 - d) (pf_c 0) L _ _ (by omega) (by omega) hx hz (pf_ln_mono (pf_c_ln 0) (by omega)) (pf_ln_mono lL (by omega)) (fun k _ => by rw [pf_c0]) ?_⟩
  letI := pf_ring
  show L = 0 * B + L
  grind
theorem xf_divide__top_common_quotient {post : SX → Prop} {p : Int32} {L B : PF} (d : Nat) (hd : d < 17) (hB : pf_hd B d) (hx : xv a_top L) (hy : xv a_common B) (lL : pf_ln L 17)
    (h : ∀ Q R : PF, pf_ln Q 17 → pf_ln R d → L = pf_add (pf_mul Q B) R → ∀ a_top a_quotient : Nat → Int32, xv a_top R → xv a_quotient Q → post (f_tokenCount, f_latestPlace, f_stepCount, f_waitingCount, f_stackCount, f_factorCount, a_tokenKind, a_tokenContent, a_stepKind, a_stepToken, a_waitingKind, a_waitingToken, a_present, a_cells, a_leftTop, a_leftBottom, a_rightTop, a_rightBottom, a_top, a_bottom, a_product, a_quotient, a_common, a_spare, a_rest, a_divisor, a_inverse, a_numerator, a_factorDegrees, a_factorPowers, a_factorCells)) (ep : p = nI d := by rfl) : wpX_divide__top_common_quotient post (f_tokenCount, f_latestPlace, f_stepCount, f_waitingCount, f_stackCount, f_factorCount, a_tokenKind, a_tokenContent, a_stepKind, a_stepToken, a_waitingKind, a_waitingToken, a_present, a_cells, a_leftTop, a_leftBottom, a_rightTop, a_rightBottom, a_top, a_bottom, a_product, a_quotient, a_common, a_spare, a_rest, a_divisor, a_inverse, a_numerator, a_factorDegrees, a_factorPowers, a_factorCells) p := by
  subst ep
  have inner : ∀ (J : Int32 → (Nat → Int32) → (Nat → Int32) → (Nat → Int32) → (Nat → Int32) → (Nat → Int32) → (Nat → Int32) → (Nat → Int32) → (Nat → Int32) → (Nat → Int32) → (Nat → Int32) → (Nat → Int32) → (Nat → Int32) → (Nat → Int32) → (Nat → Int32) → (Nat → Int32) → (Nat → Int32) → (Nat → Int32) → (Nat → Int32) → (Nat → Int32) → (Nat → Int32) → (Nat → Int32) → (Nat → Int32) → (Nat → Int32) → (Nat → Int32) → (Nat → Int32) → Prop) (x4 : Int32) (e : Nat) (f : Fin 5) (R : PF), e + d < 17 → ∀ a_quotient : Nat → Int32, (∀ a_top : Nat → Int32, xv a_top (pf_sub R (pf_mul (pf_mn f e) B)) → J (nI e + (-1)) a_tokenKind a_tokenContent a_stepKind a_stepToken a_waitingKind a_waitingToken a_present a_cells a_leftTop a_leftBottom a_rightTop a_rightBottom a_top a_bottom a_product a_quotient a_common a_spare a_rest a_divisor a_inverse a_numerator a_factorDegrees a_factorPowers a_factorCells) → ∀ m k, ∀ a_top : Nat → Int32, k + m = d + 1 → xv a_top (fun t => R t - (if e ≤ t ∧ t < e + k then f * B (t - e) else 0)) → wX_divide__top_common_quotient_57 post J (nI d) x4 (nI e) (fi_I f) f_tokenCount f_latestPlace f_stepCount f_waitingCount f_stackCount f_factorCount (m + 1) (nI k) a_tokenKind a_tokenContent a_stepKind a_stepToken a_waitingKind a_waitingToken a_present a_cells a_leftTop a_leftBottom a_rightTop a_rightBottom a_top a_bottom a_product a_quotient a_common a_spare a_rest a_divisor a_inverse a_numerator a_factorDegrees a_factorPowers a_factorCells := by
    intro J x4 e f R hed a_quotient hJ m
    induction m with
    | zero =>
      intro k a_top hk hr
      obtain rfl : k = d + 1 := by omega
      exact br_t (nI_lt (by omega) (by omega)) (nm_e (hJ _ (xv_dv1 hr hB.1)))
    | succ m ih =>
      intro k a_top hk hr
      have i1 := pk_in (x := nI e + nI k) (e + k) 17 (by omega) (nI_add e k)
      refine br_f (nI_nlt (by omega) (by omega)) ⟨i1, vp_in_nI (by omega) (by omega), by decide, i1, nm_e (nm_r (nI_1 k) (ih (k + 1) _ (by omega) ?_))⟩
      rw [nI_add, nI_clamp (by omega), nI_clamp (by omega), hy k (by omega)]
      exact xv_dv2 hr (by omega)
  have key : ∀ j n, ∀ (Q R : PF) (a_top a_quotient : Nat → Int32), j + d ≤ 17 → j < n → xv a_top R → xv a_quotient Q → pf_ln Q 17 → pf_ln R (j + d) → (∀ k, k < j → Q k = 0) → L = pf_add (pf_mul Q B) R → wX_divide__top_common_quotient_30 post (nI d) (fi_I (B d * B d * B d)) f_tokenCount f_latestPlace f_stepCount f_waitingCount f_stackCount f_factorCount n (nI j + (-1)) a_tokenKind a_tokenContent a_stepKind a_stepToken a_waitingKind a_waitingToken a_present a_cells a_leftTop a_leftBottom a_rightTop a_rightBottom a_top a_bottom a_product a_quotient a_common a_spare a_rest a_divisor a_inverse a_numerator a_factorDegrees a_factorPowers a_factorCells := by
    intro j
    induction j with
    | zero =>
      intro n Q R a_top a_quotient _ hn hr hq lQ lR _ eL
      obtain ⟨n, rfl⟩ : ∃ m, n = m + 1 := ⟨n - 1, by omega⟩
      have e0 : nI 0 + (-1) = -1 := by decide
      rw [e0]
      exact br_t (by decide) (h Q R lQ (pf_ln_mono lR (by omega)) eL _ _ hr hq)
    | succ j ih =>
      intro n Q R a_top a_quotient hj hn hr hq lQ lR zQ eL
      obtain ⟨n, rfl⟩ : ∃ m, n = m + 1 := ⟨n - 1, by omega⟩
      rw [pk_m1]
      refine br_f (nI_pos (by omega)) ⟨pk_in (j + d) 17 (by omega) (nI_add j d), by decide, nm_r (e' := fi_I (R (j + d) * (B d * B d * B d))) ?_ ⟨vp_in_nI (by omega) (by omega), nm_e ⟨d + 2, ?_⟩⟩⟩
      · rw [nI_add, nI_clamp (by omega), hr (j + d) (by omega), xm_mm]
      · rw [nI_clamp (by omega)]
        refine inner _ _ j (R (j + d) * (B d * B d * B d)) R (by omega) _ (fun a_top hr2 => ih n _ _ _ _ (by omega) (by omega) hr2 (xv_qt hq (zQ j (by omega))) (pf_add_ln lQ (pf_ln_mono (pf_mn_ln _ _) (by omega))) (pf_dst hB lR) (fun k hk => ?_) ?_) (d + 1) 0 _ (by omega) (xv_dv0 hr)
        · show Q k + (if k = j then _ else 0) = 0
          rw [zQ k (by omega), if_neg (by omega)]; decide
        · rw [eL]
          generalize pf_mn (R (j + d) * (B d * B d * B d)) j = t
          letI := pf_ring
          show Q * B + R = (Q + t) * B + (R - t * B)
          grind
  unfold wpX_divide__top_common_quotient
  refine xf_setNumber__quotient 0 (fun a_quotient hz => ?_)
  have e16 : (16 : Int32) - nI d = nI (17 - d) + (-1) := by
    have e1 : 17 - d = (16 - d) + 1 := by omega
    rw [e1, pk_m1]; exact pk_sub (a := 16) (by omega)
  refine br_f (nI_pos (by omega)) (br_t (nI_lt (b := 17) hd (by decide)) ⟨vp_in_nI hd (by omega), by decide, ?_⟩)
  rw [nI_clamp (by omega), hy d hd, xm_inv]
  refine nm_r e16 ⟨18 - d, key (17 - d) (18 - d) (pf_c 0) L _ _ (by omega) (by omega) hx hz (pf_ln_mono (pf_c_ln 0) (by omega)) (pf_ln_mono lL (by omega)) (fun k _ => by rw [pf_c0]) ?_⟩
  letI := pf_ring
  show L = 0 * B + L
  grind
theorem xf_divide__bottom_common_quotient {post : SX → Prop} {p : Int32} {L B : PF} (d : Nat) (hd : d < 17) (hB : pf_hd B d) (hx : xv a_bottom L) (hy : xv a_common B) (lL : pf_ln L 17)
    (h : ∀ Q R : PF, pf_ln Q 17 → pf_ln R d → L = pf_add (pf_mul Q B) R → ∀ a_bottom a_quotient : Nat → Int32, xv a_bottom R → xv a_quotient Q → post (f_tokenCount, f_latestPlace, f_stepCount, f_waitingCount, f_stackCount, f_factorCount, a_tokenKind, a_tokenContent, a_stepKind, a_stepToken, a_waitingKind, a_waitingToken, a_present, a_cells, a_leftTop, a_leftBottom, a_rightTop, a_rightBottom, a_top, a_bottom, a_product, a_quotient, a_common, a_spare, a_rest, a_divisor, a_inverse, a_numerator, a_factorDegrees, a_factorPowers, a_factorCells)) (ep : p = nI d := by rfl) : wpX_divide__bottom_common_quotient post (f_tokenCount, f_latestPlace, f_stepCount, f_waitingCount, f_stackCount, f_factorCount, a_tokenKind, a_tokenContent, a_stepKind, a_stepToken, a_waitingKind, a_waitingToken, a_present, a_cells, a_leftTop, a_leftBottom, a_rightTop, a_rightBottom, a_top, a_bottom, a_product, a_quotient, a_common, a_spare, a_rest, a_divisor, a_inverse, a_numerator, a_factorDegrees, a_factorPowers, a_factorCells) p := by
  subst ep
  have inner : ∀ (J : Int32 → (Nat → Int32) → (Nat → Int32) → (Nat → Int32) → (Nat → Int32) → (Nat → Int32) → (Nat → Int32) → (Nat → Int32) → (Nat → Int32) → (Nat → Int32) → (Nat → Int32) → (Nat → Int32) → (Nat → Int32) → (Nat → Int32) → (Nat → Int32) → (Nat → Int32) → (Nat → Int32) → (Nat → Int32) → (Nat → Int32) → (Nat → Int32) → (Nat → Int32) → (Nat → Int32) → (Nat → Int32) → (Nat → Int32) → (Nat → Int32) → (Nat → Int32) → Prop) (x4 : Int32) (e : Nat) (f : Fin 5) (R : PF), e + d < 17 → ∀ a_quotient : Nat → Int32, (∀ a_bottom : Nat → Int32, xv a_bottom (pf_sub R (pf_mul (pf_mn f e) B)) → J (nI e + (-1)) a_tokenKind a_tokenContent a_stepKind a_stepToken a_waitingKind a_waitingToken a_present a_cells a_leftTop a_leftBottom a_rightTop a_rightBottom a_top a_bottom a_product a_quotient a_common a_spare a_rest a_divisor a_inverse a_numerator a_factorDegrees a_factorPowers a_factorCells) → ∀ m k, ∀ a_bottom : Nat → Int32, k + m = d + 1 → xv a_bottom (fun t => R t - (if e ≤ t ∧ t < e + k then f * B (t - e) else 0)) → wX_divide__bottom_common_quotient_57 post J (nI d) x4 (nI e) (fi_I f) f_tokenCount f_latestPlace f_stepCount f_waitingCount f_stackCount f_factorCount (m + 1) (nI k) a_tokenKind a_tokenContent a_stepKind a_stepToken a_waitingKind a_waitingToken a_present a_cells a_leftTop a_leftBottom a_rightTop a_rightBottom a_top a_bottom a_product a_quotient a_common a_spare a_rest a_divisor a_inverse a_numerator a_factorDegrees a_factorPowers a_factorCells := by
    intro J x4 e f R hed a_quotient hJ m
    induction m with
    | zero =>
      intro k a_bottom hk hr
      obtain rfl : k = d + 1 := by omega
      exact br_t (nI_lt (by omega) (by omega)) (nm_e (hJ _ (xv_dv1 hr hB.1)))
    | succ m ih =>
      intro k a_bottom hk hr
      have i1 := pk_in (x := nI e + nI k) (e + k) 17 (by omega) (nI_add e k)
      refine br_f (nI_nlt (by omega) (by omega)) ⟨i1, vp_in_nI (by omega) (by omega), by decide, i1, nm_e (nm_r (nI_1 k) (ih (k + 1) _ (by omega) ?_))⟩
      rw [nI_add, nI_clamp (by omega), nI_clamp (by omega), hy k (by omega)]
      exact xv_dv2 hr (by omega)
  have key : ∀ j n, ∀ (Q R : PF) (a_bottom a_quotient : Nat → Int32), j + d ≤ 17 → j < n → xv a_bottom R → xv a_quotient Q → pf_ln Q 17 → pf_ln R (j + d) → (∀ k, k < j → Q k = 0) → L = pf_add (pf_mul Q B) R → wX_divide__bottom_common_quotient_30 post (nI d) (fi_I (B d * B d * B d)) f_tokenCount f_latestPlace f_stepCount f_waitingCount f_stackCount f_factorCount n (nI j + (-1)) a_tokenKind a_tokenContent a_stepKind a_stepToken a_waitingKind a_waitingToken a_present a_cells a_leftTop a_leftBottom a_rightTop a_rightBottom a_top a_bottom a_product a_quotient a_common a_spare a_rest a_divisor a_inverse a_numerator a_factorDegrees a_factorPowers a_factorCells := by
    intro j
    induction j with
    | zero =>
      intro n Q R a_bottom a_quotient _ hn hr hq lQ lR _ eL
      obtain ⟨n, rfl⟩ : ∃ m, n = m + 1 := ⟨n - 1, by omega⟩
      have e0 : nI 0 + (-1) = -1 := by decide
      rw [e0]
      exact br_t (by decide) (h Q R lQ (pf_ln_mono lR (by omega)) eL _ _ hr hq)
    | succ j ih =>
      intro n Q R a_bottom a_quotient hj hn hr hq lQ lR zQ eL
      obtain ⟨n, rfl⟩ : ∃ m, n = m + 1 := ⟨n - 1, by omega⟩
      rw [pk_m1]
      refine br_f (nI_pos (by omega)) ⟨pk_in (j + d) 17 (by omega) (nI_add j d), by decide, nm_r (e' := fi_I (R (j + d) * (B d * B d * B d))) ?_ ⟨vp_in_nI (by omega) (by omega), nm_e ⟨d + 2, ?_⟩⟩⟩
      · rw [nI_add, nI_clamp (by omega), hr (j + d) (by omega), xm_mm]
      · rw [nI_clamp (by omega)]
        refine inner _ _ j (R (j + d) * (B d * B d * B d)) R (by omega) _ (fun a_bottom hr2 => ih n _ _ _ _ (by omega) (by omega) hr2 (xv_qt hq (zQ j (by omega))) (pf_add_ln lQ (pf_ln_mono (pf_mn_ln _ _) (by omega))) (pf_dst hB lR) (fun k hk => ?_) ?_) (d + 1) 0 _ (by omega) (xv_dv0 hr)
        · show Q k + (if k = j then _ else 0) = 0
          rw [zQ k (by omega), if_neg (by omega)]; decide
        · rw [eL]
          generalize pf_mn (R (j + d) * (B d * B d * B d)) j = t
          letI := pf_ring
          show Q * B + R = (Q + t) * B + (R - t * B)
          grind
  unfold wpX_divide__bottom_common_quotient
  refine xf_setNumber__quotient 0 (fun a_quotient hz => ?_)
  have e16 : (16 : Int32) - nI d = nI (17 - d) + (-1) := by
    have e1 : 17 - d = (16 - d) + 1 := by omega
    rw [e1, pk_m1]; exact pk_sub (a := 16) (by omega)
  refine br_f (nI_pos (by omega)) (br_t (nI_lt (b := 17) hd (by decide)) ⟨vp_in_nI hd (by omega), by decide, ?_⟩)
  rw [nI_clamp (by omega), hy d hd, xm_inv]
  refine nm_r e16 ⟨18 - d, key (17 - d) (18 - d) (pf_c 0) L _ _ (by omega) (by omega) hx hz (pf_ln_mono (pf_c_ln 0) (by omega)) (pf_ln_mono lL (by omega)) (fun k _ => by rw [pf_c0]) ?_⟩
  letI := pf_ring
  show L = 0 * B + L
  grind
theorem xf_divide__spare_divisor_quotient {post : SX → Prop} {p : Int32} {L B : PF} (d : Nat) (hd : d < 17) (hB : pf_hd B d) (hx : xv a_spare L) (hy : xv a_divisor B) (lL : pf_ln L 17)
    (h : ∀ Q R : PF, pf_ln Q 17 → pf_ln R d → L = pf_add (pf_mul Q B) R → ∀ a_spare a_quotient : Nat → Int32, xv a_spare R → xv a_quotient Q → post (f_tokenCount, f_latestPlace, f_stepCount, f_waitingCount, f_stackCount, f_factorCount, a_tokenKind, a_tokenContent, a_stepKind, a_stepToken, a_waitingKind, a_waitingToken, a_present, a_cells, a_leftTop, a_leftBottom, a_rightTop, a_rightBottom, a_top, a_bottom, a_product, a_quotient, a_common, a_spare, a_rest, a_divisor, a_inverse, a_numerator, a_factorDegrees, a_factorPowers, a_factorCells)) (ep : p = nI d := by rfl) : wpX_divide__spare_divisor_quotient post (f_tokenCount, f_latestPlace, f_stepCount, f_waitingCount, f_stackCount, f_factorCount, a_tokenKind, a_tokenContent, a_stepKind, a_stepToken, a_waitingKind, a_waitingToken, a_present, a_cells, a_leftTop, a_leftBottom, a_rightTop, a_rightBottom, a_top, a_bottom, a_product, a_quotient, a_common, a_spare, a_rest, a_divisor, a_inverse, a_numerator, a_factorDegrees, a_factorPowers, a_factorCells) p := by
  subst ep
  have inner : ∀ (J : Int32 → (Nat → Int32) → (Nat → Int32) → (Nat → Int32) → (Nat → Int32) → (Nat → Int32) → (Nat → Int32) → (Nat → Int32) → (Nat → Int32) → (Nat → Int32) → (Nat → Int32) → (Nat → Int32) → (Nat → Int32) → (Nat → Int32) → (Nat → Int32) → (Nat → Int32) → (Nat → Int32) → (Nat → Int32) → (Nat → Int32) → (Nat → Int32) → (Nat → Int32) → (Nat → Int32) → (Nat → Int32) → (Nat → Int32) → (Nat → Int32) → (Nat → Int32) → Prop) (x4 : Int32) (e : Nat) (f : Fin 5) (R : PF), e + d < 17 → ∀ a_quotient : Nat → Int32, (∀ a_spare : Nat → Int32, xv a_spare (pf_sub R (pf_mul (pf_mn f e) B)) → J (nI e + (-1)) a_tokenKind a_tokenContent a_stepKind a_stepToken a_waitingKind a_waitingToken a_present a_cells a_leftTop a_leftBottom a_rightTop a_rightBottom a_top a_bottom a_product a_quotient a_common a_spare a_rest a_divisor a_inverse a_numerator a_factorDegrees a_factorPowers a_factorCells) → ∀ m k, ∀ a_spare : Nat → Int32, k + m = d + 1 → xv a_spare (fun t => R t - (if e ≤ t ∧ t < e + k then f * B (t - e) else 0)) → wX_divide__spare_divisor_quotient_57 post J (nI d) x4 (nI e) (fi_I f) f_tokenCount f_latestPlace f_stepCount f_waitingCount f_stackCount f_factorCount (m + 1) (nI k) a_tokenKind a_tokenContent a_stepKind a_stepToken a_waitingKind a_waitingToken a_present a_cells a_leftTop a_leftBottom a_rightTop a_rightBottom a_top a_bottom a_product a_quotient a_common a_spare a_rest a_divisor a_inverse a_numerator a_factorDegrees a_factorPowers a_factorCells := by
    intro J x4 e f R hed a_quotient hJ m
    induction m with
    | zero =>
      intro k a_spare hk hr
      obtain rfl : k = d + 1 := by omega
      exact br_t (nI_lt (by omega) (by omega)) (nm_e (hJ _ (xv_dv1 hr hB.1)))
    | succ m ih =>
      intro k a_spare hk hr
      have i1 := pk_in (x := nI e + nI k) (e + k) 17 (by omega) (nI_add e k)
      refine br_f (nI_nlt (by omega) (by omega)) ⟨i1, vp_in_nI (by omega) (by omega), by decide, i1, nm_e (nm_r (nI_1 k) (ih (k + 1) _ (by omega) ?_))⟩
      rw [nI_add, nI_clamp (by omega), nI_clamp (by omega), hy k (by omega)]
      exact xv_dv2 hr (by omega)
  have key : ∀ j n, ∀ (Q R : PF) (a_spare a_quotient : Nat → Int32), j + d ≤ 17 → j < n → xv a_spare R → xv a_quotient Q → pf_ln Q 17 → pf_ln R (j + d) → (∀ k, k < j → Q k = 0) → L = pf_add (pf_mul Q B) R → wX_divide__spare_divisor_quotient_30 post (nI d) (fi_I (B d * B d * B d)) f_tokenCount f_latestPlace f_stepCount f_waitingCount f_stackCount f_factorCount n (nI j + (-1)) a_tokenKind a_tokenContent a_stepKind a_stepToken a_waitingKind a_waitingToken a_present a_cells a_leftTop a_leftBottom a_rightTop a_rightBottom a_top a_bottom a_product a_quotient a_common a_spare a_rest a_divisor a_inverse a_numerator a_factorDegrees a_factorPowers a_factorCells := by
    intro j
    induction j with
    | zero =>
      intro n Q R a_spare a_quotient _ hn hr hq lQ lR _ eL
      obtain ⟨n, rfl⟩ : ∃ m, n = m + 1 := ⟨n - 1, by omega⟩
      have e0 : nI 0 + (-1) = -1 := by decide
      rw [e0]
      exact br_t (by decide) (h Q R lQ (pf_ln_mono lR (by omega)) eL _ _ hr hq)
    | succ j ih =>
      intro n Q R a_spare a_quotient hj hn hr hq lQ lR zQ eL
      obtain ⟨n, rfl⟩ : ∃ m, n = m + 1 := ⟨n - 1, by omega⟩
      rw [pk_m1]
      refine br_f (nI_pos (by omega)) ⟨pk_in (j + d) 17 (by omega) (nI_add j d), by decide, nm_r (e' := fi_I (R (j + d) * (B d * B d * B d))) ?_ ⟨vp_in_nI (by omega) (by omega), nm_e ⟨d + 2, ?_⟩⟩⟩
      · rw [nI_add, nI_clamp (by omega), hr (j + d) (by omega), xm_mm]
      · rw [nI_clamp (by omega)]
        refine inner _ _ j (R (j + d) * (B d * B d * B d)) R (by omega) _ (fun a_spare hr2 => ih n _ _ _ _ (by omega) (by omega) hr2 (xv_qt hq (zQ j (by omega))) (pf_add_ln lQ (pf_ln_mono (pf_mn_ln _ _) (by omega))) (pf_dst hB lR) (fun k hk => ?_) ?_) (d + 1) 0 _ (by omega) (xv_dv0 hr)
        · show Q k + (if k = j then _ else 0) = 0
          rw [zQ k (by omega), if_neg (by omega)]; decide
        · rw [eL]
          generalize pf_mn (R (j + d) * (B d * B d * B d)) j = t
          letI := pf_ring
          show Q * B + R = (Q + t) * B + (R - t * B)
          grind
  unfold wpX_divide__spare_divisor_quotient
  refine xf_setNumber__quotient 0 (fun a_quotient hz => ?_)
  have e16 : (16 : Int32) - nI d = nI (17 - d) + (-1) := by
    have e1 : 17 - d = (16 - d) + 1 := by omega
    rw [e1, pk_m1]; exact pk_sub (a := 16) (by omega)
  refine br_f (nI_pos (by omega)) (br_t (nI_lt (b := 17) hd (by decide)) ⟨vp_in_nI hd (by omega), by decide, ?_⟩)
  rw [nI_clamp (by omega), hy d hd, xm_inv]
  refine nm_r e16 ⟨18 - d, key (17 - d) (18 - d) (pf_c 0) L _ _ (by omega) (by omega) hx hz (pf_ln_mono (pf_c_ln 0) (by omega)) (pf_ln_mono lL (by omega)) (fun k _ => by rw [pf_c0]) ?_⟩
  letI := pf_ring
  show L = 0 * B + L
  grind
theorem xf_divide__leftTop_leftBottom_quotient {post : SX → Prop} {p : Int32} {L B : PF} (d : Nat) (hd : d < 17) (hB : pf_hd B d) (hx : xv a_leftTop L) (hy : xv a_leftBottom B) (lL : pf_ln L 17)
    (h : ∀ Q R : PF, pf_ln Q 17 → pf_ln R d → L = pf_add (pf_mul Q B) R → ∀ a_leftTop a_quotient : Nat → Int32, xv a_leftTop R → xv a_quotient Q → post (f_tokenCount, f_latestPlace, f_stepCount, f_waitingCount, f_stackCount, f_factorCount, a_tokenKind, a_tokenContent, a_stepKind, a_stepToken, a_waitingKind, a_waitingToken, a_present, a_cells, a_leftTop, a_leftBottom, a_rightTop, a_rightBottom, a_top, a_bottom, a_product, a_quotient, a_common, a_spare, a_rest, a_divisor, a_inverse, a_numerator, a_factorDegrees, a_factorPowers, a_factorCells)) (ep : p = nI d := by rfl) : wpX_divide__leftTop_leftBottom_quotient post (f_tokenCount, f_latestPlace, f_stepCount, f_waitingCount, f_stackCount, f_factorCount, a_tokenKind, a_tokenContent, a_stepKind, a_stepToken, a_waitingKind, a_waitingToken, a_present, a_cells, a_leftTop, a_leftBottom, a_rightTop, a_rightBottom, a_top, a_bottom, a_product, a_quotient, a_common, a_spare, a_rest, a_divisor, a_inverse, a_numerator, a_factorDegrees, a_factorPowers, a_factorCells) p := by
  subst ep
  have inner : ∀ (J : Int32 → (Nat → Int32) → (Nat → Int32) → (Nat → Int32) → (Nat → Int32) → (Nat → Int32) → (Nat → Int32) → (Nat → Int32) → (Nat → Int32) → (Nat → Int32) → (Nat → Int32) → (Nat → Int32) → (Nat → Int32) → (Nat → Int32) → (Nat → Int32) → (Nat → Int32) → (Nat → Int32) → (Nat → Int32) → (Nat → Int32) → (Nat → Int32) → (Nat → Int32) → (Nat → Int32) → (Nat → Int32) → (Nat → Int32) → (Nat → Int32) → (Nat → Int32) → Prop) (x4 : Int32) (e : Nat) (f : Fin 5) (R : PF), e + d < 17 → ∀ a_quotient : Nat → Int32, (∀ a_leftTop : Nat → Int32, xv a_leftTop (pf_sub R (pf_mul (pf_mn f e) B)) → J (nI e + (-1)) a_tokenKind a_tokenContent a_stepKind a_stepToken a_waitingKind a_waitingToken a_present a_cells a_leftTop a_leftBottom a_rightTop a_rightBottom a_top a_bottom a_product a_quotient a_common a_spare a_rest a_divisor a_inverse a_numerator a_factorDegrees a_factorPowers a_factorCells) → ∀ m k, ∀ a_leftTop : Nat → Int32, k + m = d + 1 → xv a_leftTop (fun t => R t - (if e ≤ t ∧ t < e + k then f * B (t - e) else 0)) → wX_divide__leftTop_leftBottom_quotient_57 post J (nI d) x4 (nI e) (fi_I f) f_tokenCount f_latestPlace f_stepCount f_waitingCount f_stackCount f_factorCount (m + 1) (nI k) a_tokenKind a_tokenContent a_stepKind a_stepToken a_waitingKind a_waitingToken a_present a_cells a_leftTop a_leftBottom a_rightTop a_rightBottom a_top a_bottom a_product a_quotient a_common a_spare a_rest a_divisor a_inverse a_numerator a_factorDegrees a_factorPowers a_factorCells := by
    intro J x4 e f R hed a_quotient hJ m
    induction m with
    | zero =>
      intro k a_leftTop hk hr
      obtain rfl : k = d + 1 := by omega
      exact br_t (nI_lt (by omega) (by omega)) (nm_e (hJ _ (xv_dv1 hr hB.1)))
    | succ m ih =>
      intro k a_leftTop hk hr
      have i1 := pk_in (x := nI e + nI k) (e + k) 17 (by omega) (nI_add e k)
      refine br_f (nI_nlt (by omega) (by omega)) ⟨i1, vp_in_nI (by omega) (by omega), by decide, i1, nm_e (nm_r (nI_1 k) (ih (k + 1) _ (by omega) ?_))⟩
      rw [nI_add, nI_clamp (by omega), nI_clamp (by omega), hy k (by omega)]
      exact xv_dv2 hr (by omega)
  have key : ∀ j n, ∀ (Q R : PF) (a_leftTop a_quotient : Nat → Int32), j + d ≤ 17 → j < n → xv a_leftTop R → xv a_quotient Q → pf_ln Q 17 → pf_ln R (j + d) → (∀ k, k < j → Q k = 0) → L = pf_add (pf_mul Q B) R → wX_divide__leftTop_leftBottom_quotient_30 post (nI d) (fi_I (B d * B d * B d)) f_tokenCount f_latestPlace f_stepCount f_waitingCount f_stackCount f_factorCount n (nI j + (-1)) a_tokenKind a_tokenContent a_stepKind a_stepToken a_waitingKind a_waitingToken a_present a_cells a_leftTop a_leftBottom a_rightTop a_rightBottom a_top a_bottom a_product a_quotient a_common a_spare a_rest a_divisor a_inverse a_numerator a_factorDegrees a_factorPowers a_factorCells := by
    intro j
    induction j with
    | zero =>
      intro n Q R a_leftTop a_quotient _ hn hr hq lQ lR _ eL
      obtain ⟨n, rfl⟩ : ∃ m, n = m + 1 := ⟨n - 1, by omega⟩
      have e0 : nI 0 + (-1) = -1 := by decide
      rw [e0]
      exact br_t (by decide) (h Q R lQ (pf_ln_mono lR (by omega)) eL _ _ hr hq)
    | succ j ih =>
      intro n Q R a_leftTop a_quotient hj hn hr hq lQ lR zQ eL
      obtain ⟨n, rfl⟩ : ∃ m, n = m + 1 := ⟨n - 1, by omega⟩
      rw [pk_m1]
      refine br_f (nI_pos (by omega)) ⟨pk_in (j + d) 17 (by omega) (nI_add j d), by decide, nm_r (e' := fi_I (R (j + d) * (B d * B d * B d))) ?_ ⟨vp_in_nI (by omega) (by omega), nm_e ⟨d + 2, ?_⟩⟩⟩
      · rw [nI_add, nI_clamp (by omega), hr (j + d) (by omega), xm_mm]
      · rw [nI_clamp (by omega)]
        refine inner _ _ j (R (j + d) * (B d * B d * B d)) R (by omega) _ (fun a_leftTop hr2 => ih n _ _ _ _ (by omega) (by omega) hr2 (xv_qt hq (zQ j (by omega))) (pf_add_ln lQ (pf_ln_mono (pf_mn_ln _ _) (by omega))) (pf_dst hB lR) (fun k hk => ?_) ?_) (d + 1) 0 _ (by omega) (xv_dv0 hr)
        · show Q k + (if k = j then _ else 0) = 0
          rw [zQ k (by omega), if_neg (by omega)]; decide
        · rw [eL]
          generalize pf_mn (R (j + d) * (B d * B d * B d)) j = t
          letI := pf_ring
          show Q * B + R = (Q + t) * B + (R - t * B)
          grind
  unfold wpX_divide__leftTop_leftBottom_quotient
  refine xf_setNumber__quotient 0 (fun a_quotient hz => ?_)
  have e16 : (16 : Int32) - nI d = nI (17 - d) + (-1) := by
    have e1 : 17 - d = (16 - d) + 1 := by omega
    rw [e1, pk_m1]; exact pk_sub (a := 16) (by omega)
  refine br_f (nI_pos (by omega)) (br_t (nI_lt (b := 17) hd (by decide)) ⟨vp_in_nI hd (by omega), by decide, ?_⟩)
  rw [nI_clamp (by omega), hy d hd, xm_inv]
  refine nm_r e16 ⟨18 - d, key (17 - d) (18 - d) (pf_c 0) L _ _ (by omega) (by omega) hx hz (pf_ln_mono (pf_c_ln 0) (by omega)) (pf_ln_mono lL (by omega)) (fun k _ => by rw [pf_c0]) ?_⟩
  letI := pf_ring
  show L = 0 * B + L
  grind
theorem xf_divide__product_divisor_quotient {post : SX → Prop} {p : Int32} {L B : PF} (d : Nat) (hd : d < 17) (hB : pf_hd B d) (hx : xv a_product L) (hy : xv a_divisor B) (lL : pf_ln L 17)
    (h : ∀ Q R : PF, pf_ln Q 17 → pf_ln R d → L = pf_add (pf_mul Q B) R → ∀ a_product a_quotient : Nat → Int32, xv a_product R → xv a_quotient Q → post (f_tokenCount, f_latestPlace, f_stepCount, f_waitingCount, f_stackCount, f_factorCount, a_tokenKind, a_tokenContent, a_stepKind, a_stepToken, a_waitingKind, a_waitingToken, a_present, a_cells, a_leftTop, a_leftBottom, a_rightTop, a_rightBottom, a_top, a_bottom, a_product, a_quotient, a_common, a_spare, a_rest, a_divisor, a_inverse, a_numerator, a_factorDegrees, a_factorPowers, a_factorCells)) (ep : p = nI d := by rfl) : wpX_divide__product_divisor_quotient post (f_tokenCount, f_latestPlace, f_stepCount, f_waitingCount, f_stackCount, f_factorCount, a_tokenKind, a_tokenContent, a_stepKind, a_stepToken, a_waitingKind, a_waitingToken, a_present, a_cells, a_leftTop, a_leftBottom, a_rightTop, a_rightBottom, a_top, a_bottom, a_product, a_quotient, a_common, a_spare, a_rest, a_divisor, a_inverse, a_numerator, a_factorDegrees, a_factorPowers, a_factorCells) p := by
  subst ep
  have inner : ∀ (J : Int32 → (Nat → Int32) → (Nat → Int32) → (Nat → Int32) → (Nat → Int32) → (Nat → Int32) → (Nat → Int32) → (Nat → Int32) → (Nat → Int32) → (Nat → Int32) → (Nat → Int32) → (Nat → Int32) → (Nat → Int32) → (Nat → Int32) → (Nat → Int32) → (Nat → Int32) → (Nat → Int32) → (Nat → Int32) → (Nat → Int32) → (Nat → Int32) → (Nat → Int32) → (Nat → Int32) → (Nat → Int32) → (Nat → Int32) → (Nat → Int32) → (Nat → Int32) → Prop) (x4 : Int32) (e : Nat) (f : Fin 5) (R : PF), e + d < 17 → ∀ a_quotient : Nat → Int32, (∀ a_product : Nat → Int32, xv a_product (pf_sub R (pf_mul (pf_mn f e) B)) → J (nI e + (-1)) a_tokenKind a_tokenContent a_stepKind a_stepToken a_waitingKind a_waitingToken a_present a_cells a_leftTop a_leftBottom a_rightTop a_rightBottom a_top a_bottom a_product a_quotient a_common a_spare a_rest a_divisor a_inverse a_numerator a_factorDegrees a_factorPowers a_factorCells) → ∀ m k, ∀ a_product : Nat → Int32, k + m = d + 1 → xv a_product (fun t => R t - (if e ≤ t ∧ t < e + k then f * B (t - e) else 0)) → wX_divide__product_divisor_quotient_57 post J (nI d) x4 (nI e) (fi_I f) f_tokenCount f_latestPlace f_stepCount f_waitingCount f_stackCount f_factorCount (m + 1) (nI k) a_tokenKind a_tokenContent a_stepKind a_stepToken a_waitingKind a_waitingToken a_present a_cells a_leftTop a_leftBottom a_rightTop a_rightBottom a_top a_bottom a_product a_quotient a_common a_spare a_rest a_divisor a_inverse a_numerator a_factorDegrees a_factorPowers a_factorCells := by
    intro J x4 e f R hed a_quotient hJ m
    induction m with
    | zero =>
      intro k a_product hk hr
      obtain rfl : k = d + 1 := by omega
      exact br_t (nI_lt (by omega) (by omega)) (nm_e (hJ _ (xv_dv1 hr hB.1)))
    | succ m ih =>
      intro k a_product hk hr
      have i1 := pk_in (x := nI e + nI k) (e + k) 17 (by omega) (nI_add e k)
      refine br_f (nI_nlt (by omega) (by omega)) ⟨i1, vp_in_nI (by omega) (by omega), by decide, i1, nm_e (nm_r (nI_1 k) (ih (k + 1) _ (by omega) ?_))⟩
      rw [nI_add, nI_clamp (by omega), nI_clamp (by omega), hy k (by omega)]
      exact xv_dv2 hr (by omega)
  have key : ∀ j n, ∀ (Q R : PF) (a_product a_quotient : Nat → Int32), j + d ≤ 17 → j < n → xv a_product R → xv a_quotient Q → pf_ln Q 17 → pf_ln R (j + d) → (∀ k, k < j → Q k = 0) → L = pf_add (pf_mul Q B) R → wX_divide__product_divisor_quotient_30 post (nI d) (fi_I (B d * B d * B d)) f_tokenCount f_latestPlace f_stepCount f_waitingCount f_stackCount f_factorCount n (nI j + (-1)) a_tokenKind a_tokenContent a_stepKind a_stepToken a_waitingKind a_waitingToken a_present a_cells a_leftTop a_leftBottom a_rightTop a_rightBottom a_top a_bottom a_product a_quotient a_common a_spare a_rest a_divisor a_inverse a_numerator a_factorDegrees a_factorPowers a_factorCells := by
    intro j
    induction j with
    | zero =>
      intro n Q R a_product a_quotient _ hn hr hq lQ lR _ eL
      obtain ⟨n, rfl⟩ : ∃ m, n = m + 1 := ⟨n - 1, by omega⟩
      have e0 : nI 0 + (-1) = -1 := by decide
      rw [e0]
      exact br_t (by decide) (h Q R lQ (pf_ln_mono lR (by omega)) eL _ _ hr hq)
    | succ j ih =>
      intro n Q R a_product a_quotient hj hn hr hq lQ lR zQ eL
      obtain ⟨n, rfl⟩ : ∃ m, n = m + 1 := ⟨n - 1, by omega⟩
      rw [pk_m1]
      refine br_f (nI_pos (by omega)) ⟨pk_in (j + d) 17 (by omega) (nI_add j d), by decide, nm_r (e' := fi_I (R (j + d) * (B d * B d * B d))) ?_ ⟨vp_in_nI (by omega) (by omega), nm_e ⟨d + 2, ?_⟩⟩⟩
      · rw [nI_add, nI_clamp (by omega), hr (j + d) (by omega), xm_mm]
      · rw [nI_clamp (by omega)]
        refine inner _ _ j (R (j + d) * (B d * B d * B d)) R (by omega) _ (fun a_product hr2 => ih n _ _ _ _ (by omega) (by omega) hr2 (xv_qt hq (zQ j (by omega))) (pf_add_ln lQ (pf_ln_mono (pf_mn_ln _ _) (by omega))) (pf_dst hB lR) (fun k hk => ?_) ?_) (d + 1) 0 _ (by omega) (xv_dv0 hr)
        · show Q k + (if k = j then _ else 0) = 0
          rw [zQ k (by omega), if_neg (by omega)]; decide
        · rw [eL]
          generalize pf_mn (R (j + d) * (B d * B d * B d)) j = t
          letI := pf_ring
          show Q * B + R = (Q + t) * B + (R - t * B)
          grind
  unfold wpX_divide__product_divisor_quotient
  refine xf_setNumber__quotient 0 (fun a_quotient hz => ?_)
  have e16 : (16 : Int32) - nI d = nI (17 - d) + (-1) := by
    have e1 : 17 - d = (16 - d) + 1 := by omega
    rw [e1, pk_m1]; exact pk_sub (a := 16) (by omega)
  refine br_f (nI_pos (by omega)) (br_t (nI_lt (b := 17) hd (by decide)) ⟨vp_in_nI hd (by omega), by decide, ?_⟩)
  rw [nI_clamp (by omega), hy d hd, xm_inv]
  refine nm_r e16 ⟨18 - d, key (17 - d) (18 - d) (pf_c 0) L _ _ (by omega) (by omega) hx hz (pf_ln_mono (pf_c_ln 0) (by omega)) (pf_ln_mono lL (by omega)) (fun k _ => by rw [pf_c0]) ?_⟩
  letI := pf_ring
  show L = 0 * B + L
  grind
theorem xf_divide__leftTop_divisor_quotient {post : SX → Prop} {p : Int32} {L B : PF} (d : Nat) (hd : d < 17) (hB : pf_hd B d) (hx : xv a_leftTop L) (hy : xv a_divisor B) (lL : pf_ln L 17)
    (h : ∀ Q R : PF, pf_ln Q 17 → pf_ln R d → L = pf_add (pf_mul Q B) R → ∀ a_leftTop a_quotient : Nat → Int32, xv a_leftTop R → xv a_quotient Q → post (f_tokenCount, f_latestPlace, f_stepCount, f_waitingCount, f_stackCount, f_factorCount, a_tokenKind, a_tokenContent, a_stepKind, a_stepToken, a_waitingKind, a_waitingToken, a_present, a_cells, a_leftTop, a_leftBottom, a_rightTop, a_rightBottom, a_top, a_bottom, a_product, a_quotient, a_common, a_spare, a_rest, a_divisor, a_inverse, a_numerator, a_factorDegrees, a_factorPowers, a_factorCells)) (ep : p = nI d := by rfl) : wpX_divide__leftTop_divisor_quotient post (f_tokenCount, f_latestPlace, f_stepCount, f_waitingCount, f_stackCount, f_factorCount, a_tokenKind, a_tokenContent, a_stepKind, a_stepToken, a_waitingKind, a_waitingToken, a_present, a_cells, a_leftTop, a_leftBottom, a_rightTop, a_rightBottom, a_top, a_bottom, a_product, a_quotient, a_common, a_spare, a_rest, a_divisor, a_inverse, a_numerator, a_factorDegrees, a_factorPowers, a_factorCells) p := by
  subst ep
  have inner : ∀ (J : Int32 → (Nat → Int32) → (Nat → Int32) → (Nat → Int32) → (Nat → Int32) → (Nat → Int32) → (Nat → Int32) → (Nat → Int32) → (Nat → Int32) → (Nat → Int32) → (Nat → Int32) → (Nat → Int32) → (Nat → Int32) → (Nat → Int32) → (Nat → Int32) → (Nat → Int32) → (Nat → Int32) → (Nat → Int32) → (Nat → Int32) → (Nat → Int32) → (Nat → Int32) → (Nat → Int32) → (Nat → Int32) → (Nat → Int32) → (Nat → Int32) → (Nat → Int32) → Prop) (x4 : Int32) (e : Nat) (f : Fin 5) (R : PF), e + d < 17 → ∀ a_quotient : Nat → Int32, (∀ a_leftTop : Nat → Int32, xv a_leftTop (pf_sub R (pf_mul (pf_mn f e) B)) → J (nI e + (-1)) a_tokenKind a_tokenContent a_stepKind a_stepToken a_waitingKind a_waitingToken a_present a_cells a_leftTop a_leftBottom a_rightTop a_rightBottom a_top a_bottom a_product a_quotient a_common a_spare a_rest a_divisor a_inverse a_numerator a_factorDegrees a_factorPowers a_factorCells) → ∀ m k, ∀ a_leftTop : Nat → Int32, k + m = d + 1 → xv a_leftTop (fun t => R t - (if e ≤ t ∧ t < e + k then f * B (t - e) else 0)) → wX_divide__leftTop_divisor_quotient_57 post J (nI d) x4 (nI e) (fi_I f) f_tokenCount f_latestPlace f_stepCount f_waitingCount f_stackCount f_factorCount (m + 1) (nI k) a_tokenKind a_tokenContent a_stepKind a_stepToken a_waitingKind a_waitingToken a_present a_cells a_leftTop a_leftBottom a_rightTop a_rightBottom a_top a_bottom a_product a_quotient a_common a_spare a_rest a_divisor a_inverse a_numerator a_factorDegrees a_factorPowers a_factorCells := by
    intro J x4 e f R hed a_quotient hJ m
    induction m with
    | zero =>
      intro k a_leftTop hk hr
      obtain rfl : k = d + 1 := by omega
      exact br_t (nI_lt (by omega) (by omega)) (nm_e (hJ _ (xv_dv1 hr hB.1)))
    | succ m ih =>
      intro k a_leftTop hk hr
      have i1 := pk_in (x := nI e + nI k) (e + k) 17 (by omega) (nI_add e k)
      refine br_f (nI_nlt (by omega) (by omega)) ⟨i1, vp_in_nI (by omega) (by omega), by decide, i1, nm_e (nm_r (nI_1 k) (ih (k + 1) _ (by omega) ?_))⟩
      rw [nI_add, nI_clamp (by omega), nI_clamp (by omega), hy k (by omega)]
      exact xv_dv2 hr (by omega)
  have key : ∀ j n, ∀ (Q R : PF) (a_leftTop a_quotient : Nat → Int32), j + d ≤ 17 → j < n → xv a_leftTop R → xv a_quotient Q → pf_ln Q 17 → pf_ln R (j + d) → (∀ k, k < j → Q k = 0) → L = pf_add (pf_mul Q B) R → wX_divide__leftTop_divisor_quotient_30 post (nI d) (fi_I (B d * B d * B d)) f_tokenCount f_latestPlace f_stepCount f_waitingCount f_stackCount f_factorCount n (nI j + (-1)) a_tokenKind a_tokenContent a_stepKind a_stepToken a_waitingKind a_waitingToken a_present a_cells a_leftTop a_leftBottom a_rightTop a_rightBottom a_top a_bottom a_product a_quotient a_common a_spare a_rest a_divisor a_inverse a_numerator a_factorDegrees a_factorPowers a_factorCells := by
    intro j
    induction j with
    | zero =>
      intro n Q R a_leftTop a_quotient _ hn hr hq lQ lR _ eL
      obtain ⟨n, rfl⟩ : ∃ m, n = m + 1 := ⟨n - 1, by omega⟩
      have e0 : nI 0 + (-1) = -1 := by decide
      rw [e0]
      exact br_t (by decide) (h Q R lQ (pf_ln_mono lR (by omega)) eL _ _ hr hq)
    | succ j ih =>
      intro n Q R a_leftTop a_quotient hj hn hr hq lQ lR zQ eL
      obtain ⟨n, rfl⟩ : ∃ m, n = m + 1 := ⟨n - 1, by omega⟩
      rw [pk_m1]
      refine br_f (nI_pos (by omega)) ⟨pk_in (j + d) 17 (by omega) (nI_add j d), by decide, nm_r (e' := fi_I (R (j + d) * (B d * B d * B d))) ?_ ⟨vp_in_nI (by omega) (by omega), nm_e ⟨d + 2, ?_⟩⟩⟩
      · rw [nI_add, nI_clamp (by omega), hr (j + d) (by omega), xm_mm]
      · rw [nI_clamp (by omega)]
        refine inner _ _ j (R (j + d) * (B d * B d * B d)) R (by omega) _ (fun a_leftTop hr2 => ih n _ _ _ _ (by omega) (by omega) hr2 (xv_qt hq (zQ j (by omega))) (pf_add_ln lQ (pf_ln_mono (pf_mn_ln _ _) (by omega))) (pf_dst hB lR) (fun k hk => ?_) ?_) (d + 1) 0 _ (by omega) (xv_dv0 hr)
        · show Q k + (if k = j then _ else 0) = 0
          rw [zQ k (by omega), if_neg (by omega)]; decide
        · rw [eL]
          generalize pf_mn (R (j + d) * (B d * B d * B d)) j = t
          letI := pf_ring
          show Q * B + R = (Q + t) * B + (R - t * B)
          grind
  unfold wpX_divide__leftTop_divisor_quotient
  refine xf_setNumber__quotient 0 (fun a_quotient hz => ?_)
  have e16 : (16 : Int32) - nI d = nI (17 - d) + (-1) := by
    have e1 : 17 - d = (16 - d) + 1 := by omega
    rw [e1, pk_m1]; exact pk_sub (a := 16) (by omega)
  refine br_f (nI_pos (by omega)) (br_t (nI_lt (b := 17) hd (by decide)) ⟨vp_in_nI hd (by omega), by decide, ?_⟩)
  rw [nI_clamp (by omega), hy d hd, xm_inv]
  refine nm_r e16 ⟨18 - d, key (17 - d) (18 - d) (pf_c 0) L _ _ (by omega) (by omega) hx hz (pf_ln_mono (pf_c_ln 0) (by omega)) (pf_ln_mono lL (by omega)) (fun k _ => by rw [pf_c0]) ?_⟩
  letI := pf_ring
  show L = 0 * B + L
  grind
theorem xf_divide__leftBottom_divisor_quotient {post : SX → Prop} {p : Int32} {L B : PF} (d : Nat) (hd : d < 17) (hB : pf_hd B d) (hx : xv a_leftBottom L) (hy : xv a_divisor B) (lL : pf_ln L 17)
    (h : ∀ Q R : PF, pf_ln Q 17 → pf_ln R d → L = pf_add (pf_mul Q B) R → ∀ a_leftBottom a_quotient : Nat → Int32, xv a_leftBottom R → xv a_quotient Q → post (f_tokenCount, f_latestPlace, f_stepCount, f_waitingCount, f_stackCount, f_factorCount, a_tokenKind, a_tokenContent, a_stepKind, a_stepToken, a_waitingKind, a_waitingToken, a_present, a_cells, a_leftTop, a_leftBottom, a_rightTop, a_rightBottom, a_top, a_bottom, a_product, a_quotient, a_common, a_spare, a_rest, a_divisor, a_inverse, a_numerator, a_factorDegrees, a_factorPowers, a_factorCells)) (ep : p = nI d := by rfl) : wpX_divide__leftBottom_divisor_quotient post (f_tokenCount, f_latestPlace, f_stepCount, f_waitingCount, f_stackCount, f_factorCount, a_tokenKind, a_tokenContent, a_stepKind, a_stepToken, a_waitingKind, a_waitingToken, a_present, a_cells, a_leftTop, a_leftBottom, a_rightTop, a_rightBottom, a_top, a_bottom, a_product, a_quotient, a_common, a_spare, a_rest, a_divisor, a_inverse, a_numerator, a_factorDegrees, a_factorPowers, a_factorCells) p := by
  subst ep
  have inner : ∀ (J : Int32 → (Nat → Int32) → (Nat → Int32) → (Nat → Int32) → (Nat → Int32) → (Nat → Int32) → (Nat → Int32) → (Nat → Int32) → (Nat → Int32) → (Nat → Int32) → (Nat → Int32) → (Nat → Int32) → (Nat → Int32) → (Nat → Int32) → (Nat → Int32) → (Nat → Int32) → (Nat → Int32) → (Nat → Int32) → (Nat → Int32) → (Nat → Int32) → (Nat → Int32) → (Nat → Int32) → (Nat → Int32) → (Nat → Int32) → (Nat → Int32) → (Nat → Int32) → Prop) (x4 : Int32) (e : Nat) (f : Fin 5) (R : PF), e + d < 17 → ∀ a_quotient : Nat → Int32, (∀ a_leftBottom : Nat → Int32, xv a_leftBottom (pf_sub R (pf_mul (pf_mn f e) B)) → J (nI e + (-1)) a_tokenKind a_tokenContent a_stepKind a_stepToken a_waitingKind a_waitingToken a_present a_cells a_leftTop a_leftBottom a_rightTop a_rightBottom a_top a_bottom a_product a_quotient a_common a_spare a_rest a_divisor a_inverse a_numerator a_factorDegrees a_factorPowers a_factorCells) → ∀ m k, ∀ a_leftBottom : Nat → Int32, k + m = d + 1 → xv a_leftBottom (fun t => R t - (if e ≤ t ∧ t < e + k then f * B (t - e) else 0)) → wX_divide__leftBottom_divisor_quotient_57 post J (nI d) x4 (nI e) (fi_I f) f_tokenCount f_latestPlace f_stepCount f_waitingCount f_stackCount f_factorCount (m + 1) (nI k) a_tokenKind a_tokenContent a_stepKind a_stepToken a_waitingKind a_waitingToken a_present a_cells a_leftTop a_leftBottom a_rightTop a_rightBottom a_top a_bottom a_product a_quotient a_common a_spare a_rest a_divisor a_inverse a_numerator a_factorDegrees a_factorPowers a_factorCells := by
    intro J x4 e f R hed a_quotient hJ m
    induction m with
    | zero =>
      intro k a_leftBottom hk hr
      obtain rfl : k = d + 1 := by omega
      exact br_t (nI_lt (by omega) (by omega)) (nm_e (hJ _ (xv_dv1 hr hB.1)))
    | succ m ih =>
      intro k a_leftBottom hk hr
      have i1 := pk_in (x := nI e + nI k) (e + k) 17 (by omega) (nI_add e k)
      refine br_f (nI_nlt (by omega) (by omega)) ⟨i1, vp_in_nI (by omega) (by omega), by decide, i1, nm_e (nm_r (nI_1 k) (ih (k + 1) _ (by omega) ?_))⟩
      rw [nI_add, nI_clamp (by omega), nI_clamp (by omega), hy k (by omega)]
      exact xv_dv2 hr (by omega)
  have key : ∀ j n, ∀ (Q R : PF) (a_leftBottom a_quotient : Nat → Int32), j + d ≤ 17 → j < n → xv a_leftBottom R → xv a_quotient Q → pf_ln Q 17 → pf_ln R (j + d) → (∀ k, k < j → Q k = 0) → L = pf_add (pf_mul Q B) R → wX_divide__leftBottom_divisor_quotient_30 post (nI d) (fi_I (B d * B d * B d)) f_tokenCount f_latestPlace f_stepCount f_waitingCount f_stackCount f_factorCount n (nI j + (-1)) a_tokenKind a_tokenContent a_stepKind a_stepToken a_waitingKind a_waitingToken a_present a_cells a_leftTop a_leftBottom a_rightTop a_rightBottom a_top a_bottom a_product a_quotient a_common a_spare a_rest a_divisor a_inverse a_numerator a_factorDegrees a_factorPowers a_factorCells := by
    intro j
    induction j with
    | zero =>
      intro n Q R a_leftBottom a_quotient _ hn hr hq lQ lR _ eL
      obtain ⟨n, rfl⟩ : ∃ m, n = m + 1 := ⟨n - 1, by omega⟩
      have e0 : nI 0 + (-1) = -1 := by decide
      rw [e0]
      exact br_t (by decide) (h Q R lQ (pf_ln_mono lR (by omega)) eL _ _ hr hq)
    | succ j ih =>
      intro n Q R a_leftBottom a_quotient hj hn hr hq lQ lR zQ eL
      obtain ⟨n, rfl⟩ : ∃ m, n = m + 1 := ⟨n - 1, by omega⟩
      rw [pk_m1]
      refine br_f (nI_pos (by omega)) ⟨pk_in (j + d) 17 (by omega) (nI_add j d), by decide, nm_r (e' := fi_I (R (j + d) * (B d * B d * B d))) ?_ ⟨vp_in_nI (by omega) (by omega), nm_e ⟨d + 2, ?_⟩⟩⟩
      · rw [nI_add, nI_clamp (by omega), hr (j + d) (by omega), xm_mm]
      · rw [nI_clamp (by omega)]
        refine inner _ _ j (R (j + d) * (B d * B d * B d)) R (by omega) _ (fun a_leftBottom hr2 => ih n _ _ _ _ (by omega) (by omega) hr2 (xv_qt hq (zQ j (by omega))) (pf_add_ln lQ (pf_ln_mono (pf_mn_ln _ _) (by omega))) (pf_dst hB lR) (fun k hk => ?_) ?_) (d + 1) 0 _ (by omega) (xv_dv0 hr)
        · show Q k + (if k = j then _ else 0) = 0
          rw [zQ k (by omega), if_neg (by omega)]; decide
        · rw [eL]
          generalize pf_mn (R (j + d) * (B d * B d * B d)) j = t
          letI := pf_ring
          show Q * B + R = (Q + t) * B + (R - t * B)
          grind
  unfold wpX_divide__leftBottom_divisor_quotient
  refine xf_setNumber__quotient 0 (fun a_quotient hz => ?_)
  have e16 : (16 : Int32) - nI d = nI (17 - d) + (-1) := by
    have e1 : 17 - d = (16 - d) + 1 := by omega
    rw [e1, pk_m1]; exact pk_sub (a := 16) (by omega)
  refine br_f (nI_pos (by omega)) (br_t (nI_lt (b := 17) hd (by decide)) ⟨vp_in_nI hd (by omega), by decide, ?_⟩)
  rw [nI_clamp (by omega), hy d hd, xm_inv]
  refine nm_r e16 ⟨18 - d, key (17 - d) (18 - d) (pf_c 0) L _ _ (by omega) (by omega) hx hz (pf_ln_mono (pf_c_ln 0) (by omega)) (pf_ln_mono lL (by omega)) (fun k _ => by rw [pf_c0]) ?_⟩
  letI := pf_ring
  show L = 0 * B + L
  grind
theorem xf_sizeOf__leftTop_leftBottom {post : Int32 → Prop} {P Q : PF} (hA : xv a_leftTop P) (hB : xv a_leftBottom Q) (lA : pf_ln P 17) (lB : pf_ln Q 17) (nz : Q ≠ pf_c 0) (h : ∀ z : Nat, z < 17 → pf_ln P (z + 1) → pf_ln Q (z + 1) → (pf_hd P z ∨ pf_hd Q z) → post (nI z)) : wpX_sizeOf__leftTop_leftBottom post (f_tokenCount, f_latestPlace, f_stepCount, f_waitingCount, f_stackCount, f_factorCount, a_tokenKind, a_tokenContent, a_stepKind, a_stepToken, a_waitingKind, a_waitingToken, a_present, a_cells, a_leftTop, a_leftBottom, a_rightTop, a_rightBottom, a_top, a_bottom, a_product, a_quotient, a_common, a_spare, a_rest, a_divisor, a_inverse, a_numerator, a_factorDegrees, a_factorPowers, a_factorCells) := by
  have cz : ∀ n, pf_ln (pf_c 0) n := fun n k _ => by rw [pf_c0]
  unfold wpX_sizeOf__leftTop_leftBottom
  refine xf_degreeOf__leftTop hA lA (fun z1 => ?_) (fun a ha hP => ?_)
  · refine xf_degreeOf__leftBottom hB lB (fun z2 => absurd z2 nz) (fun b hb hQ => ?_)
    exact br_t (Int32.le_of_lt (fi_nm1 (by omega))) (h b hb (by rw [z1]; exact cz _) hQ.1 (Or.inr hQ))
  · refine xf_degreeOf__leftBottom hB lB (fun z2 => absurd z2 nz) (fun b hb hQ => ?_)
    by_cases c : a ≤ b
    · exact br_t (nI_le c (by omega)) (h b hb (pf_ln_mono hP.1 (by omega)) hQ.1 (Or.inr hQ))
    · exact br_f (nI_ge (by omega) (by omega)) (h a ha hP.1 (pf_ln_mono hQ.1 (by omega)) (Or.inl hP))
theorem xf_sizeOf__rightTop_rightBottom {post : Int32 → Prop} {P Q : PF} (hA : xv a_rightTop P) (hB : xv a_rightBottom Q) (lA : pf_ln P 17) (lB : pf_ln Q 17) (nz : Q ≠ pf_c 0) (h : ∀ z : Nat, z < 17 → pf_ln P (z + 1) → pf_ln Q (z + 1) → (pf_hd P z ∨ pf_hd Q z) → post (nI z)) : wpX_sizeOf__rightTop_rightBottom post (f_tokenCount, f_latestPlace, f_stepCount, f_waitingCount, f_stackCount, f_factorCount, a_tokenKind, a_tokenContent, a_stepKind, a_stepToken, a_waitingKind, a_waitingToken, a_present, a_cells, a_leftTop, a_leftBottom, a_rightTop, a_rightBottom, a_top, a_bottom, a_product, a_quotient, a_common, a_spare, a_rest, a_divisor, a_inverse, a_numerator, a_factorDegrees, a_factorPowers, a_factorCells) := by
  have cz : ∀ n, pf_ln (pf_c 0) n := fun n k _ => by rw [pf_c0]
  unfold wpX_sizeOf__rightTop_rightBottom
  refine xf_degreeOf__rightTop hA lA (fun z1 => ?_) (fun a ha hP => ?_)
  · refine xf_degreeOf__rightBottom hB lB (fun z2 => absurd z2 nz) (fun b hb hQ => ?_)
    exact br_t (Int32.le_of_lt (fi_nm1 (by omega))) (h b hb (by rw [z1]; exact cz _) hQ.1 (Or.inr hQ))
  · refine xf_degreeOf__rightBottom hB lB (fun z2 => absurd z2 nz) (fun b hb hQ => ?_)
    by_cases c : a ≤ b
    · exact br_t (nI_le c (by omega)) (h b hb (pf_ln_mono hP.1 (by omega)) hQ.1 (Or.inr hQ))
    · exact br_f (nI_ge (by omega) (by omega)) (h a ha hP.1 (pf_ln_mono hQ.1 (by omega)) (Or.inl hP))
theorem xf_sizeOf__top_bottom {post : Int32 → Prop} {P Q : PF} (hA : xv a_top P) (hB : xv a_bottom Q) (lA : pf_ln P 17) (lB : pf_ln Q 17) (nz : Q ≠ pf_c 0) (h : ∀ z : Nat, z < 17 → pf_ln P (z + 1) → pf_ln Q (z + 1) → (pf_hd P z ∨ pf_hd Q z) → post (nI z)) : wpX_sizeOf__top_bottom post (f_tokenCount, f_latestPlace, f_stepCount, f_waitingCount, f_stackCount, f_factorCount, a_tokenKind, a_tokenContent, a_stepKind, a_stepToken, a_waitingKind, a_waitingToken, a_present, a_cells, a_leftTop, a_leftBottom, a_rightTop, a_rightBottom, a_top, a_bottom, a_product, a_quotient, a_common, a_spare, a_rest, a_divisor, a_inverse, a_numerator, a_factorDegrees, a_factorPowers, a_factorCells) := by
  have cz : ∀ n, pf_ln (pf_c 0) n := fun n k _ => by rw [pf_c0]
  unfold wpX_sizeOf__top_bottom
  refine xf_degreeOf__top hA lA (fun z1 => ?_) (fun a ha hP => ?_)
  · refine xf_degreeOf__bottom hB lB (fun z2 => absurd z2 nz) (fun b hb hQ => ?_)
    exact br_t (Int32.le_of_lt (fi_nm1 (by omega))) (h b hb (by rw [z1]; exact cz _) hQ.1 (Or.inr hQ))
  · refine xf_degreeOf__bottom hB lB (fun z2 => absurd z2 nz) (fun b hb hQ => ?_)
    by_cases c : a ≤ b
    · exact br_t (nI_le c (by omega)) (h b hb (pf_ln_mono hP.1 (by omega)) hQ.1 (Or.inr hQ))
    · exact br_f (nI_ge (by omega) (by omega)) (h a ha hP.1 (pf_ln_mono hQ.1 (by omega)) (Or.inl hP))
end
