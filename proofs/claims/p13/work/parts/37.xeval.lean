/-! The class's evaluate ends -/
def xw (n : Nat) (a : Nat → Int32) : Prop := n ≤ 24 ∧ ∀ j, j < n → ∃ t, t < 24 ∧ a j = nI t
theorem xw_u {n t : Nat} {a : Nat → Int32} (h : xw n a) (hn : n < 24) (ht : t < 24) : xw (n + 1) (upd a n (nI t)) := by
  refine ⟨by omega, fun j hj => ?_⟩
  by_cases c : j = n
  · subst c; exact ⟨t, ht, pk_us⟩
  · rw [pk_un c]; exact h.2 j (by omega)
theorem xw_m {n m : Nat} {a : Nat → Int32} (h : xw n a) (hm : m ≤ n) : xw m a := ⟨Nat.le_trans hm h.1, fun j hj => h.2 j (by omega)⟩
def xw_b (p : Nat → Int32) : Prop := ∀ j, p j = 0 ∨ p j = 1
theorem xw_b0 {p : Nat → Int32} (h : xw_b p) (k : Nat) : xw_b (upd p k (vp_nar .boolean 0)) := by
  intro j
  by_cases c : j = k
  · subst c; rw [pk_us]; exact Or.inl rfl
  · rw [pk_un c]; exact h j
theorem xw_b1 {p : Nat → Int32} (h : xw_b p) (k : Nat) : xw_b (upd p k (vp_nar .boolean 1)) := by
  intro j
  by_cases c : j = k
  · subst c; rw [pk_us]; exact Or.inr rfl
  · rw [pk_un c]; exact h j
section
variable {f_tokenCount f_latestPlace f_stepCount f_waitingCount f_stackCount f_factorCount : Int32} {a_tokenKind a_tokenContent a_stepKind a_stepToken a_waitingKind a_waitingToken a_present a_cells a_leftTop a_leftBottom a_rightTop a_rightBottom a_top a_bottom a_product a_quotient a_common a_spare a_rest a_divisor a_inverse a_numerator a_factorDegrees a_factorPowers a_factorCells : Nat → Int32}
theorem xl_eo {post : Int32 → Prop} {x : Int32} (h : ∀ r : Int32, post r) : wpX_endsOperand post x :=
  br_c (fun _ => h _) (fun _ => br_c (fun _ => h _) (fun _ => br_c (fun _ => h _) (fun _ => br_c (fun _ => h _) (fun _ => h _))))
theorem xl_rankOf {post : Int32 → Prop} {x : Int32} (h : ∀ r : Int32, post r) : wpX_rankOf post x :=
  br_c (fun _ => h _) (fun _ => br_c (fun _ => h _) (fun _ => br_c (fun _ => h _) (fun _ => br_c (fun _ => h _) (fun _ => h _))))
theorem xl_countOperands {post : Int32 → Prop} {x : Int32} (h : ∀ r : Int32, post r) : wpX_countOperands post x :=
  br_c (fun _ => br_c (fun _ => h _) (fun _ => br_c (fun _ => h _) (fun _ => br_c (fun _ => h _) (fun _ => h _)))) (fun _ => h _)
theorem xl_findSyntaxFault {post : Int32 → Prop} (cnt : Nat) (hc : cnt ≤ 24) (h : ∀ r : Int32, post r) : wpX_findSyntaxFault post (nI cnt, f_latestPlace, f_stepCount, f_waitingCount, f_stackCount, f_factorCount, a_tokenKind, a_tokenContent, a_stepKind, a_stepToken, a_waitingKind, a_waitingToken, a_present, a_cells, a_leftTop, a_leftBottom, a_rightTop, a_rightBottom, a_top, a_bottom, a_product, a_quotient, a_common, a_spare, a_rest, a_divisor, a_inverse, a_numerator, a_factorDegrees, a_factorPowers, a_factorCells) := by
  have key : ∀ d i, ∀ x1 x2 x3 : Int32, i + d = cnt → wX_findSyntaxFault_9 post (nI cnt) f_latestPlace f_stepCount f_waitingCount f_stackCount f_factorCount a_tokenKind a_tokenContent a_stepKind a_stepToken a_waitingKind a_waitingToken a_present a_cells a_leftTop a_leftBottom a_rightTop a_rightBottom a_top a_bottom a_product a_quotient a_common a_spare a_rest a_divisor a_inverse a_numerator a_factorDegrees a_factorPowers a_factorCells (d + 1) x1 x2 x3 (nI i) := by
    intro d
    induction d with
    | zero =>
      intro i x1 x2 x3 hi
      exact br_t (nI_le (by omega) (by omega)) (br_c (fun _ => br_c (fun _ => h _) (fun _ => h _)) (fun _ => h _))
    | succ d ih =>
      intro i x1 x2 x3 hi
      have p123 : ∀ x1 x5 z0 : Int32, wX_findSyntaxFault_123 post (wX_findSyntaxFault_9 post (nI cnt) f_latestPlace f_stepCount f_waitingCount f_stackCount f_factorCount a_tokenKind a_tokenContent a_stepKind a_stepToken a_waitingKind a_waitingToken a_present a_cells a_leftTop a_leftBottom a_rightTop a_rightBottom a_top a_bottom a_product a_quotient a_common a_spare a_rest a_divisor a_inverse a_numerator a_factorDegrees a_factorPowers a_factorCells (d + 1)) x1 (nI i) x5 z0 (nI cnt) f_latestPlace f_stepCount f_waitingCount f_stackCount f_factorCount a_tokenKind a_tokenContent a_stepKind a_stepToken a_waitingKind a_waitingToken a_present a_cells a_leftTop a_leftBottom a_rightTop a_rightBottom a_top a_bottom a_product a_quotient a_common a_spare a_rest a_divisor a_inverse a_numerator a_factorDegrees a_factorPowers a_factorCells := fun x1 x5 z0 =>
        br_c (fun _ => nm_r (nI_1 i) (ih (i + 1) _ _ _ (by omega))) (fun _ => nm_r (nI_1 i) (ih (i + 1) _ _ _ (by omega)))
      have p110 : ∀ x1 x5 : Int32, wX_findSyntaxFault_110 post (wX_findSyntaxFault_9 post (nI cnt) f_latestPlace f_stepCount f_waitingCount f_stackCount f_factorCount a_tokenKind a_tokenContent a_stepKind a_stepToken a_waitingKind a_waitingToken a_present a_cells a_leftTop a_leftBottom a_rightTop a_rightBottom a_top a_bottom a_product a_quotient a_common a_spare a_rest a_divisor a_inverse a_numerator a_factorDegrees a_factorPowers a_factorCells (d + 1)) x1 (nI i) x5 (nI cnt) f_latestPlace f_stepCount f_waitingCount f_stackCount f_factorCount a_tokenKind a_tokenContent a_stepKind a_stepToken a_waitingKind a_waitingToken a_present a_cells a_leftTop a_leftBottom a_rightTop a_rightBottom a_top a_bottom a_product a_quotient a_common a_spare a_rest a_divisor a_inverse a_numerator a_factorDegrees a_factorPowers a_factorCells := fun x1 x5 =>
        xl_eo (fun _ => br_c (fun _ => p123 _ _ _) (fun _ => p123 _ _ _))
      have p81 : ∀ x1 x5 x6 : Int32, wX_findSyntaxFault_81 post (wX_findSyntaxFault_9 post (nI cnt) f_latestPlace f_stepCount f_waitingCount f_stackCount f_factorCount a_tokenKind a_tokenContent a_stepKind a_stepToken a_waitingKind a_waitingToken a_present a_cells a_leftTop a_leftBottom a_rightTop a_rightBottom a_top a_bottom a_product a_quotient a_common a_spare a_rest a_divisor a_inverse a_numerator a_factorDegrees a_factorPowers a_factorCells (d + 1)) x1 (nI i) x5 x6 (nI cnt) f_latestPlace f_stepCount f_waitingCount f_stackCount f_factorCount a_tokenKind a_tokenContent a_stepKind a_stepToken a_waitingKind a_waitingToken a_present a_cells a_leftTop a_leftBottom a_rightTop a_rightBottom a_top a_bottom a_product a_quotient a_common a_spare a_rest a_divisor a_inverse a_numerator a_factorDegrees a_factorPowers a_factorCells := fun x1 x5 x6 =>
        br_c (fun _ => h _) (fun _ => br_c (fun _ => nm_e (p110 _ _)) (fun _ => br_c (fun _ => nm_e (p110 _ _)) (fun _ => p110 _ _)))
      refine br_f (nI_ge (by omega) (by omega)) ⟨vp_in_nI (by omega) (by omega), nm_e ?_⟩
      exact br_c (fun _ => br_c (fun _ => p81 _ _ 1) (fun _ => br_c (fun _ => br_c (fun _ => p81 _ _ 0) (fun _ => p81 _ _ 1)) (fun _ => p81 _ _ 0))) (fun _ => br_c (fun _ => p81 _ _ 1) (fun _ => br_c (fun _ => br_c (fun _ => p81 _ _ 0) (fun _ => p81 _ _ 1)) (fun _ => p81 _ _ 0)))
  exact ⟨cnt + 1, key cnt 0 _ _ _ (by omega)⟩
theorem xl_addStep {post : SX → Prop} {x y : Int32} (sc t : Nat) (ht : t < 24) (w : xw sc a_stepToken) (h : ∀ (sc' : Nat) (a_stepKind a_stepToken : Nat → Int32), xw sc' a_stepToken → post (f_tokenCount, f_latestPlace, nI sc', f_waitingCount, f_stackCount, f_factorCount, a_tokenKind, a_tokenContent, a_stepKind, a_stepToken, a_waitingKind, a_waitingToken, a_present, a_cells, a_leftTop, a_leftBottom, a_rightTop, a_rightBottom, a_top, a_bottom, a_product, a_quotient, a_common, a_spare, a_rest, a_divisor, a_inverse, a_numerator, a_factorDegrees, a_factorPowers, a_factorCells)) (ey : y = nI t := by rfl) : wpX_addStep post (f_tokenCount, f_latestPlace, nI sc, f_waitingCount, f_stackCount, f_factorCount, a_tokenKind, a_tokenContent, a_stepKind, a_stepToken, a_waitingKind, a_waitingToken, a_present, a_cells, a_leftTop, a_leftBottom, a_rightTop, a_rightBottom, a_top, a_bottom, a_product, a_quotient, a_common, a_spare, a_rest, a_divisor, a_inverse, a_numerator, a_factorDegrees, a_factorPowers, a_factorCells) x y := by
  subst ey
  unfold wpX_addStep
  dsimp only
  have hs := w.1
  by_cases c : sc < 24
  · refine br_f (nI_ge (b := 24) c (by decide)) ⟨vp_in_nI c (by omega), nm_e ⟨vp_in_nI c (by omega), nm_e (nm_r (nI_1 sc) (h (sc + 1) _ _ ?_))⟩⟩
    rw [nI_clamp (by omega)]; exact xw_u w c ht
  · exact br_t (nI_le (a := 24) (by omega) (by omega)) (h sc _ _ w)
theorem xl_holdBack {post : SX → Prop} {x y : Int32} (wc t : Nat) (ht : t < 24) (w : xw wc a_waitingToken) (h : ∀ (wc' : Nat) (a_waitingKind a_waitingToken : Nat → Int32), xw wc' a_waitingToken → post (f_tokenCount, f_latestPlace, f_stepCount, nI wc', f_stackCount, f_factorCount, a_tokenKind, a_tokenContent, a_stepKind, a_stepToken, a_waitingKind, a_waitingToken, a_present, a_cells, a_leftTop, a_leftBottom, a_rightTop, a_rightBottom, a_top, a_bottom, a_product, a_quotient, a_common, a_spare, a_rest, a_divisor, a_inverse, a_numerator, a_factorDegrees, a_factorPowers, a_factorCells)) (ey : y = nI t := by rfl) : wpX_holdBack post (f_tokenCount, f_latestPlace, f_stepCount, nI wc, f_stackCount, f_factorCount, a_tokenKind, a_tokenContent, a_stepKind, a_stepToken, a_waitingKind, a_waitingToken, a_present, a_cells, a_leftTop, a_leftBottom, a_rightTop, a_rightBottom, a_top, a_bottom, a_product, a_quotient, a_common, a_spare, a_rest, a_divisor, a_inverse, a_numerator, a_factorDegrees, a_factorPowers, a_factorCells) x y := by
  subst ey
  unfold wpX_holdBack
  dsimp only
  have hs := w.1
  by_cases c : wc < 24
  · refine br_f (nI_ge (b := 24) c (by decide)) ⟨vp_in_nI c (by omega), nm_e ⟨vp_in_nI c (by omega), nm_e (nm_r (nI_1 wc) (h (wc + 1) _ _ ?_))⟩⟩
    rw [nI_clamp (by omega)]; exact xw_u w c ht
  · exact br_t (nI_le (a := 24) (by omega) (by omega)) (h wc _ _ w)
theorem xl_dropOpen {post : SX → Prop} (wc : Nat) (w : xw wc a_waitingToken) (h : ∀ wc' : Nat, xw wc' a_waitingToken → post (f_tokenCount, f_latestPlace, f_stepCount, nI wc', f_stackCount, f_factorCount, a_tokenKind, a_tokenContent, a_stepKind, a_stepToken, a_waitingKind, a_waitingToken, a_present, a_cells, a_leftTop, a_leftBottom, a_rightTop, a_rightBottom, a_top, a_bottom, a_product, a_quotient, a_common, a_spare, a_rest, a_divisor, a_inverse, a_numerator, a_factorDegrees, a_factorPowers, a_factorCells)) : wpX_dropOpen post (f_tokenCount, f_latestPlace, f_stepCount, nI wc, f_stackCount, f_factorCount, a_tokenKind, a_tokenContent, a_stepKind, a_stepToken, a_waitingKind, a_waitingToken, a_present, a_cells, a_leftTop, a_leftBottom, a_rightTop, a_rightBottom, a_top, a_bottom, a_product, a_quotient, a_common, a_spare, a_rest, a_divisor, a_inverse, a_numerator, a_factorDegrees, a_factorPowers, a_factorCells) := by
  unfold wpX_dropOpen
  dsimp only
  have hs := w.1
  cases wc with
  | zero => exact br_t (by decide) (h 0 w)
  | succ q => exact br_f (nI_nle (by omega) (by omega)) (nm_r (nI_pred q) (h q (xw_m w (by omega))))
theorem xl_releaseSteps {post : SX → Prop} {x : Int32} (sc wc : Nat) (ws : xw sc a_stepToken) (ww : xw wc a_waitingToken) (h : ∀ (sc' wc' : Nat) (a_stepKind a_stepToken : Nat → Int32), xw sc' a_stepToken → xw wc' a_waitingToken → post (f_tokenCount, f_latestPlace, nI sc', nI wc', f_stackCount, f_factorCount, a_tokenKind, a_tokenContent, a_stepKind, a_stepToken, a_waitingKind, a_waitingToken, a_present, a_cells, a_leftTop, a_leftBottom, a_rightTop, a_rightBottom, a_top, a_bottom, a_product, a_quotient, a_common, a_spare, a_rest, a_divisor, a_inverse, a_numerator, a_factorDegrees, a_factorPowers, a_factorCells)) : wpX_releaseSteps post (f_tokenCount, f_latestPlace, nI sc, nI wc, f_stackCount, f_factorCount, a_tokenKind, a_tokenContent, a_stepKind, a_stepToken, a_waitingKind, a_waitingToken, a_present, a_cells, a_leftTop, a_leftBottom, a_rightTop, a_rightBottom, a_top, a_bottom, a_product, a_quotient, a_common, a_spare, a_rest, a_divisor, a_inverse, a_numerator, a_factorDegrees, a_factorPowers, a_factorCells) x := by
  have key : ∀ j, ∀ (sc w : Nat) (a_stepKind a_stepToken : Nat → Int32), j ≤ w → xw sc a_stepToken → xw w a_waitingToken → wX_releaseSteps_7 post x (j + 1) (nI j + (-1)) f_tokenCount f_latestPlace (nI sc) (nI w) f_stackCount f_factorCount a_tokenKind a_tokenContent a_stepKind a_stepToken a_waitingKind a_waitingToken a_present a_cells a_leftTop a_leftBottom a_rightTop a_rightBottom a_top a_bottom a_product a_quotient a_common a_spare a_rest a_divisor a_inverse a_numerator a_factorDegrees a_factorPowers a_factorCells := by
    intro j
    induction j with
    | zero =>
      intro sc w a_stepKind a_stepToken _ h1 h2
      have e0 : nI 0 + (-1) = -1 := by decide
      rw [e0]
      exact br_t (by decide) (h sc w _ _ h1 h2)
    | succ j ih =>
      intro sc w a_stepKind a_stepToken hj h1 h2
      have h24 := h2.1
      obtain ⟨t, ht, et⟩ := h2.2 j (by omega)
      rw [pk_m1]
      refine br_f (nI_pos (by omega)) ⟨vp_in_nI (by omega) (by omega), nm_e (xl_rankOf (fun _ => br_c (fun _ => ⟨vp_in_nI (by omega) (by omega), ?_⟩) (fun _ => h sc w _ _ h1 h2)))⟩
      refine xl_addStep sc t ht h1 (fun sc' a_stepKind a_stepToken w' => nm_e (ih sc' j _ _ (Nat.le_refl _) w' (xw_m h2 (by omega)))) ?_
      rw [nI_clamp (by omega), et]
  have hs := ww.1
  unfold wpX_releaseSteps
  have e : nI wc - 1 = nI wc + (-1) := by
    cases wc with
    | zero => decide
    | succ q => rw [nI_pred, pk_m1]
  exact nm_r e ⟨wc + 1, key wc sc wc _ _ (Nat.le_refl _) ws ww⟩
theorem xl_orderSteps {post : SX → Prop} (cnt : Nat) (hc : cnt ≤ 24) (h : ∀ (sc wc : Nat) (a_stepKind a_stepToken a_waitingKind a_waitingToken : Nat → Int32), xw sc a_stepToken → post (nI cnt, f_latestPlace, nI sc, nI wc, f_stackCount, f_factorCount, a_tokenKind, a_tokenContent, a_stepKind, a_stepToken, a_waitingKind, a_waitingToken, a_present, a_cells, a_leftTop, a_leftBottom, a_rightTop, a_rightBottom, a_top, a_bottom, a_product, a_quotient, a_common, a_spare, a_rest, a_divisor, a_inverse, a_numerator, a_factorDegrees, a_factorPowers, a_factorCells)) : wpX_orderSteps post (nI cnt, f_latestPlace, f_stepCount, f_waitingCount, f_stackCount, f_factorCount, a_tokenKind, a_tokenContent, a_stepKind, a_stepToken, a_waitingKind, a_waitingToken, a_present, a_cells, a_leftTop, a_leftBottom, a_rightTop, a_rightBottom, a_top, a_bottom, a_product, a_quotient, a_common, a_spare, a_rest, a_divisor, a_inverse, a_numerator, a_factorDegrees, a_factorPowers, a_factorCells) := by
  have key : ∀ d i, ∀ (x1 : Int32) (sc wc : Nat) (a_stepKind a_stepToken a_waitingKind a_waitingToken : Nat → Int32), i + d = cnt → xw sc a_stepToken → xw wc a_waitingToken → wX_orderSteps_14 post (d + 1) x1 (nI i) (nI cnt) f_latestPlace (nI sc) (nI wc) f_stackCount f_factorCount a_tokenKind a_tokenContent a_stepKind a_stepToken a_waitingKind a_waitingToken a_present a_cells a_leftTop a_leftBottom a_rightTop a_rightBottom a_top a_bottom a_product a_quotient a_common a_spare a_rest a_divisor a_inverse a_numerator a_factorDegrees a_factorPowers a_factorCells := by
    intro d
    induction d with
    | zero =>
      intro i x1 sc wc a_stepKind a_stepToken a_waitingKind a_waitingToken hi h1 h2
      exact br_t (nI_le (by omega) (by omega)) (xl_releaseSteps sc wc h1 h2 (fun sc' wc' a_stepKind a_stepToken w1 w2 => h sc' wc' _ _ _ _ w1))
    | succ d ih =>
      intro i x1 sc wc a_stepKind a_stepToken a_waitingKind a_waitingToken hi h1 h2
      have p54 : ∀ x3 z0 : Int32, wX_orderSteps_54 post (wX_orderSteps_14 post (d + 1)) (nI i) x3 z0 (nI cnt) f_latestPlace (nI sc) (nI wc) f_stackCount f_factorCount a_tokenKind a_tokenContent a_stepKind a_stepToken a_waitingKind a_waitingToken a_present a_cells a_leftTop a_leftBottom a_rightTop a_rightBottom a_top a_bottom a_product a_quotient a_common a_spare a_rest a_divisor a_inverse a_numerator a_factorDegrees a_factorPowers a_factorCells := by
        intro x3 z0
        unfold wX_orderSteps_54
        have p108 : wX_orderSteps_108 post (wX_orderSteps_14 post (d + 1)) z0 (nI i) x3 (nI cnt) f_latestPlace (nI sc) (nI wc) f_stackCount f_factorCount a_tokenKind a_tokenContent a_stepKind a_stepToken a_waitingKind a_waitingToken a_present a_cells a_leftTop a_leftBottom a_rightTop a_rightBottom a_top a_bottom a_product a_quotient a_common a_spare a_rest a_divisor a_inverse a_numerator a_factorDegrees a_factorPowers a_factorCells :=
          xl_addStep sc i (by omega) h1 (fun sc' a_stepKind a_stepToken w' => nm_r (nI_1 i) (ih (i + 1) _ sc' wc _ _ _ _ (by omega) w' h2))
        have p134 : wX_orderSteps_134 post (wX_orderSteps_14 post (d + 1)) z0 (nI i) x3 (nI cnt) f_latestPlace (nI sc) (nI wc) f_stackCount f_factorCount a_tokenKind a_tokenContent a_stepKind a_stepToken a_waitingKind a_waitingToken a_present a_cells a_leftTop a_leftBottom a_rightTop a_rightBottom a_top a_bottom a_product a_quotient a_common a_spare a_rest a_divisor a_inverse a_numerator a_factorDegrees a_factorPowers a_factorCells :=
          xl_holdBack wc i (by omega) h2 (fun wc' a_waitingKind a_waitingToken w' => nm_r (nI_1 i) (ih (i + 1) _ sc wc' _ _ _ _ (by omega) h1 w'))
        refine br_c (fun _ => br_c (fun _ => ?_) (fun _ => br_c (fun _ => p108) (fun _ => br_c (fun _ => p108) (fun _ => br_c (fun _ => p134) (fun _ => br_c (fun _ => p134) (fun _ => br_c (fun _ => p134) (fun _ => ?_))))))) (fun _ => ?_)
        · exact xl_releaseSteps sc wc h1 h2 (fun sc' wc' a_stepKind a_stepToken w1 w2 => xl_dropOpen wc' w2 (fun wc2 w3 => xl_releaseSteps sc' wc2 w1 w3 (fun sc3 wc3 a_stepKind a_stepToken w4 w5 => nm_r (nI_1 i) (ih (i + 1) _ sc3 wc3 _ _ _ _ (by omega) w4 w5))))
        · exact xl_rankOf (fun _ => xl_releaseSteps sc wc h1 h2 (fun sc' wc' a_stepKind a_stepToken w1 w2 => xl_holdBack wc' i (by omega) w2 (fun wc2 a_waitingKind a_waitingToken w3 => nm_r (nI_1 i) (ih (i + 1) _ sc' wc2 _ _ _ _ (by omega) w1 w3))))
        · exact xl_addStep sc i (by omega) h1 (fun sc' a_stepKind a_stepToken w' => xl_releaseSteps sc' wc w' h2 (fun sc3 wc3 a_stepKind a_stepToken w4 w5 => nm_r (nI_1 i) (ih (i + 1) _ sc3 wc3 _ _ _ _ (by omega) w4 w5)))
      have p42 : ∀ x3 : Int32, wX_orderSteps_42 post (wX_orderSteps_14 post (d + 1)) (nI i) x3 (nI cnt) f_latestPlace (nI sc) (nI wc) f_stackCount f_factorCount a_tokenKind a_tokenContent a_stepKind a_stepToken a_waitingKind a_waitingToken a_present a_cells a_leftTop a_leftBottom a_rightTop a_rightBottom a_top a_bottom a_product a_quotient a_common a_spare a_rest a_divisor a_inverse a_numerator a_factorDegrees a_factorPowers a_factorCells := fun x3 =>
        xl_eo (fun _ => br_c (fun _ => p54 _ _) (fun _ => p54 _ _))
      exact br_f (nI_ge (by omega) (by omega)) ⟨vp_in_nI (by omega) (by omega), nm_e (br_c (fun _ => br_c (fun _ => p42 _) (fun _ => p42 _)) (fun _ => p42 _))⟩
  have z : ∀ a : Nat → Int32, xw 0 a := fun a => ⟨by omega, fun j hj => by omega⟩
  exact ⟨cnt + 1, key cnt 0 1 0 0 _ _ _ _ (by omega) (z _) (z _)⟩
theorem xl_evaluate {post : Int32 → SX → Prop} (cnt : Nat) (hc : cnt ≤ 24) (hb : xw_b a_present) (h : ∀ (r f_latestPlace f_stepCount f_waitingCount f_stackCount : Int32) (a_stepKind a_stepToken a_waitingKind a_waitingToken a_present a_cells : Nat → Int32), ∀ a_leftTop a_leftBottom a_rightTop a_rightBottom a_top a_bottom a_product a_quotient a_common a_spare a_rest a_divisor a_inverse a_numerator : Nat → Int32, xw_b a_present → post r (nI cnt, f_latestPlace, f_stepCount, f_waitingCount, f_stackCount, f_factorCount, a_tokenKind, a_tokenContent, a_stepKind, a_stepToken, a_waitingKind, a_waitingToken, a_present, a_cells, a_leftTop, a_leftBottom, a_rightTop, a_rightBottom, a_top, a_bottom, a_product, a_quotient, a_common, a_spare, a_rest, a_divisor, a_inverse, a_numerator, a_factorDegrees, a_factorPowers, a_factorCells)) : wpX_evaluate post (nI cnt, f_latestPlace, f_stepCount, f_waitingCount, f_stackCount, f_factorCount, a_tokenKind, a_tokenContent, a_stepKind, a_stepToken, a_waitingKind, a_waitingToken, a_present, a_cells, a_leftTop, a_leftBottom, a_rightTop, a_rightBottom, a_top, a_bottom, a_product, a_quotient, a_common, a_spare, a_rest, a_divisor, a_inverse, a_numerator, a_factorDegrees, a_factorPowers, a_factorCells) := by
  unfold wpX_evaluate
  refine nm_e (xl_findSyntaxFault cnt hc (fun r => br_c (fun _ => ?_) (fun _ => h _ _ _ _ _ _ _ _ _ _ _ _ _ _ _ _ _ _ _ _ _ _ _ _ _ (xw_b0 hb 6))))
  refine xl_orderSteps cnt hc (fun sc wc a_stepKind a_stepToken a_waitingKind a_waitingToken w => ?_)
  have key : ∀ d i, ∀ (f_latestPlace f_stackCount : Int32) (a_present a_cells : Nat → Int32), ∀ a_leftTop a_leftBottom a_rightTop a_rightBottom a_top a_bottom a_product a_quotient a_common a_spare a_rest a_divisor a_inverse a_numerator : Nat → Int32, xw_b a_present → i + d = sc → wX_evaluate_36 post (d + 1) (nI i) (nI cnt) f_latestPlace (nI sc) (nI wc) f_stackCount f_factorCount a_tokenKind a_tokenContent a_stepKind a_stepToken a_waitingKind a_waitingToken a_present a_cells a_leftTop a_leftBottom a_rightTop a_rightBottom a_top a_bottom a_product a_quotient a_common a_spare a_rest a_divisor a_inverse a_numerator a_factorDegrees a_factorPowers a_factorCells := by
    intro d
    induction d with
    | zero =>
      intro i f_latestPlace f_stackCount a_present a_cells a_leftTop a_leftBottom a_rightTop a_rightBottom a_top a_bottom a_product a_quotient a_common a_spare a_rest a_divisor a_inverse a_numerator hb hi
      have h24 := w.1
      exact br_t (nI_le (by omega) (by omega)) (xl_copySlot 7 6 (by omega) (by omega) (fun a_cells => nm_e (h _ _ _ _ _ _ _ _ _ _ _ _ _ _ _ _ _ _ _ _ _ _ _ _ _ (xw_b1 hb 6))))
    | succ d ih =>
      intro i f_latestPlace f_stackCount a_present a_cells a_leftTop a_leftBottom a_rightTop a_rightBottom a_top a_bottom a_product a_quotient a_common a_spare a_rest a_divisor a_inverse a_numerator hb hi
      have h24 := w.1
      obtain ⟨t, ht, et⟩ := w.2 i (by omega)
      have i24 : vp_in (nI i) 24 := vp_in_nI (by omega) (by omega)
      have it : vp_in (a_stepToken (nI i).toNatClampNeg) 24 := by
        rw [nI_clamp (by omega), et]; exact vp_in_nI ht (by omega)
      have p91 : ∀ (x3 f_latestPlace f_stackCount : Int32) (a_present a_cells : Nat → Int32), ∀ a_leftTop a_leftBottom a_rightTop a_rightBottom a_top a_bottom a_product a_quotient a_common a_spare a_rest a_divisor a_inverse a_numerator : Nat → Int32, xw_b a_present → wX_evaluate_91 post (wX_evaluate_36 post (d + 1)) (nI i) x3 (nI cnt) f_latestPlace (nI sc) (nI wc) f_stackCount f_factorCount a_tokenKind a_tokenContent a_stepKind a_stepToken a_waitingKind a_waitingToken a_present a_cells a_leftTop a_leftBottom a_rightTop a_rightBottom a_top a_bottom a_product a_quotient a_common a_spare a_rest a_divisor a_inverse a_numerator a_factorDegrees a_factorPowers a_factorCells := fun x3 f_latestPlace f_stackCount a_present a_cells a_leftTop a_leftBottom a_rightTop a_rightBottom a_top a_bottom a_product a_quotient a_common a_spare a_rest a_divisor a_inverse a_numerator hb =>
        br_c (fun _ => nm_r (nI_1 i) (ih (i + 1) _ _ _ _ _ _ _ _ _ _ _ _ _ _ _ _ _ _ hb (by omega))) (fun _ => ⟨i24, nm_e (h _ _ _ _ _ _ _ _ _ _ _ _ _ _ _ _ _ _ _ _ _ _ _ _ _ hb)⟩)
      exact br_f (nI_ge (by omega) (by omega)) ⟨i24, xl_countOperands (fun _ => xl_loadOperands (fun a_leftTop a_leftBottom a_rightTop a_rightBottom a_top a_bottom a_product a_quotient a_common a_spare a_rest a_divisor a_inverse a_numerator => ⟨i24, i24, it, xl_work (fun r a_leftTop a_leftBottom a_rightTop a_rightBottom a_top a_bottom a_product a_quotient a_common a_spare a_rest a_divisor a_inverse a_numerator => br_c (fun _ => xl_settle (fun r f_stackCount a_cells a_leftTop a_leftBottom a_rightTop a_rightBottom a_top a_bottom a_product a_quotient a_common a_spare a_rest a_divisor a_inverse a_numerator => p91 _ _ _ _ _ _ _ _ _ _ _ _ _ _ _ _ _ _ _ hb)) (fun _ => p91 _ _ _ _ _ _ _ _ _ _ _ _ _ _ _ _ _ _ _ hb))⟩))⟩
  exact ⟨sc + 1, key sc 0 _ _ _ _ _ _ _ _ _ _ _ _ _ _ _ _ _ _ (xw_b0 hb 6) (by omega)⟩
end
