/-! The class's factors and fractions end -/
section
variable {f_tokenCount f_latestPlace f_stepCount f_waitingCount f_stackCount f_factorCount : Int32} {a_tokenKind a_tokenContent a_stepKind a_stepToken a_waitingKind a_waitingToken a_present a_cells a_leftTop a_leftBottom a_rightTop a_rightBottom a_top a_bottom a_product a_quotient a_common a_spare a_rest a_divisor a_inverse a_numerator a_factorDegrees a_factorPowers a_factorCells : Nat → Int32}
theorem xl_addFactor__divisor {post : SX → Prop} {p1 p2 : Int32} (fc : Nat) (hf : fc ≤ 8) (h : ∀ (fc' : Nat) (a_factorDegrees a_factorPowers a_factorCells : Nat → Int32), fc' ≤ 8 → post (f_tokenCount, f_latestPlace, f_stepCount, f_waitingCount, f_stackCount, nI fc', a_tokenKind, a_tokenContent, a_stepKind, a_stepToken, a_waitingKind, a_waitingToken, a_present, a_cells, a_leftTop, a_leftBottom, a_rightTop, a_rightBottom, a_top, a_bottom, a_product, a_quotient, a_common, a_spare, a_rest, a_divisor, a_inverse, a_numerator, a_factorDegrees, a_factorPowers, a_factorCells)) : wpX_addFactor__divisor post (f_tokenCount, f_latestPlace, f_stepCount, f_waitingCount, f_stackCount, nI fc, a_tokenKind, a_tokenContent, a_stepKind, a_stepToken, a_waitingKind, a_waitingToken, a_present, a_cells, a_leftTop, a_leftBottom, a_rightTop, a_rightBottom, a_top, a_bottom, a_product, a_quotient, a_common, a_spare, a_rest, a_divisor, a_inverse, a_numerator, a_factorDegrees, a_factorPowers, a_factorCells) p1 p2 := by
  have e9 : nI fc * 9 = nI (fc * 9) := pk_mul fc 9
  unfold wpX_addFactor__divisor
  by_cases c : fc < 8
  · have key : ∀ d j, ∀ (a_factorDegrees a_factorPowers a_factorCells : Nat → Int32), j + d = 9 → wX_addFactor__divisor_32 post f_tokenCount f_latestPlace f_stepCount f_waitingCount f_stackCount (nI fc) (d + 1) (nI j) a_tokenKind a_tokenContent a_stepKind a_stepToken a_waitingKind a_waitingToken a_present a_cells a_leftTop a_leftBottom a_rightTop a_rightBottom a_top a_bottom a_product a_quotient a_common a_spare a_rest a_divisor a_inverse a_numerator a_factorDegrees a_factorPowers a_factorCells := by
      intro d
      induction d with
      | zero =>
        intro j a_factorDegrees a_factorPowers a_factorCells hj
        obtain rfl : j = 9 := by omega
        exact br_t (by decide) (nm_r (nI_1 fc) (h (fc + 1) _ _ _ (by omega)))
      | succ d ih =>
        intro j a_factorDegrees a_factorPowers a_factorCells hj
        exact br_f (nI_ge (b := 9) (by omega) (by decide)) ⟨vp_in_nI (by omega) (by omega), pk_in (fc * 9 + j) 72 (by omega) (by rw [e9, nI_add]), nm_e (nm_r (nI_1 j) (ih (j + 1) _ _ _ (by omega)))⟩
    exact br_f (nI_ge (b := 8) c (by decide)) ⟨vp_in_nI c (by omega), nm_e ⟨vp_in_nI c (by omega), nm_e ⟨10, key 9 0 _ _ _ rfl⟩⟩⟩
  · exact br_t (nI_le (a := 8) (by omega) (by omega)) (h fc _ _ _ hf)
theorem xl_addFactor__rest {post : SX → Prop} {p1 p2 : Int32} (fc : Nat) (hf : fc ≤ 8) (h : ∀ (fc' : Nat) (a_factorDegrees a_factorPowers a_factorCells : Nat → Int32), fc' ≤ 8 → post (f_tokenCount, f_latestPlace, f_stepCount, f_waitingCount, f_stackCount, nI fc', a_tokenKind, a_tokenContent, a_stepKind, a_stepToken, a_waitingKind, a_waitingToken, a_present, a_cells, a_leftTop, a_leftBottom, a_rightTop, a_rightBottom, a_top, a_bottom, a_product, a_quotient, a_common, a_spare, a_rest, a_divisor, a_inverse, a_numerator, a_factorDegrees, a_factorPowers, a_factorCells)) : wpX_addFactor__rest post (f_tokenCount, f_latestPlace, f_stepCount, f_waitingCount, f_stackCount, nI fc, a_tokenKind, a_tokenContent, a_stepKind, a_stepToken, a_waitingKind, a_waitingToken, a_present, a_cells, a_leftTop, a_leftBottom, a_rightTop, a_rightBottom, a_top, a_bottom, a_product, a_quotient, a_common, a_spare, a_rest, a_divisor, a_inverse, a_numerator, a_factorDegrees, a_factorPowers, a_factorCells) p1 p2 := by
  have e9 : nI fc * 9 = nI (fc * 9) := pk_mul fc 9
  unfold wpX_addFactor__rest
  by_cases c : fc < 8
  · have key : ∀ d j, ∀ (a_factorDegrees a_factorPowers a_factorCells : Nat → Int32), j + d = 9 → wX_addFactor__rest_32 post f_tokenCount f_latestPlace f_stepCount f_waitingCount f_stackCount (nI fc) (d + 1) (nI j) a_tokenKind a_tokenContent a_stepKind a_stepToken a_waitingKind a_waitingToken a_present a_cells a_leftTop a_leftBottom a_rightTop a_rightBottom a_top a_bottom a_product a_quotient a_common a_spare a_rest a_divisor a_inverse a_numerator a_factorDegrees a_factorPowers a_factorCells := by
      intro d
      induction d with
      | zero =>
        intro j a_factorDegrees a_factorPowers a_factorCells hj
        obtain rfl : j = 9 := by omega
        exact br_t (by decide) (nm_r (nI_1 fc) (h (fc + 1) _ _ _ (by omega)))
      | succ d ih =>
        intro j a_factorDegrees a_factorPowers a_factorCells hj
        exact br_f (nI_ge (b := 9) (by omega) (by decide)) ⟨vp_in_nI (by omega) (by omega), pk_in (fc * 9 + j) 72 (by omega) (by rw [e9, nI_add]), nm_e (nm_r (nI_1 j) (ih (j + 1) _ _ _ (by omega)))⟩
    exact br_f (nI_ge (b := 8) c (by decide)) ⟨vp_in_nI c (by omega), nm_e ⟨vp_in_nI c (by omega), nm_e ⟨10, key 9 0 _ _ _ rfl⟩⟩⟩
  · exact br_t (nI_le (a := 8) (by omega) (by omega)) (h fc _ _ _ hf)
theorem xl_takeOut {post : SX → Prop} {x : Int32} (fc : Nat) (hf : fc ≤ 8) (h : ∀ (fc' : Nat) (a_factorDegrees a_factorPowers a_factorCells : Nat → Int32), ∀ a_leftTop a_leftBottom a_rightTop a_rightBottom a_top a_bottom a_product a_quotient a_common a_spare a_rest a_divisor a_inverse a_numerator : Nat → Int32, fc' ≤ 8 → post (f_tokenCount, f_latestPlace, f_stepCount, f_waitingCount, f_stackCount, nI fc', a_tokenKind, a_tokenContent, a_stepKind, a_stepToken, a_waitingKind, a_waitingToken, a_present, a_cells, a_leftTop, a_leftBottom, a_rightTop, a_rightBottom, a_top, a_bottom, a_product, a_quotient, a_common, a_spare, a_rest, a_divisor, a_inverse, a_numerator, a_factorDegrees, a_factorPowers, a_factorCells)) : wpX_takeOut post (f_tokenCount, f_latestPlace, f_stepCount, f_waitingCount, f_stackCount, nI fc, a_tokenKind, a_tokenContent, a_stepKind, a_stepToken, a_waitingKind, a_waitingToken, a_present, a_cells, a_leftTop, a_leftBottom, a_rightTop, a_rightBottom, a_top, a_bottom, a_product, a_quotient, a_common, a_spare, a_rest, a_divisor, a_inverse, a_numerator, a_factorDegrees, a_factorPowers, a_factorCells) x := by
  have p70 : ∀ x2 : Int32, ∀ a_leftTop a_leftBottom a_rightTop a_rightBottom a_top a_bottom a_product a_quotient a_common a_spare a_rest a_divisor a_inverse a_numerator : Nat → Int32, wX_takeOut_70 post x x2 f_tokenCount f_latestPlace f_stepCount f_waitingCount f_stackCount (nI fc) a_tokenKind a_tokenContent a_stepKind a_stepToken a_waitingKind a_waitingToken a_present a_cells a_leftTop a_leftBottom a_rightTop a_rightBottom a_top a_bottom a_product a_quotient a_common a_spare a_rest a_divisor a_inverse a_numerator a_factorDegrees a_factorPowers a_factorCells := by
    intro x2 a_leftTop a_leftBottom a_rightTop a_rightBottom a_top a_bottom a_product a_quotient a_common a_spare a_rest a_divisor a_inverse a_numerator
    exact br_c (fun _ => h fc _ _ _ _ _ _ _ _ _ _ _ _ _ _ _ _ _ hf) (fun _ => xl_addFactor__divisor fc hf (fun fc' a_factorDegrees a_factorPowers a_factorCells hf' => h fc' _ _ _ _ _ _ _ _ _ _ _ _ _ _ _ _ _ hf'))
  have key : ∀ d j, ∀ x2 : Int32, ∀ a_leftTop a_leftBottom a_rightTop a_rightBottom a_top a_bottom a_product a_quotient a_common a_spare a_rest a_divisor a_inverse a_numerator : Nat → Int32, j + d = 8 → wX_takeOut_4 post x (d + 1) x2 (nI j) f_tokenCount f_latestPlace f_stepCount f_waitingCount f_stackCount (nI fc) a_tokenKind a_tokenContent a_stepKind a_stepToken a_waitingKind a_waitingToken a_present a_cells a_leftTop a_leftBottom a_rightTop a_rightBottom a_top a_bottom a_product a_quotient a_common a_spare a_rest a_divisor a_inverse a_numerator a_factorDegrees a_factorPowers a_factorCells := by
    intro d
    induction d with
    | zero =>
      intro j x2 a_leftTop a_leftBottom a_rightTop a_rightBottom a_top a_bottom a_product a_quotient a_common a_spare a_rest a_divisor a_inverse a_numerator hj
      exact br_t (nI_le (a := 8) (by omega) (by omega)) (p70 _ _ _ _ _ _ _ _ _ _ _ _ _ _ _)
    | succ d ih =>
      intro j x2 a_leftTop a_leftBottom a_rightTop a_rightBottom a_top a_bottom a_product a_quotient a_common a_spare a_rest a_divisor a_inverse a_numerator hj
      exact br_f (nI_ge (b := 8) (by omega) (by omega)) (xl_copy__rest_spare (fun a_spare => xl_divide__spare_divisor_quotient (fun a_spare a_quotient => xl_degreeOf__spare (fun _ _ => br_c (fun _ => xl_copy__quotient_rest (fun a_rest => nm_e (nm_r (nI_1 j) (ih (j + 1) _ _ _ _ _ _ _ _ _ _ _ _ _ _ _ (by omega))))) (fun _ => p70 _ _ _ _ _ _ _ _ _ _ _ _ _ _ _)))))
  exact ⟨9, key 8 0 0 _ _ _ _ _ _ _ _ _ _ _ _ _ _ rfl⟩
theorem xl_setMonic {post : SX → Prop} {y z : Int32} (d : Nat) (hd : d < 17) (h : ∀ a_divisor : Nat → Int32, post (f_tokenCount, f_latestPlace, f_stepCount, f_waitingCount, f_stackCount, f_factorCount, a_tokenKind, a_tokenContent, a_stepKind, a_stepToken, a_waitingKind, a_waitingToken, a_present, a_cells, a_leftTop, a_leftBottom, a_rightTop, a_rightBottom, a_top, a_bottom, a_product, a_quotient, a_common, a_spare, a_rest, a_divisor, a_inverse, a_numerator, a_factorDegrees, a_factorPowers, a_factorCells)) (ey : y = nI d := by rfl) : wpX_setMonic__divisor post (f_tokenCount, f_latestPlace, f_stepCount, f_waitingCount, f_stackCount, f_factorCount, a_tokenKind, a_tokenContent, a_stepKind, a_stepToken, a_waitingKind, a_waitingToken, a_present, a_cells, a_leftTop, a_leftBottom, a_rightTop, a_rightBottom, a_top, a_bottom, a_product, a_quotient, a_common, a_spare, a_rest, a_divisor, a_inverse, a_numerator, a_factorDegrees, a_factorPowers, a_factorCells) y z := by
  subst ey
  have key : ∀ m j, ∀ (x3 : Int32) (a_divisor : Nat → Int32), j + m = d → wX_setMonic__divisor_10 post (nI d) f_tokenCount f_latestPlace f_stepCount f_waitingCount f_stackCount f_factorCount (m + 1) x3 (nI j) a_tokenKind a_tokenContent a_stepKind a_stepToken a_waitingKind a_waitingToken a_present a_cells a_leftTop a_leftBottom a_rightTop a_rightBottom a_top a_bottom a_product a_quotient a_common a_spare a_rest a_divisor a_inverse a_numerator a_factorDegrees a_factorPowers a_factorCells := by
    intro m
    induction m with
    | zero =>
      intro j x3 a_divisor hj
      exact br_t (nI_le (by omega) (by omega)) ⟨vp_in_nI hd (by omega), nm_e (h _)⟩
    | succ m ih =>
      intro j x3 a_divisor hj
      exact br_f (nI_ge (by omega) (by omega)) ⟨by decide, vp_in_nI (by omega) (by omega), nm_e ⟨by decide, nm_e (nm_r (nI_1 j) (ih (j + 1) _ _ (by omega)))⟩⟩
  unfold wpX_setMonic__divisor
  exact xl_setNumber__divisor (fun a_divisor => ⟨d + 1, key d 0 _ _ (by omega)⟩)
theorem xl_split {post : SX → Prop} {p0 p1 : Int32} (hp : p1 = 0 ∨ p1 = 1) (h : ∀ (fc : Nat) (a_factorDegrees a_factorPowers a_factorCells : Nat → Int32), ∀ a_leftTop a_leftBottom a_rightTop a_rightBottom a_top a_bottom a_product a_quotient a_common a_spare a_rest a_divisor a_inverse a_numerator : Nat → Int32, fc ≤ 8 → post (f_tokenCount, f_latestPlace, f_stepCount, f_waitingCount, f_stackCount, nI fc, a_tokenKind, a_tokenContent, a_stepKind, a_stepToken, a_waitingKind, a_waitingToken, a_present, a_cells, a_leftTop, a_leftBottom, a_rightTop, a_rightBottom, a_top, a_bottom, a_product, a_quotient, a_common, a_spare, a_rest, a_divisor, a_inverse, a_numerator, a_factorDegrees, a_factorPowers, a_factorCells)) : wpX_split post (f_tokenCount, f_latestPlace, f_stepCount, f_waitingCount, f_stackCount, f_factorCount, a_tokenKind, a_tokenContent, a_stepKind, a_stepToken, a_waitingKind, a_waitingToken, a_present, a_cells, a_leftTop, a_leftBottom, a_rightTop, a_rightBottom, a_top, a_bottom, a_product, a_quotient, a_common, a_spare, a_rest, a_divisor, a_inverse, a_numerator, a_factorDegrees, a_factorPowers, a_factorCells) p0 p1 := by
  have s69 : ∀ (J : Int32 → Int32 → Int32 → Int32 → Int32 → Int32 → Int32 → Int32 → (Nat → Int32) → (Nat → Int32) → (Nat → Int32) → (Nat → Int32) → (Nat → Int32) → (Nat → Int32) → (Nat → Int32) → (Nat → Int32) → (Nat → Int32) → (Nat → Int32) → (Nat → Int32) → (Nat → Int32) → (Nat → Int32) → (Nat → Int32) → (Nat → Int32) → (Nat → Int32) → (Nat → Int32) → (Nat → Int32) → (Nat → Int32) → (Nat → Int32) → (Nat → Int32) → (Nat → Int32) → (Nat → Int32) → (Nat → Int32) → (Nat → Int32) → Prop) (q d : Nat), q < 2 ^ 31 → d ≤ 4 →
      (∀ (fc : Nat) (a_factorDegrees a_factorPowers a_factorCells : Nat → Int32), ∀ a_leftTop a_leftBottom a_rightTop a_rightBottom a_top a_bottom a_product a_quotient a_common a_spare a_rest a_divisor a_inverse a_numerator : Nat → Int32, fc ≤ 8 → J (nI q) (nI (d + 1)) f_tokenCount f_latestPlace f_stepCount f_waitingCount f_stackCount (nI fc) a_tokenKind a_tokenContent a_stepKind a_stepToken a_waitingKind a_waitingToken a_present a_cells a_leftTop a_leftBottom a_rightTop a_rightBottom a_top a_bottom a_product a_quotient a_common a_spare a_rest a_divisor a_inverse a_numerator a_factorDegrees a_factorPowers a_factorCells) →
      ∀ k t, ∀ (fc : Nat) (a_factorDegrees a_factorPowers a_factorCells : Nat → Int32), ∀ a_leftTop a_leftBottom a_rightTop a_rightBottom a_top a_bottom a_product a_quotient a_common a_spare a_rest a_divisor a_inverse a_numerator : Nat → Int32, t + k = q → fc ≤ 8 → wX_split_69 post J (nI q) (nI d) (k + 1) (nI t) f_tokenCount f_latestPlace f_stepCount f_waitingCount f_stackCount (nI fc) a_tokenKind a_tokenContent a_stepKind a_stepToken a_waitingKind a_waitingToken a_present a_cells a_leftTop a_leftBottom a_rightTop a_rightBottom a_top a_bottom a_product a_quotient a_common a_spare a_rest a_divisor a_inverse a_numerator a_factorDegrees a_factorPowers a_factorCells := by
    intro J q d hq hd hJ k
    induction k with
    | zero =>
      intro t fc a_factorDegrees a_factorPowers a_factorCells a_leftTop a_leftBottom a_rightTop a_rightBottom a_top a_bottom a_product a_quotient a_common a_spare a_rest a_divisor a_inverse a_numerator ht hf
      exact br_t (nI_le (by omega) (by omega)) (nm_r (nI_1 d) (hJ fc _ _ _ _ _ _ _ _ _ _ _ _ _ _ _ _ _ hf))
    | succ k ih =>
      intro t fc a_factorDegrees a_factorPowers a_factorCells a_leftTop a_leftBottom a_rightTop a_rightBottom a_top a_bottom a_product a_quotient a_common a_spare a_rest a_divisor a_inverse a_numerator ht hf
      exact br_f (nI_ge (by omega) (by omega)) (xl_degreeOf__rest (fun _ _ => br_c (fun _ => xl_setMonic d (by omega) (fun a_divisor => xl_takeOut fc hf (fun fc' a_factorDegrees a_factorPowers a_factorCells a_leftTop a_leftBottom a_rightTop a_rightBottom a_top a_bottom a_product a_quotient a_common a_spare a_rest a_divisor a_inverse a_numerator hf' => nm_r (nI_1 t) (ih (t + 1) fc' _ _ _ _ _ _ _ _ _ _ _ _ _ _ _ _ _ (by omega) hf')))) (fun _ => nm_r (nI_1 d) (hJ fc _ _ _ _ _ _ _ _ _ _ _ _ _ _ _ _ _ hf))))
  have s54 : ∀ k d q, ∀ (fc : Nat) (a_factorDegrees a_factorPowers a_factorCells : Nat → Int32), ∀ a_leftTop a_leftBottom a_rightTop a_rightBottom a_top a_bottom a_product a_quotient a_common a_spare a_rest a_divisor a_inverse a_numerator : Nat → Int32, d + k = 5 → q * 5 ^ k < 2 ^ 31 → fc ≤ 8 → wX_split_54 post (k + 1) (nI q) (nI d) f_tokenCount f_latestPlace f_stepCount f_waitingCount f_stackCount (nI fc) a_tokenKind a_tokenContent a_stepKind a_stepToken a_waitingKind a_waitingToken a_present a_cells a_leftTop a_leftBottom a_rightTop a_rightBottom a_top a_bottom a_product a_quotient a_common a_spare a_rest a_divisor a_inverse a_numerator a_factorDegrees a_factorPowers a_factorCells := by
    intro k
    induction k with
    | zero =>
      intro d q fc a_factorDegrees a_factorPowers a_factorCells a_leftTop a_leftBottom a_rightTop a_rightBottom a_top a_bottom a_product a_quotient a_common a_spare a_rest a_divisor a_inverse a_numerator hd hq hf
      obtain rfl : d = 5 := by omega
      exact br_t (by decide) (xl_degreeOf__rest (fun _ _ => br_c (fun _ => h fc _ _ _ _ _ _ _ _ _ _ _ _ _ _ _ _ _ hf) (fun _ => xl_addFactor__rest fc hf (fun fc' a_factorDegrees a_factorPowers a_factorCells hf' => h fc' _ _ _ _ _ _ _ _ _ _ _ _ _ _ _ _ _ hf'))))
    | succ k ih =>
      intro d q fc a_factorDegrees a_factorPowers a_factorCells a_leftTop a_leftBottom a_rightTop a_rightBottom a_top a_bottom a_product a_quotient a_common a_spare a_rest a_divisor a_inverse a_numerator hd hq hf
      have e5 : nI q * 5 = nI (q * 5) := pk_mul q 5
      have hq5 : q * 5 * 5 ^ k < 2 ^ 31 := by rw [Nat.pow_succ, Nat.mul_comm (5 ^ k) 5, ← Nat.mul_assoc] at hq; exact hq
      have h1 : 1 ≤ 5 ^ k := Nat.one_le_pow _ _ (by decide)
      have hq6 : q * 5 < 2 ^ 31 := Nat.lt_of_le_of_lt (Nat.le_mul_of_pos_right _ h1) hq5
      exact br_f (nI_nlt (a := 4) (b := d) (by omega) (by omega)) (nm_r e5 ⟨q * 5 + 1, s69 _ (q * 5) d hq6 (by omega) (fun fc' a_factorDegrees a_factorPowers a_factorCells a_leftTop a_leftBottom a_rightTop a_rightBottom a_top a_bottom a_product a_quotient a_common a_spare a_rest a_divisor a_inverse a_numerator hf' => ih (d + 1) (q * 5) fc' _ _ _ _ _ _ _ _ _ _ _ _ _ _ _ _ _ (by omega) hq5 hf') (q * 5) 0 fc _ _ _ _ _ _ _ _ _ _ _ _ _ _ _ _ _ (by omega) hf⟩)
  unfold wpX_split
  refine xl_load__rest hp (fun a_rest => xl_degreeOf__rest (fun r hr => ?_))
  rcases hr with e | ⟨k, hk, e⟩
  · subst e
    exact br_f (by decide) (h 0 _ _ _ _ _ _ _ _ _ _ _ _ _ _ _ _ _ (by omega))
  · subst e
    exact br_t (nI_pos' (by omega)) ⟨vp_in_nI (by omega) (by omega), by decide, xl_multiplyByNumber__rest (fun a_rest => ⟨5, s54 4 1 1 0 _ _ _ _ _ _ _ _ _ _ _ _ _ _ _ _ _ (by omega) (by decide) (by omega)⟩)⟩
theorem xl_hasFactor {post : Int32 → SX → Prop} {a b c : Int32} (h0 : ∀ (f_factorCount : Int32) (a_factorDegrees a_factorPowers a_factorCells : Nat → Int32), ∀ a_leftTop a_leftBottom a_rightTop a_rightBottom a_top a_bottom a_product a_quotient a_common a_spare a_rest a_divisor a_inverse a_numerator : Nat → Int32, post 0 (f_tokenCount, f_latestPlace, f_stepCount, f_waitingCount, f_stackCount, f_factorCount, a_tokenKind, a_tokenContent, a_stepKind, a_stepToken, a_waitingKind, a_waitingToken, a_present, a_cells, a_leftTop, a_leftBottom, a_rightTop, a_rightBottom, a_top, a_bottom, a_product, a_quotient, a_common, a_spare, a_rest, a_divisor, a_inverse, a_numerator, a_factorDegrees, a_factorPowers, a_factorCells)) (h1 : ∀ (i fc : Nat) (a_factorDegrees a_factorPowers a_factorCells : Nat → Int32), ∀ a_leftTop a_leftBottom a_rightTop a_rightBottom a_top a_bottom a_product a_quotient a_common a_spare a_rest a_divisor a_inverse a_numerator : Nat → Int32, i < fc → fc ≤ 8 → c = nI i → post 1 (f_tokenCount, f_latestPlace, f_stepCount, f_waitingCount, f_stackCount, nI fc, a_tokenKind, a_tokenContent, a_stepKind, a_stepToken, a_waitingKind, a_waitingToken, a_present, a_cells, a_leftTop, a_leftBottom, a_rightTop, a_rightBottom, a_top, a_bottom, a_product, a_quotient, a_common, a_spare, a_rest, a_divisor, a_inverse, a_numerator, a_factorDegrees, a_factorPowers, a_factorCells)) : wpX_hasFactor post (f_tokenCount, f_latestPlace, f_stepCount, f_waitingCount, f_stackCount, f_factorCount, a_tokenKind, a_tokenContent, a_stepKind, a_stepToken, a_waitingKind, a_waitingToken, a_present, a_cells, a_leftTop, a_leftBottom, a_rightTop, a_rightBottom, a_top, a_bottom, a_product, a_quotient, a_common, a_spare, a_rest, a_divisor, a_inverse, a_numerator, a_factorDegrees, a_factorPowers, a_factorCells) a b c := by
  unfold wpX_hasFactor
  refine xl_hasPart (br_t rfl (h0 _ _ _ _ _ _ _ _ _ _ _ _ _ _ _ _ _ _)) (fun _ _ _ hb => br_f (by decide) (xl_split hb (fun fc a_factorDegrees a_factorPowers a_factorCells a_leftTop a_leftBottom a_rightTop a_rightBottom a_top a_bottom a_product a_quotient a_common a_spare a_rest a_divisor a_inverse a_numerator hf => ?_)))
  by_cases c0 : c < 0
  · exact br_t c0 (h0 _ _ _ _ _ _ _ _ _ _ _ _ _ _ _ _ _ _)
  · obtain ⟨i, hi, rfl⟩ := nI_of c0
    by_cases c1 : i < fc
    · exact br_f c0 (br_f (nI_ge c1 (by omega)) (h1 i fc _ _ _ _ _ _ _ _ _ _ _ _ _ _ _ _ _ c1 hf rfl))
    · exact br_f c0 (br_t (nI_le (by omega) hi) (h0 _ _ _ _ _ _ _ _ _ _ _ _ _ _ _ _ _ _))
end
