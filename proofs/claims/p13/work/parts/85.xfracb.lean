/-! The class's partial fractions -/
theorem xk_sm : ∀ b : Fin 19, ((nI b.val &&& 31).toBitVec.smod 32).toNat = b.val := by decide
theorem xk_bit {e b : Nat} (he : e < 2 ^ 31) (hb : b < 19) : ((nI e >>> (nI b &&& 31)) &&& 1 = 1) ↔ e / 2 ^ b % 2 = 1 := by
  have hs := xk_sm ⟨b, hb⟩
  have hs2 : ((nI b &&& 31).toBitVec.smod 32).toNat = b := hs
  have e0 : (nI e).toBitVec = BitVec.ofNat 32 e := rfl
  have hm : (BitVec.ofNat 32 e).msb = false := by
    rw [BitVec.msb_eq_decide]
    simp
    omega
  have e1 : (nI e >>> (nI b &&& 31) &&& 1).toBitVec.toNat = e / 2 ^ b % 2 := by
    show ((nI e).toBitVec.sshiftRight ((nI b &&& 31).toBitVec.smod 32).toNat &&& 1#32).toNat = _
    rw [hs2, e0, BitVec.sshiftRight_eq_of_msb_false hm, BitVec.toNat_and, BitVec.toNat_ushiftRight, BitVec.toNat_ofNat, Nat.mod_eq_of_lt (by omega), Nat.shiftRight_eq_div_pow]
    exact Nat.and_one_is_mod _
  constructor
  · intro h
    rw [h] at e1
    rw [← e1]
    rfl
  · intro h
    rw [h] at e1
    apply Int32.toBitVec_inj.mp
    apply BitVec.eq_of_toNat_eq
    rw [e1]
    rfl
theorem pf_cg_rem {F Z R P : PF} (fZ : pf_fin Z) (e : P = pf_add (pf_mul Z F) R) : pf_cg F R P := by
  apply pf_cg_s
  refine ⟨Z, fZ, ?_⟩
  rw [e, pf_add_sub']
theorem xk_m2 (n : Nat) : nI (n + 2) + (-2) = nI n := by
  have e : nI (n + 2) = nI n + 2 := (nI_add n 2).symm
  rw [e, Int32.add_assoc, show (2 : Int32) + (-2) = 0 from rfl, Int32.add_zero]
theorem xk_5pow {d : Nat} (h : d ≤ 8) : 5 ^ d ≤ 390625 := Nat.pow_le_pow_right (n := 5) (j := 8) (by decide) h
section
variable {f_tokenCount f_latestPlace f_stepCount f_waitingCount f_stackCount f_factorCount : Int32} {a_tokenKind a_tokenContent a_stepKind a_stepToken a_waitingKind a_waitingToken a_present a_cells a_leftTop a_leftBottom a_rightTop a_rightBottom a_top a_bottom a_product a_quotient a_common a_spare a_rest a_divisor a_inverse a_numerator a_factorDegrees a_factorPowers a_factorCells : Nat → Int32}
theorem xk_mm1 {post : SX → Prop} {x : Int32} {P Q F : PF} (d : Nat) (hd : pf_hd F d) (hd17 : d < 17) (hP : xv a_spare P) (hQ : xv a_common Q) (hF : xv a_divisor F) (l : pf_ln (pf_mul P Q) 17) (h : ∀ (R : PF) (a_product a_quotient a_spare : Nat → Int32), pf_ln R d → (∃ Z, pf_fin Z ∧ pf_mul P Q = pf_add (pf_mul Z F) R) → xv a_spare R → post (f_tokenCount, f_latestPlace, f_stepCount, f_waitingCount, f_stackCount, f_factorCount, a_tokenKind, a_tokenContent, a_stepKind, a_stepToken, a_waitingKind, a_waitingToken, a_present, a_cells, a_leftTop, a_leftBottom, a_rightTop, a_rightBottom, a_top, a_bottom, a_product, a_quotient, a_common, a_spare, a_rest, a_divisor, a_inverse, a_numerator, a_factorDegrees, a_factorPowers, a_factorCells)) (ex : x = nI d := by rfl) : wpX_multiplyModulo__spare_common post (f_tokenCount, f_latestPlace, f_stepCount, f_waitingCount, f_stackCount, f_factorCount, a_tokenKind, a_tokenContent, a_stepKind, a_stepToken, a_waitingKind, a_waitingToken, a_present, a_cells, a_leftTop, a_leftBottom, a_rightTop, a_rightBottom, a_top, a_bottom, a_product, a_quotient, a_common, a_spare, a_rest, a_divisor, a_inverse, a_numerator, a_factorDegrees, a_factorPowers, a_factorCells) x := by
  subst ex
  unfold wpX_multiplyModulo__spare_common
  exact xf_multiply__spare_common_product hP hQ (fun a_product hp => xf_divide__product_divisor_quotient d hd17 hd hp hF l (fun Z R lZ lR e a_product a_quotient h1 h2 => xf_copy__product_spare h1 (fun a_spare h3 => h R _ _ _ lR ⟨Z, ⟨_, lZ⟩, e⟩ h3)))
theorem xk_mm2 {post : SX → Prop} {x : Int32} {P Q F : PF} (d : Nat) (hd : pf_hd F d) (hd17 : d < 17) (hP : xv a_inverse P) (hQ : xv a_spare Q) (hF : xv a_divisor F) (l : pf_ln (pf_mul P Q) 17) (h : ∀ (R : PF) (a_product a_quotient a_inverse : Nat → Int32), pf_ln R d → (∃ Z, pf_fin Z ∧ pf_mul P Q = pf_add (pf_mul Z F) R) → xv a_inverse R → post (f_tokenCount, f_latestPlace, f_stepCount, f_waitingCount, f_stackCount, f_factorCount, a_tokenKind, a_tokenContent, a_stepKind, a_stepToken, a_waitingKind, a_waitingToken, a_present, a_cells, a_leftTop, a_leftBottom, a_rightTop, a_rightBottom, a_top, a_bottom, a_product, a_quotient, a_common, a_spare, a_rest, a_divisor, a_inverse, a_numerator, a_factorDegrees, a_factorPowers, a_factorCells)) (ex : x = nI d := by rfl) : wpX_multiplyModulo__inverse_spare post (f_tokenCount, f_latestPlace, f_stepCount, f_waitingCount, f_stackCount, f_factorCount, a_tokenKind, a_tokenContent, a_stepKind, a_stepToken, a_waitingKind, a_waitingToken, a_present, a_cells, a_leftTop, a_leftBottom, a_rightTop, a_rightBottom, a_top, a_bottom, a_product, a_quotient, a_common, a_spare, a_rest, a_divisor, a_inverse, a_numerator, a_factorDegrees, a_factorPowers, a_factorCells) x := by
  subst ex
  unfold wpX_multiplyModulo__inverse_spare
  exact xf_multiply__inverse_spare_product hP hQ (fun a_product hp => xf_divide__product_divisor_quotient d hd17 hd hp hF l (fun Z R lZ lR e a_product a_quotient h1 h2 => xf_copy__product_inverse h1 (fun a_inverse h3 => h R _ _ _ lR ⟨Z, ⟨_, lZ⟩, e⟩ h3)))
theorem xk_mm3 {post : SX → Prop} {x : Int32} {P Q F : PF} (d : Nat) (hd : pf_hd F d) (hd17 : d < 17) (hP : xv a_numerator P) (hQ : xv a_inverse Q) (hF : xv a_divisor F) (l : pf_ln (pf_mul P Q) 17) (h : ∀ (R : PF) (a_product a_quotient a_numerator : Nat → Int32), pf_ln R d → (∃ Z, pf_fin Z ∧ pf_mul P Q = pf_add (pf_mul Z F) R) → xv a_numerator R → post (f_tokenCount, f_latestPlace, f_stepCount, f_waitingCount, f_stackCount, f_factorCount, a_tokenKind, a_tokenContent, a_stepKind, a_stepToken, a_waitingKind, a_waitingToken, a_present, a_cells, a_leftTop, a_leftBottom, a_rightTop, a_rightBottom, a_top, a_bottom, a_product, a_quotient, a_common, a_spare, a_rest, a_divisor, a_inverse, a_numerator, a_factorDegrees, a_factorPowers, a_factorCells)) (ex : x = nI d := by rfl) : wpX_multiplyModulo__numerator_inverse post (f_tokenCount, f_latestPlace, f_stepCount, f_waitingCount, f_stackCount, f_factorCount, a_tokenKind, a_tokenContent, a_stepKind, a_stepToken, a_waitingKind, a_waitingToken, a_present, a_cells, a_leftTop, a_leftBottom, a_rightTop, a_rightBottom, a_top, a_bottom, a_product, a_quotient, a_common, a_spare, a_rest, a_divisor, a_inverse, a_numerator, a_factorDegrees, a_factorPowers, a_factorCells) x := by
  subst ex
  unfold wpX_multiplyModulo__numerator_inverse
  exact xf_multiply__numerator_inverse_product hP hQ (fun a_product hp => xf_divide__product_divisor_quotient d hd17 hd hp hF l (fun Z R lZ lR e a_product a_quotient h1 h2 => xf_copy__product_numerator h1 (fun a_numerator h3 => h R _ _ _ lR ⟨Z, ⟨_, lZ⟩, e⟩ h3)))
theorem xk_findInverse {post : SX → Prop} {x : Int32} {B F : PF} (d : Nat) (hd1 : 1 ≤ d) (hd8 : d ≤ 8) (hF : pf_hd F d) (xB : xv a_leftBottom B) (lB : pf_ln B 8) (xF : xv a_divisor F)
    (h : ∀ (I : PF) (a_product a_quotient a_common a_spare a_inverse : Nat → Int32), pf_ln I 8 → pf_cg F I (pf_pow B (5 ^ d - 2)) → xv a_inverse I → post (f_tokenCount, f_latestPlace, f_stepCount, f_waitingCount, f_stackCount, f_factorCount, a_tokenKind, a_tokenContent, a_stepKind, a_stepToken, a_waitingKind, a_waitingToken, a_present, a_cells, a_leftTop, a_leftBottom, a_rightTop, a_rightBottom, a_top, a_bottom, a_product, a_quotient, a_common, a_spare, a_rest, a_divisor, a_inverse, a_numerator, a_factorDegrees, a_factorPowers, a_factorCells)) (ex : x = nI d := by rfl) : wpX_findInverse post (f_tokenCount, f_latestPlace, f_stepCount, f_waitingCount, f_stackCount, f_factorCount, a_tokenKind, a_tokenContent, a_stepKind, a_stepToken, a_waitingKind, a_waitingToken, a_present, a_cells, a_leftTop, a_leftBottom, a_rightTop, a_rightBottom, a_top, a_bottom, a_product, a_quotient, a_common, a_spare, a_rest, a_divisor, a_inverse, a_numerator, a_factorDegrees, a_factorPowers, a_factorCells) x := by
  subst ex
  have h5 := xk_5pow hd8
  have h51 : 5 ^ 1 ≤ 5 ^ d := Nat.pow_le_pow_right (by decide) hd1
  have fB : pf_fin B := ⟨8, lB⟩
  have l16 : ∀ {P Q : PF}, pf_ln P 8 → pf_ln Q 8 → pf_ln (pf_mul P Q) 17 := fun h1 h2 => pf_ln_mono (pf_mul_ln' h1 h2) (by omega)
  have l43 : ∀ q j, ∀ (I W : PF) (a_product a_quotient a_common a_spare a_inverse : Nat → Int32), j + q = 19 → pf_ln I 8 → pf_ln W 8 → pf_cg F I (pf_pow B ((5 ^ d - 2) % 2 ^ j)) → pf_cg F W (pf_pow B (2 ^ j)) → xv a_inverse I → xv a_spare W → wX_findInverse_43 post (nI d) (nI (5 ^ d - 2)) (q + 1) (nI j) f_tokenCount f_latestPlace f_stepCount f_waitingCount f_stackCount f_factorCount a_tokenKind a_tokenContent a_stepKind a_stepToken a_waitingKind a_waitingToken a_present a_cells a_leftTop a_leftBottom a_rightTop a_rightBottom a_top a_bottom a_product a_quotient a_common a_spare a_rest a_divisor a_inverse a_numerator a_factorDegrees a_factorPowers a_factorCells := by
    intro q
    induction q with
    | zero =>
      intro j I W a_product a_quotient a_common a_spare a_inverse hj lI lW cI cW xI xW
      obtain rfl : j = 19 := by omega
      rw [Nat.mod_eq_of_lt (by omega)] at cI
      exact br_t (by decide) (h I _ _ _ _ _ lI cI xI)
    | succ q ih =>
      intro j I W a_product a_quotient a_common a_spare a_inverse hj lI lW cI cW xI xW
      have p71 : ∀ (I : PF) (a_product a_quotient a_inverse : Nat → Int32), pf_ln I 8 → pf_cg F I (pf_pow B ((5 ^ d - 2) % 2 ^ (j + 1))) → xv a_inverse I → wX_findInverse_71 post (wX_findInverse_43 post (nI d) (nI (5 ^ d - 2)) (q + 1)) (nI d) (nI (5 ^ d - 2)) (nI j) f_tokenCount f_latestPlace f_stepCount f_waitingCount f_stackCount f_factorCount a_tokenKind a_tokenContent a_stepKind a_stepToken a_waitingKind a_waitingToken a_present a_cells a_leftTop a_leftBottom a_rightTop a_rightBottom a_top a_bottom a_product a_quotient a_common a_spare a_rest a_divisor a_inverse a_numerator a_factorDegrees a_factorPowers a_factorCells := by
        intro I a_product a_quotient a_inverse lI cI xI
        refine xf_copy__spare_common xW (fun a_common xC => xk_mm1 d hF (by omega) xW xC xF (l16 lW lW) (fun R a_product a_quotient a_spare lR hZ xR => nm_r (nI_1 j) ?_))
        obtain ⟨Z, fZ, eZ⟩ := hZ
        refine ih (j + 1) I R _ _ _ _ _ (by omega) lI (pf_ln_mono lR hd8) cI ?_ xI xR
        have e2 : 2 ^ (j + 1) = 2 ^ j + 2 ^ j := by rw [Nat.pow_succ]; omega
        rw [e2, pf_powA]
        exact pf_cg_t (pf_cg_rem fZ eZ) (pf_cg_m cW cW ⟨8, lW⟩ (pf_fin_pow fB _))
      refine br_f (nI_ge (b := 19) (by omega) (by omega)) ?_
      by_cases hb : (5 ^ d - 2) / 2 ^ j % 2 = 1
      · refine br_t ((xk_bit (by omega) (by omega)).mpr hb) (xk_mm2 d hF (by omega) xI xW xF (l16 lI lW) (fun R a_product a_quotient a_inverse lR hZ xR => ?_))
        obtain ⟨Z, fZ, eZ⟩ := hZ
        refine p71 R _ _ _ (pf_ln_mono lR hd8) ?_ xR
        rw [Nat.mod_pow_succ, hb, Nat.mul_one, pf_powA]
        exact pf_cg_t (pf_cg_rem fZ eZ) (pf_cg_m cI cW ⟨8, lW⟩ (pf_fin_pow fB _))
      · refine br_f (fun z => hb ((xk_bit (by omega) (by omega)).mp z)) (p71 I _ _ _ lI ?_ xI)
        have hb0 : (5 ^ d - 2) / 2 ^ j % 2 = 0 := by omega
        rw [Nat.mod_pow_succ, hb0, Nat.mul_zero, Nat.add_zero]
        exact cI
  have loop : ∀ q k, k + q = d → wX_findInverse_4 post (nI d) f_tokenCount f_latestPlace f_stepCount f_waitingCount f_stackCount f_factorCount a_tokenKind a_tokenContent a_stepKind a_stepToken a_waitingKind a_waitingToken a_present a_cells a_leftTop a_leftBottom a_rightTop a_rightBottom a_top a_bottom a_product a_quotient a_common a_spare a_rest a_divisor a_inverse a_numerator a_factorDegrees a_factorPowers a_factorCells (q + 1) (nI (5 ^ k)) (nI k) := by
    intro q
    induction q with
    | zero =>
      intro k hk
      obtain rfl : k = d := by omega
      have e2 : nI (5 ^ k) + (-2) = nI (5 ^ k - 2) := by
        have e3 : 5 ^ k = (5 ^ k - 2) + 2 := by omega
        have e4 := xk_m2 (5 ^ k - 2)
        rw [← e3] at e4
        exact e4
      refine br_t (nI_le (by omega) (by omega)) (nm_r e2 (xf_setNumber__inverse 1 (fun a_inverse xI => xf_copy__leftBottom_spare xB (fun a_spare xS => ⟨20, ?_⟩))))
      have u := l43 19 0 (pf_c 1) B a_product a_quotient a_common a_spare a_inverse (by omega) (pf_ln_mono (pf_c_ln 1) (by omega)) lB (by rw [Nat.pow_zero, Nat.mod_one]; exact pf_cg_r F _) (by
        rw [Nat.pow_zero, pf_pow1]; exact pf_cg_r F _) xI xS
      exact u
    | succ q ih =>
      intro k hk
      have e5 : nI (5 ^ k) * 5 = nI (5 ^ (k + 1)) := by rw [Nat.pow_succ]; exact pk_mul (5 ^ k) 5
      exact br_f (nI_ge (by omega) (by omega)) (nm_r e5 (nm_r (nI_1 k) (ih (k + 1) (by omega))))
  exact ⟨d + 1, loop d 0 (by omega)⟩
theorem xk_loadFactor {post : SX → Prop} {x : Int32} {f : PF} (i : Nat) (hi : i < 8) (hf : ∀ k, k < 9 → a_factorCells (i * 9 + k) = fi_I (f k)) (lf : pf_ln f 9) (h : ∀ a_divisor : Nat → Int32, xv a_divisor f → post (f_tokenCount, f_latestPlace, f_stepCount, f_waitingCount, f_stackCount, f_factorCount, a_tokenKind, a_tokenContent, a_stepKind, a_stepToken, a_waitingKind, a_waitingToken, a_present, a_cells, a_leftTop, a_leftBottom, a_rightTop, a_rightBottom, a_top, a_bottom, a_product, a_quotient, a_common, a_spare, a_rest, a_divisor, a_inverse, a_numerator, a_factorDegrees, a_factorPowers, a_factorCells)) (ex : x = nI i := by rfl) : wpX_loadFactor__divisor post (f_tokenCount, f_latestPlace, f_stepCount, f_waitingCount, f_stackCount, f_factorCount, a_tokenKind, a_tokenContent, a_stepKind, a_stepToken, a_waitingKind, a_waitingToken, a_present, a_cells, a_leftTop, a_leftBottom, a_rightTop, a_rightBottom, a_top, a_bottom, a_product, a_quotient, a_common, a_spare, a_rest, a_divisor, a_inverse, a_numerator, a_factorDegrees, a_factorPowers, a_factorCells) x := by
  subst ex
  have e9 : nI i * 9 = nI (i * 9) := pk_mul i 9
  have key : ∀ d j, ∀ a_divisor : Nat → Int32, j + d = 9 → xv a_divisor (fun k => if k < j then f k else 0) → wX_loadFactor__divisor_7 post (nI i) f_tokenCount f_latestPlace f_stepCount f_waitingCount f_stackCount f_factorCount (d + 1) (nI j) a_tokenKind a_tokenContent a_stepKind a_stepToken a_waitingKind a_waitingToken a_present a_cells a_leftTop a_leftBottom a_rightTop a_rightBottom a_top a_bottom a_product a_quotient a_common a_spare a_rest a_divisor a_inverse a_numerator a_factorDegrees a_factorPowers a_factorCells := by
    intro d
    induction d with
    | zero =>
      intro j a_divisor hj hv
      obtain rfl : j = 9 := by omega
      exact br_t (by decide) (h _ (xv_9 hv lf))
    | succ d ih =>
      intro j a_divisor hj hv
      refine br_f (nI_ge (b := 9) (by omega) (by decide)) ⟨pk_in (i * 9 + j) 72 (by omega) (by rw [e9, nI_add]), vp_in_nI (by omega) (by omega), nm_r (e' := upd a_divisor j (fi_I (f j))) ?_ (nm_r (nI_1 j) (ih (j + 1) _ (by omega) (xv_ld hv)))⟩
      rw [e9, nI_add, nI_clamp (by omega), nI_clamp (by omega), hf j (by omega)]
  unfold wpX_loadFactor__divisor
  refine xf_setNumber__divisor 0 (fun a_divisor hv => ⟨10, key 9 0 _ rfl (xv_e hv (fun k _ => ?_))⟩)
  show (if k = 0 then (0 : Fin 5) else 0) = if k < 0 then _ else 0
  rw [ite_self, if_neg (by omega)]
/-- what the numerator at level j is, for every solution of the whole system -/
def fr_num (F B R : PF) (d n : Nat) (M : PF) (j : Nat) : Prop := pf_ln M d ∧ ∀ S C : Nat → PF, fr_rec F d S C → pf_dv (pf_pow F n) (pf_sub R (pf_mul B (S n))) → M = C j
theorem xk_findNumerator {post : SX → Prop} {x y : Int32} {F R : PF} {q : Nat → PF} (i j d n : Nat) (hi : i < 8) (hj : j < n) (hn8 : n ≤ 8) (hd8 : d ≤ 8) (hF : pf_irr F d)
    (f1 : a_factorDegrees i = nI d) (f2 : a_factorPowers i = nI n) (f3 : ∀ k, k < 9 → a_factorCells (i * 9 + k) = fi_I (F k))
    (qs : ∀ j, j < n → q j = pf_mul F (q (j + 1))) (ql : ∀ j, j ≤ n → pf_ln (q j) 9) (qn : pf_ln (q n) 8) (qd : pf_ln (q n) (9 - d)) (qc : pf_cp F (q n)) (xL : xv a_leftTop R) (lR : pf_ln R 8) (xB : xv a_leftBottom (q 0))
    (h : ∀ (M : PF) (a_leftTop a_leftBottom a_product a_quotient a_common a_spare a_divisor a_inverse a_numerator : Nat → Int32), fr_num F (q n) R d n M j → xv a_numerator M → post (f_tokenCount, f_latestPlace, f_stepCount, f_waitingCount, f_stackCount, f_factorCount, a_tokenKind, a_tokenContent, a_stepKind, a_stepToken, a_waitingKind, a_waitingToken, a_present, a_cells, a_leftTop, a_leftBottom, a_rightTop, a_rightBottom, a_top, a_bottom, a_product, a_quotient, a_common, a_spare, a_rest, a_divisor, a_inverse, a_numerator, a_factorDegrees, a_factorPowers, a_factorCells)) (ex : x = nI i := by rfl) (ey : y = nI (j + 1) := by rfl) : wpX_findNumerator post (f_tokenCount, f_latestPlace, f_stepCount, f_waitingCount, f_stackCount, f_factorCount, a_tokenKind, a_tokenContent, a_stepKind, a_stepToken, a_waitingKind, a_waitingToken, a_present, a_cells, a_leftTop, a_leftBottom, a_rightTop, a_rightBottom, a_top, a_bottom, a_product, a_quotient, a_common, a_spare, a_rest, a_divisor, a_inverse, a_numerator, a_factorDegrees, a_factorPowers, a_factorCells) x y := by
  subst ex ey
  have hd1 := hF.2.1
  have i8 : vp_in (nI i) 8 := vp_in_nI hi (by omega)
  have ei : (nI i).toNatClampNeg = i := nI_clamp (by omega)
  have fq : pf_fin (q n) := ⟨8, qn⟩
  -- the levels from the highest to j
  have l76 : ∀ (I : PF) (a_leftBottom a_inverse a_divisor : Nat → Int32), pf_ln I 8 → pf_cg F (pf_mul I (q n)) (pf_c 1) → xv a_inverse I → xv a_leftBottom (q n) → xv a_divisor F →
      ∀ l, ∀ (L M : PF) (a_leftTop a_product a_quotient a_common a_spare a_numerator : Nat → Int32), l ≤ n → j ≤ l → pf_ln L 8 → (∀ S C : Nat → PF, fr_rec F d S C → pf_dv (pf_pow F n) (pf_sub R (pf_mul (q n) (S n))) → pf_dv (pf_pow F l) (pf_sub L (pf_mul (q n) (S l)))) → (l < n → fr_num F (q n) R d n M l ∧ xv a_numerator M) → xv a_leftTop L →
        wX_findNumerator_76 post (nI (j + 1)) (nI d) (l + 1) (nI l) f_tokenCount f_latestPlace f_stepCount f_waitingCount f_stackCount f_factorCount a_tokenKind a_tokenContent a_stepKind a_stepToken a_waitingKind a_waitingToken a_present a_cells a_leftTop a_leftBottom a_rightTop a_rightBottom a_top a_bottom a_product a_quotient a_common a_spare a_rest a_divisor a_inverse a_numerator a_factorDegrees a_factorPowers a_factorCells := by
    intro I a_leftBottom a_inverse a_divisor lI cI xI xB xF l
    induction l with
    | zero =>
      intro L M a_leftTop a_product a_quotient a_common a_spare a_numerator hl hjl lL hL hM xL
      obtain rfl : j = 0 := by omega
      obtain ⟨h1, h2⟩ := hM (by omega)
      exact br_t (by decide) (h M _ _ _ _ _ _ _ _ _ h1 h2)
    | succ l ih =>
      intro L M a_leftTop a_product a_quotient a_common a_spare a_numerator hl hjl lL hL hM xL
      by_cases c : l + 1 = j
      · subst c
        obtain ⟨h1, h2⟩ := hM (by omega)
        exact br_t (nI_lt (by omega) (by omega)) (h M _ _ _ _ _ _ _ _ _ h1 h2)
      · have fL : pf_fin L := ⟨8, lL⟩
        refine br_f (nI_nlt (by omega) (by omega)) (xf_copy__leftTop_numerator xL (fun a_numerator xN => xk_mm3 d hF.1 (by omega) xN xI xF (pf_ln_mono (pf_mul_ln' lL lI) (by omega)) (fun M2 a_product a_quotient a_numerator lM2 hZ xM2 => ?_)))
        obtain ⟨Z, fZ, eZ⟩ := hZ
        have num : fr_num F (q n) R d n M2 l := ⟨lM2, fun S C rc dv => fr_step1 hF.1 fq ⟨8, lI⟩ fL cI (rc.1 l) (rc.2.1 l) (rc.2.2 l) (hL S C rc dv) fZ lM2 eZ⟩
        have lMB : pf_ln (pf_mul M2 (q n)) 9 := pf_ln_mono (pf_mul_ln' lM2 qd) (by omega)
        refine xf_multiply__numerator_leftBottom_product xM2 xB (fun a_product xP => xf_addMultiple__leftTop_product 4 xL xP (fun a_leftTop xL2 => ?_))
        rw [pf_am4] at xL2
        have lL2 : pf_ln (pf_sub L (pf_mul M2 (q n))) 9 := pf_sub_ln (pf_ln_mono lL (by omega)) lMB
        refine xf_divide__leftTop_divisor_quotient d (by omega) hF.1 xL2 xF (pf_ln_mono lL2 (by omega)) (fun Q R2 lQ lR2 eQ a_leftTop a_quotient xR2 xQ => xf_copy__quotient_leftTop xQ (fun a_leftTop xL3 => nm_r (pk_m1 l) ?_))
        refine ih Q M2 _ _ _ _ _ _ (by omega) (by omega) ?_ (fun S C rc dv => ?_) (fun _ => ⟨num, xM2⟩) xL3
        · exact pf_quo_ln hF.1 hd1 lL2 ⟨_, lQ⟩ lR2 eQ
        · have eM := num.2 S C rc dv
          exact fr_step2 hF.1 fq (rc.1 l) (rc.2.2 l) (hL S C rc dv) ⟨_, lQ⟩ lR2 (by rw [← eM]; exact eQ)
  -- the factor is divided out
  have l19 : ∀ (a_divisor : Nat → Int32), xv a_divisor F → ∀ t k, ∀ (a_leftBottom a_quotient : Nat → Int32), k + t = n → xv a_leftBottom (q k) → wX_findNumerator_19 post (nI i) (nI (j + 1)) (nI d) (t + 1) (nI k) f_tokenCount f_latestPlace f_stepCount f_waitingCount f_stackCount f_factorCount a_tokenKind a_tokenContent a_stepKind a_stepToken a_waitingKind a_waitingToken a_present a_cells a_leftTop a_leftBottom a_rightTop a_rightBottom a_top a_bottom a_product a_quotient a_common a_spare a_rest a_divisor a_inverse a_numerator a_factorDegrees a_factorPowers a_factorCells := by
    intro a_divisor xF t
    induction t with
    | zero =>
      intro k a_leftBottom a_quotient hk xB
      obtain rfl : k = n := by omega
      refine ⟨i8, br_t (by rw [ei, f2]; exact nI_le (by omega) (by omega)) (xk_findInverse d hd1 hd8 hF.1 xB qn xF (fun I a_product a_quotient a_common a_spare a_inverse lI cI xI => ⟨i8, nm_r (e' := nI k) (by rw [ei, f2]) ⟨k + 1, ?_⟩⟩))⟩
      have cI2 : pf_cg F (pf_mul I (q k)) (pf_c 1) := pf_cg_t (pf_cg_m cI (pf_cg_r F (q k)) fq (pf_fin_pow fq _)) (pf_finv hF fq (pf_cp_nd hF.1 hd1 qc))
      exact l76 I a_leftBottom a_inverse a_divisor lI cI2 xI xB xF k R R _ _ _ _ _ _ (by omega) (by omega) lR (fun S C rc dv => dv) (fun z => absurd z (by omega)) xL
    | succ t ih =>
      intro k a_leftBottom a_quotient hk xB
      refine ⟨i8, br_f (by rw [ei, f2]; exact nI_ge (by omega) (by omega)) (xf_divide__leftBottom_divisor_quotient d (by omega) hF.1 xB xF (pf_ln_mono (ql k (by omega)) (by omega)) (fun Q R2 lQ lR2 eQ a_leftBottom a_quotient xR2 xQ => xf_copy__quotient_leftBottom xQ (fun a_leftBottom xB2 => nm_r (nI_1 k) (ih (k + 1) _ _ (by omega) ?_))))⟩
      have eq := pf_exq hF.1 ⟨9, ql (k + 1) (by omega)⟩ (qs k (by omega)) ⟨_, lQ⟩ lR2 eQ
      rw [eq] at xB2
      exact xB2
  unfold wpX_findNumerator
  refine ⟨i8, nm_r (e' := nI d) (by rw [ei, f1]) (xk_loadFactor i hi f3 (pf_ln_mono hF.1.1 (by omega)) (fun a_divisor xF => ⟨n + 1, ?_⟩))⟩
  exact l19 a_divisor xF n 0 a_leftBottom a_quotient (by omega) xB
theorem xk_loadProperPart {post : SX → Prop} {x : Int32} {P A : PF} {N : Nat} (a : Nat) (ha : a < 7) (hP : ∀ k, k < 9 → a_cells ((a * 2 + 0) * 9 + k) = fi_I (P k)) (lP : pf_ln P 9) (hA : ∀ k, k < 9 → a_cells ((a * 2 + 1) * 9 + k) = fi_I (A k)) (lA : pf_ln A 9) (dA : pf_hd A N)
    (h : ∀ (Q R : PF) (a_leftTop a_leftBottom a_quotient : Nat → Int32), pf_ln Q 17 → pf_ln R N → P = pf_add (pf_mul Q A) R → xv a_leftTop R → xv a_leftBottom A → xv a_quotient Q → post (f_tokenCount, f_latestPlace, f_stepCount, f_waitingCount, f_stackCount, f_factorCount, a_tokenKind, a_tokenContent, a_stepKind, a_stepToken, a_waitingKind, a_waitingToken, a_present, a_cells, a_leftTop, a_leftBottom, a_rightTop, a_rightBottom, a_top, a_bottom, a_product, a_quotient, a_common, a_spare, a_rest, a_divisor, a_inverse, a_numerator, a_factorDegrees, a_factorPowers, a_factorCells)) (ex : x = nI a := by rfl) : wpX_loadProperPart post (f_tokenCount, f_latestPlace, f_stepCount, f_waitingCount, f_stackCount, f_factorCount, a_tokenKind, a_tokenContent, a_stepKind, a_stepToken, a_waitingKind, a_waitingToken, a_present, a_cells, a_leftTop, a_leftBottom, a_rightTop, a_rightBottom, a_top, a_bottom, a_product, a_quotient, a_common, a_spare, a_rest, a_divisor, a_inverse, a_numerator, a_factorDegrees, a_factorPowers, a_factorCells) x := by
  subst ex
  have hN := pf_hd_lt dA lA
  unfold wpX_loadProperPart
  refine xf_load__leftTop a 0 (by omega) (by omega) hP lP (fun a_leftTop xP => xf_load__leftBottom a 1 (by omega) (by omega) hA lA (fun a_leftBottom xA => xf_degreeOf__leftBottom xA (pf_ln_mono lA (by omega)) (fun z => absurd z (pf_hd_n0 dA)) (fun d hd hD => ?_)))
  obtain rfl := pf_hd_u hD dA
  exact xf_divide__leftTop_leftBottom_quotient d (by omega) dA xP xA (pf_ln_mono lP (by omega)) (fun Q R lQ lR e a_leftTop a_quotient xR xQ => h Q R _ _ _ lQ lR e xR xA xQ)
end
