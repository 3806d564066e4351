/-! The class's split: what it finds -/
def xk_fs (fd fp fcl : Nat → Int32) (F : Nat → PF) (D n : Nat → Nat) (m : Nat) : Prop := ∀ i, i < m → fd i = nI (D i) ∧ fp i = nI (n i) ∧ ∀ k, k < 9 → fcl (i * 9 + k) = fi_I (F i k)
theorem xk_fs1 {fd fp fcl : Nat → Int32} {F : Nat → PF} {D n : Nat → Nat} {m d k : Nat} {f : PF} (h : xk_fs fd fp fcl F D n m) (h1 : fd m = nI d) (h2 : fp m = nI k) (h3 : ∀ t, t < 9 → fcl (m * 9 + t) = fi_I (f t)) :
    xk_fs fd fp fcl (xk_ap F m f) (xk_ap D m d) (xk_ap n m k) (m + 1) := by
  intro i hi
  by_cases c : i = m
  · subst c; rw [xk_ap_m, xk_ap_m, xk_ap_m]; exact ⟨h1, h2, h3⟩
  · rw [xk_ap_n (by omega), xk_ap_n (by omega), xk_ap_n (by omega)]; exact h i (by omega)
theorem xk_fsc {fd fp fcl : Nat → Int32} {F : Nat → PF} {D n : Nat → Nat} {m t : Nat} {x : Int32} (h : xk_fs fd fp fcl F D n m) : xk_fs fd fp (upd fcl (m * 9 + t) x) F D n m := by
  intro i hi
  refine ⟨(h i hi).1, (h i hi).2.1, fun k hk => ?_⟩
  rw [pk_un (by omega)]; exact (h i hi).2.2 k hk
theorem xk_fsd {fd fp fcl : Nat → Int32} {F : Nat → PF} {D n : Nat → Nat} {m : Nat} {x y : Int32} (h : xk_fs fd fp fcl F D n m) : xk_fs (upd fd m x) (upd fp m y) fcl F D n m := by
  intro i hi
  rw [pk_un (by omega), pk_un (by omega)]; exact h i hi
/-- what the class's split leaves for the polynomial A -/
def xk_ok (fd fp fcl : Nat → Int32) (A : PF) (m : Nat) : Prop :=
  (A = pf_c 0 ∧ m = 0) ∨ ∃ (N : Nat) (r : PF) (F : Nat → PF) (D n : Nat → Nat), pf_hd A N ∧ pf_Sp A r m F D n ∧ pf_so r m F D ∧ pf_hd r 0 ∧ xk_fs fd fp fcl F D n m
section
variable {f_tokenCount f_latestPlace f_stepCount f_waitingCount f_stackCount f_factorCount : Int32} {a_tokenKind a_tokenContent a_stepKind a_stepToken a_waitingKind a_waitingToken a_present a_cells a_leftTop a_leftBottom a_rightTop a_rightBottom a_top a_bottom a_product a_quotient a_common a_spare a_rest a_divisor a_inverse a_numerator a_factorDegrees a_factorPowers a_factorCells : Nat → Int32}
theorem xk_addFactor__divisor {post : SX → Prop} {p1 p2 : Int32} {f : PF} {F : Nat → PF} {D n : Nat → Nat} (m d k : Nat) (hm : m < 8) (hf : xv a_divisor f) (hs : xk_fs a_factorDegrees a_factorPowers a_factorCells F D n m)
    (h : ∀ a_factorDegrees a_factorPowers a_factorCells : Nat → Int32, xk_fs a_factorDegrees a_factorPowers a_factorCells (xk_ap F m f) (xk_ap D m d) (xk_ap n m k) (m + 1) → post (f_tokenCount, f_latestPlace, f_stepCount, f_waitingCount, f_stackCount, nI (m + 1), a_tokenKind, a_tokenContent, a_stepKind, a_stepToken, a_waitingKind, a_waitingToken, a_present, a_cells, a_leftTop, a_leftBottom, a_rightTop, a_rightBottom, a_top, a_bottom, a_product, a_quotient, a_common, a_spare, a_rest, a_divisor, a_inverse, a_numerator, a_factorDegrees, a_factorPowers, a_factorCells)) (e1 : p1 = nI d := by rfl) (e2 : p2 = nI k := by rfl) : wpX_addFactor__divisor post (f_tokenCount, f_latestPlace, f_stepCount, f_waitingCount, f_stackCount, nI m, a_tokenKind, a_tokenContent, a_stepKind, a_stepToken, a_waitingKind, a_waitingToken, a_present, a_cells, a_leftTop, a_leftBottom, a_rightTop, a_rightBottom, a_top, a_bottom, a_product, a_quotient, a_common, a_spare, a_rest, a_divisor, a_inverse, a_numerator, a_factorDegrees, a_factorPowers, a_factorCells) p1 p2 := by
  subst e1 e2
  have e9 : nI m * 9 = nI (m * 9) := pk_mul m 9
  unfold wpX_addFactor__divisor
  have key : ∀ q j, ∀ (a_factorDegrees a_factorPowers a_factorCells : Nat → Int32), j + q = 9 → xk_fs a_factorDegrees a_factorPowers a_factorCells F D n m → a_factorDegrees m = nI d → a_factorPowers m = nI k → (∀ t, t < j → a_factorCells (m * 9 + t) = fi_I (f t)) → wX_addFactor__divisor_32 post f_tokenCount f_latestPlace f_stepCount f_waitingCount f_stackCount (nI m) (q + 1) (nI j) a_tokenKind a_tokenContent a_stepKind a_stepToken a_waitingKind a_waitingToken a_present a_cells a_leftTop a_leftBottom a_rightTop a_rightBottom a_top a_bottom a_product a_quotient a_common a_spare a_rest a_divisor a_inverse a_numerator a_factorDegrees a_factorPowers a_factorCells := by
    intro q
    induction q with
    | zero =>
      intro j a_factorDegrees a_factorPowers a_factorCells hj h1 h2 h3 h4
      obtain rfl : j = 9 := by omega
      exact br_t (by decide) (nm_r (nI_1 m) (h _ _ _ (xk_fs1 h1 h2 h3 h4)))
    | succ q ih =>
      intro j a_factorDegrees a_factorPowers a_factorCells hj h1 h2 h3 h4
      refine br_f (nI_ge (b := 9) (by omega) (by decide)) ⟨vp_in_nI (by omega) (by omega), pk_in (m * 9 + j) 72 (by omega) (by rw [e9, nI_add]), nm_r (e' := upd a_factorCells (m * 9 + j) (fi_I (f j))) ?_ (nm_r (nI_1 j) (ih (j + 1) _ _ _ (by omega) (xk_fsc h1) h2 h3 (fun t ht => ?_)))⟩
      · rw [e9, nI_add, nI_clamp (by omega), nI_clamp (by omega), hf j (by omega)]
      · by_cases c : t = j
        · subst c; exact pk_us
        · rw [pk_un (by omega)]; exact h4 t (by omega)
  refine br_f (nI_ge (b := 8) hm (by decide)) ⟨vp_in_nI hm (by omega), nm_r (e' := upd a_factorDegrees m (nI d)) (by rw [nI_clamp (by omega)]) ⟨vp_in_nI hm (by omega), nm_r (e' := upd a_factorPowers m (nI k)) (by rw [nI_clamp (by omega)]) ⟨10, ?_⟩⟩⟩
  exact key 9 0 _ _ _ rfl (xk_fsd hs) pk_us pk_us (fun t ht => by omega)
theorem xk_addFactor__rest {post : SX → Prop} {p1 p2 : Int32} {f : PF} {F : Nat → PF} {D n : Nat → Nat} (m d k : Nat) (hm : m < 8) (hf : xv a_rest f) (hs : xk_fs a_factorDegrees a_factorPowers a_factorCells F D n m)
    (h : ∀ a_factorDegrees a_factorPowers a_factorCells : Nat → Int32, xk_fs a_factorDegrees a_factorPowers a_factorCells (xk_ap F m f) (xk_ap D m d) (xk_ap n m k) (m + 1) → post (f_tokenCount, f_latestPlace, f_stepCount, f_waitingCount, f_stackCount, nI (m + 1), a_tokenKind, a_tokenContent, a_stepKind, a_stepToken, a_waitingKind, a_waitingToken, a_present, a_cells, a_leftTop, a_leftBottom, a_rightTop, a_rightBottom, a_top, a_bottom, a_product, a_quotient, a_common, a_spare, a_rest, a_divisor, a_inverse, a_numerator, a_factorDegrees, a_factorPowers, a_factorCells)) (e1 : p1 = nI d := by rfl) (e2 : p2 = nI k := by rfl) : wpX_addFactor__rest post (f_tokenCount, f_latestPlace, f_stepCount, f_waitingCount, f_stackCount, nI m, a_tokenKind, a_tokenContent, a_stepKind, a_stepToken, a_waitingKind, a_waitingToken, a_present, a_cells, a_leftTop, a_leftBottom, a_rightTop, a_rightBottom, a_top, a_bottom, a_product, a_quotient, a_common, a_spare, a_rest, a_divisor, a_inverse, a_numerator, a_factorDegrees, a_factorPowers, a_factorCells) p1 p2 := by
  subst e1 e2
  have e9 : nI m * 9 = nI (m * 9) := pk_mul m 9
  unfold wpX_addFactor__rest
  have key : ∀ q j, ∀ (a_factorDegrees a_factorPowers a_factorCells : Nat → Int32), j + q = 9 → xk_fs a_factorDegrees a_factorPowers a_factorCells F D n m → a_factorDegrees m = nI d → a_factorPowers m = nI k → (∀ t, t < j → a_factorCells (m * 9 + t) = fi_I (f t)) → wX_addFactor__rest_32 post f_tokenCount f_latestPlace f_stepCount f_waitingCount f_stackCount (nI m) (q + 1) (nI j) a_tokenKind a_tokenContent a_stepKind a_stepToken a_waitingKind a_waitingToken a_present a_cells a_leftTop a_leftBottom a_rightTop a_rightBottom a_top a_bottom a_product a_quotient a_common a_spare a_rest a_divisor a_inverse a_numerator a_factorDegrees a_factorPowers a_factorCells := by
    intro q
    induction q with
    | zero =>
      intro j a_factorDegrees a_factorPowers a_factorCells hj h1 h2 h3 h4
      obtain rfl : j = 9 := by omega
      exact br_t (by decide) (nm_r (nI_1 m) (h _ _ _ (xk_fs1 h1 h2 h3 h4)))
    | succ q ih =>
      intro j a_factorDegrees a_factorPowers a_factorCells hj h1 h2 h3 h4
      refine br_f (nI_ge (b := 9) (by omega) (by decide)) ⟨vp_in_nI (by omega) (by omega), pk_in (m * 9 + j) 72 (by omega) (by rw [e9, nI_add]), nm_r (e' := upd a_factorCells (m * 9 + j) (fi_I (f j))) ?_ (nm_r (nI_1 j) (ih (j + 1) _ _ _ (by omega) (xk_fsc h1) h2 h3 (fun t ht => ?_)))⟩
      · rw [e9, nI_add, nI_clamp (by omega), nI_clamp (by omega), hf j (by omega)]
      · by_cases c : t = j
        · subst c; exact pk_us
        · rw [pk_un (by omega)]; exact h4 t (by omega)
  refine br_f (nI_ge (b := 8) hm (by decide)) ⟨vp_in_nI hm (by omega), nm_r (e' := upd a_factorDegrees m (nI d)) (by rw [nI_clamp (by omega)]) ⟨vp_in_nI hm (by omega), nm_r (e' := upd a_factorPowers m (nI k)) (by rw [nI_clamp (by omega)]) ⟨10, ?_⟩⟩⟩
  exact key 9 0 _ _ _ rfl (xk_fsd hs) pk_us pk_us (fun t ht => by omega)
theorem xk_takeOut {post : SX → Prop} {x : Int32} {R f : PF} {F : Nat → PF} {D n : Nat → Nat} {e : Nat} (m d : Nat) (hm : m < 8) (hd : 1 ≤ d) (hd9 : d < 9) (hf : pf_hd f d) (hR : pf_hd R e) (he : e ≤ 8) (hx : xv a_rest R) (hy : xv a_divisor f) (hs : xk_fs a_factorDegrees a_factorPowers a_factorCells F D n m)
    (h : ∀ (k e' : Nat) (R' : PF) (a_rest a_spare a_quotient : Nat → Int32), R = pf_mul R' (pf_pow f k) → ¬ pf_dv f R' → pf_hd R' e' → xv a_rest R' → (k = 0 → post (f_tokenCount, f_latestPlace, f_stepCount, f_waitingCount, f_stackCount, nI m, a_tokenKind, a_tokenContent, a_stepKind, a_stepToken, a_waitingKind, a_waitingToken, a_present, a_cells, a_leftTop, a_leftBottom, a_rightTop, a_rightBottom, a_top, a_bottom, a_product, a_quotient, a_common, a_spare, a_rest, a_divisor, a_inverse, a_numerator, a_factorDegrees, a_factorPowers, a_factorCells)) ∧ (1 ≤ k → ∀ a_factorDegrees a_factorPowers a_factorCells : Nat → Int32, xk_fs a_factorDegrees a_factorPowers a_factorCells (xk_ap F m f) (xk_ap D m d) (xk_ap n m k) (m + 1) → post (f_tokenCount, f_latestPlace, f_stepCount, f_waitingCount, f_stackCount, nI (m + 1), a_tokenKind, a_tokenContent, a_stepKind, a_stepToken, a_waitingKind, a_waitingToken, a_present, a_cells, a_leftTop, a_leftBottom, a_rightTop, a_rightBottom, a_top, a_bottom, a_product, a_quotient, a_common, a_spare, a_rest, a_divisor, a_inverse, a_numerator, a_factorDegrees, a_factorPowers, a_factorCells))) (ex : x = nI d := by rfl) : wpX_takeOut post (f_tokenCount, f_latestPlace, f_stepCount, f_waitingCount, f_stackCount, nI m, a_tokenKind, a_tokenContent, a_stepKind, a_stepToken, a_waitingKind, a_waitingToken, a_present, a_cells, a_leftTop, a_leftBottom, a_rightTop, a_rightBottom, a_top, a_bottom, a_product, a_quotient, a_common, a_spare, a_rest, a_divisor, a_inverse, a_numerator, a_factorDegrees, a_factorPowers, a_factorCells) x := by
  subst ex
  have ff := pf_hd_fin hf
  have p70 : ∀ (k e' : Nat) (R' : PF) (a_rest a_spare a_quotient : Nat → Int32), k ≤ 8 → R = pf_mul R' (pf_pow f k) → ¬ pf_dv f R' → pf_hd R' e' → xv a_rest R' → wX_takeOut_70 post (nI d) (nI k) f_tokenCount f_latestPlace f_stepCount f_waitingCount f_stackCount (nI m) a_tokenKind a_tokenContent a_stepKind a_stepToken a_waitingKind a_waitingToken a_present a_cells a_leftTop a_leftBottom a_rightTop a_rightBottom a_top a_bottom a_product a_quotient a_common a_spare a_rest a_divisor a_inverse a_numerator a_factorDegrees a_factorPowers a_factorCells := by
    intro k e' R' a_rest a_spare a_quotient hk h1 h2 h3 h4
    obtain ⟨g0, g1⟩ := h k e' R' a_rest a_spare a_quotient h1 h2 h3 h4
    by_cases c : k = 0
    · subst c; exact br_t (by decide) (g0 rfl)
    · exact br_f (nI_nle (by omega) (by omega)) (xk_addFactor__divisor m d k hm hy hs (fun a_factorDegrees a_factorPowers a_factorCells hs' => g1 (by omega) _ _ _ hs'))
  have key : ∀ q j, ∀ (R' : PF) (e' : Nat) (a_rest a_spare a_quotient : Nat → Int32), j + q = 8 → R = pf_mul R' (pf_pow f j) → pf_hd R' e' → e' + j * d = e → xv a_rest R' → wX_takeOut_4 post (nI d) (q + 1) (nI j) (nI j) f_tokenCount f_latestPlace f_stepCount f_waitingCount f_stackCount (nI m) a_tokenKind a_tokenContent a_stepKind a_stepToken a_waitingKind a_waitingToken a_present a_cells a_leftTop a_leftBottom a_rightTop a_rightBottom a_top a_bottom a_product a_quotient a_common a_spare a_rest a_divisor a_inverse a_numerator a_factorDegrees a_factorPowers a_factorCells := by
    intro q
    induction q with
    | zero =>
      intro j R' e' a_rest a_spare a_quotient hj h1 h2 h3 h4
      obtain rfl : j = 8 := by omega
      exact br_t (by decide) (p70 8 e' R' _ _ _ (by omega) h1 (pf_nd_lt hf h2 (by omega)) h2 h4)
    | succ q ih =>
      intro j R' e' a_rest a_spare a_quotient hj h1 h2 h3 h4
      have l17 : pf_ln R' 17 := pf_ln_mono h2.1 (by omega)
      refine br_f (nI_ge (b := 8) (by omega) (by omega)) (xf_copy__rest_spare h4 (fun a_spare hsp => xf_divide__spare_divisor_quotient d (by omega) hf hsp hy l17 (fun Q R2 lQ lR2 eq a_spare a_quotient hs2 hq => xf_degreeOf__spare hs2 (pf_ln_mono lR2 (by omega)) (fun z => ?_) (fun d2 hd2 hD2 => ?_))))
      · rw [z, pf_add_0] at eq
        have hQ2 := pf_hd_q hf ⟨_, lQ⟩ (eq ▸ h2)
        refine br_t (by decide) (xf_copy__quotient_rest hq (fun a_rest hr => nm_r (nI_1 j) (nm_r (nI_1 j) (ih (j + 1) Q (e' - d) _ _ _ (by omega) ?_ hQ2.1 ?_ hr))))
        · rw [h1, eq]
          show _ = pf_mul Q (pf_mul (pf_pow f j) f)
          generalize pf_pow f j = p
          letI := pf_ring
          show Q * f * p = Q * (p * f)
          grind
        · rw [Nat.succ_mul]; omega
      · refine br_f (nI_pos (by omega)) (p70 j e' R' _ _ _ (by omega) h1 (fun dv => ?_) h2 h4)
        rw [eq] at dv
        exact pf_hd_n0 hD2 (pf_dv_rem hf ⟨_, lQ⟩ lR2 dv)
  refine ⟨9, key 8 0 R e _ _ _ rfl ?_ hR (by omega) hx⟩
  show _ = pf_mul R (pf_c 1)
  rw [pf_mul_comm, pf_one_mul]
theorem xk_setMonic {post : SX → Prop} {y z : Int32} (d t : Nat) (hd : d < 17) (ht : t < 2 ^ 31) (h : ∀ a_divisor : Nat → Int32, xv a_divisor (pf_mk d t) → post (f_tokenCount, f_latestPlace, f_stepCount, f_waitingCount, f_stackCount, f_factorCount, a_tokenKind, a_tokenContent, a_stepKind, a_stepToken, a_waitingKind, a_waitingToken, a_present, a_cells, a_leftTop, a_leftBottom, a_rightTop, a_rightBottom, a_top, a_bottom, a_product, a_quotient, a_common, a_spare, a_rest, a_divisor, a_inverse, a_numerator, a_factorDegrees, a_factorPowers, a_factorCells)) (ey : y = nI d := by rfl) (ez : z = nI t := by rfl) : wpX_setMonic__divisor post (f_tokenCount, f_latestPlace, f_stepCount, f_waitingCount, f_stackCount, f_factorCount, a_tokenKind, a_tokenContent, a_stepKind, a_stepToken, a_waitingKind, a_waitingToken, a_present, a_cells, a_leftTop, a_leftBottom, a_rightTop, a_rightBottom, a_top, a_bottom, a_product, a_quotient, a_common, a_spare, a_rest, a_divisor, a_inverse, a_numerator, a_factorDegrees, a_factorPowers, a_factorCells) y z := by
  subst ey ez
  have key : ∀ m j, ∀ (a_divisor : Nat → Int32), j + m = d → xv a_divisor (fun k => if k < j then Fin.ofNat 5 (t / 5 ^ k) else 0) → wX_setMonic__divisor_10 post (nI d) f_tokenCount f_latestPlace f_stepCount f_waitingCount f_stackCount f_factorCount (m + 1) (nI (t / 5 ^ j)) (nI j) a_tokenKind a_tokenContent a_stepKind a_stepToken a_waitingKind a_waitingToken a_present a_cells a_leftTop a_leftBottom a_rightTop a_rightBottom a_top a_bottom a_product a_quotient a_common a_spare a_rest a_divisor a_inverse a_numerator a_factorDegrees a_factorPowers a_factorCells := by
    intro m
    induction m with
    | zero =>
      intro j a_divisor hj hv
      obtain rfl : j = d := by omega
      refine br_t (nI_le (by omega) (by omega)) ⟨vp_in_nI hd (by omega), nm_r (e' := upd a_divisor j (fi_I 1)) (by rw [nI_clamp (by omega)]; rfl) (h _ ?_)⟩
      intro k hk
      show _ = fi_I (if k < j then Fin.ofNat 5 (t / 5 ^ k) else if k = j then 1 else 0)
      by_cases c : k = j
      · subst c; rw [pk_us, if_neg (by omega), if_pos rfl]
      · rw [pk_un c, hv k hk, if_neg c]
    | succ m ih =>
      intro j a_divisor hj hv
      have ht2 : t / 5 ^ j < 2 ^ 31 := Nat.lt_of_le_of_lt (Nat.div_le_self _ _) ht
      have er : nI (t / 5 ^ j) - nI (t / 5 ^ j) / 5 * 5 = fi_I (Fin.ofNat 5 (t / 5 ^ j)) := pk_rem (d := 5) ht2 (by decide) (by decide)
      have ed : nI (t / 5 ^ j) / 5 = nI (t / 5 ^ j / 5) := pk_div (d := 5) ht2 (by decide) (by decide)
      refine br_f (nI_ge (by omega) (by omega)) ⟨by decide, vp_in_nI (by omega) (by omega), nm_r (e' := upd a_divisor j (fi_I (Fin.ofNat 5 (t / 5 ^ j)))) (by rw [nI_clamp (by omega), er]) ⟨by decide, nm_r (e' := nI (t / 5 ^ (j + 1))) (by rw [ed, Nat.div_div_eq_div_mul, Nat.pow_succ]) (nm_r (nI_1 j) (ih (j + 1) _ (by omega) ?_))⟩⟩
      intro k hk
      dsimp only
      by_cases c : k = j
      · subst c; rw [pk_us, if_pos (by omega)]
      · rw [pk_un c, hv k hk]
        dsimp only
        by_cases c2 : k < j
        · rw [if_pos c2, if_pos (by omega)]
        · rw [if_neg c2, if_neg (by omega)]
  unfold wpX_setMonic__divisor
  refine xf_setNumber__divisor 0 (fun a_divisor hv => ⟨d + 1, ?_⟩)
  have u := key d 0 a_divisor (by omega) (xv_e hv (fun k _ => by
    show (if k = 0 then (0 : Fin 5) else 0) = if k < 0 then _ else 0
    rw [ite_self, if_neg (by omega)]))
  rw [Nat.pow_zero, Nat.div_one] at u
  exact u
end
