/-! The class's split, to its end -/
def xk_st (A R : PF) (m e : Nat) (rs fd fp fcl : Nat → Int32) : Prop := ∃ (F : Nat → PF) (D n : Nat → Nat), pf_Sp A R m F D n ∧ pf_so R m F D ∧ xk_fs fd fp fcl F D n m ∧ xv rs R ∧ pf_hd R e ∧ e ≤ 8 ∧ R e = 1
theorem xk_st_m {A R : PF} {m e N : Nat} {rs fd fp fcl : Nat → Int32} (h : xk_st A R m e rs fd fp fcl) (hA : pf_hd A N) : m + e ≤ N := by
  obtain ⟨F, D, n, S, so, fs, hx, hr, he, h1⟩ := h
  obtain ⟨e2, h2, h3⟩ := pf_Sp_deg S hA (pf_hd_fin hr)
  have h4 := pf_hd_u hr h2
  have := pf_ns_ge (m := m) (fun i hi => ⟨S.2.1 i hi, (S.1 i hi).2.1⟩)
  omega
section
variable {f_tokenCount f_latestPlace f_stepCount f_waitingCount f_stackCount f_factorCount : Int32} {a_tokenKind a_tokenContent a_stepKind a_stepToken a_waitingKind a_waitingToken a_present a_cells a_leftTop a_leftBottom a_rightTop a_rightBottom a_top a_bottom a_product a_quotient a_common a_spare a_rest a_divisor a_inverse a_numerator a_factorDegrees a_factorPowers a_factorCells : Nat → Int32}
theorem xk_split69 {post : SX → Prop} {A : PF} {N d : Nat} (hA : pf_hd A N) (hN : N ≤ 8) (hd1 : 1 ≤ d) (hd4 : d ≤ 4)
    (J : Int32 → Int32 → Int32 → Int32 → Int32 → Int32 → Int32 → Int32 → (Nat → Int32) → (Nat → Int32) → (Nat → Int32) → (Nat → Int32) → (Nat → Int32) → (Nat → Int32) → (Nat → Int32) → (Nat → Int32) → (Nat → Int32) → (Nat → Int32) → (Nat → Int32) → (Nat → Int32) → (Nat → Int32) → (Nat → Int32) → (Nat → Int32) → (Nat → Int32) → (Nat → Int32) → (Nat → Int32) → (Nat → Int32) → (Nat → Int32) → (Nat → Int32) → (Nat → Int32) → (Nat → Int32) → (Nat → Int32) → (Nat → Int32) → Prop)
    (hJ : ∀ (m e : Nat) (R : PF) (a_rest a_divisor a_spare a_quotient a_factorDegrees a_factorPowers a_factorCells : Nat → Int32), xk_st A R m e a_rest a_factorDegrees a_factorPowers a_factorCells → pf_fr (d + 1) R e → J (nI (5 ^ d)) (nI (d + 1)) f_tokenCount f_latestPlace f_stepCount f_waitingCount f_stackCount (nI m) a_tokenKind a_tokenContent a_stepKind a_stepToken a_waitingKind a_waitingToken a_present a_cells a_leftTop a_leftBottom a_rightTop a_rightBottom a_top a_bottom a_product a_quotient a_common a_spare a_rest a_divisor a_inverse a_numerator a_factorDegrees a_factorPowers a_factorCells) :
    ∀ (k t m e : Nat) (R : PF) (a_rest a_divisor a_spare a_quotient a_factorDegrees a_factorPowers a_factorCells : Nat → Int32), t + k = 5 ^ d → xk_st A R m e a_rest a_factorDegrees a_factorPowers a_factorCells → pf_fr d R e → (∀ s, s < t → ¬ pf_dv (pf_mk d s) R) → wX_split_69 post J (nI (5 ^ d)) (nI d) (k + 1) (nI t) f_tokenCount f_latestPlace f_stepCount f_waitingCount f_stackCount (nI m) a_tokenKind a_tokenContent a_stepKind a_stepToken a_waitingKind a_waitingToken a_present a_cells a_leftTop a_leftBottom a_rightTop a_rightBottom a_top a_bottom a_product a_quotient a_common a_spare a_rest a_divisor a_inverse a_numerator a_factorDegrees a_factorPowers a_factorCells := by
  have h625 := pf_5pow hd4
  intro k
  induction k with
  | zero =>
    intro t m e R a_rest a_divisor a_spare a_quotient a_factorDegrees a_factorPowers a_factorCells ht st hf hs
    refine br_t (nI_le (by omega) (by omega)) (nm_r (nI_1 d) (hJ m e R _ _ _ _ _ _ _ st ?_))
    intro e' s h1 h2 h3 h4
    by_cases c : e' = d
    · subst c; exact hs s (by omega)
    · exact hf e' s h1 (by omega) h3 h4
  | succ k ih =>
    intro t m e R a_rest a_divisor a_spare a_quotient a_factorDegrees a_factorPowers a_factorCells ht st hf hs
    have hme := xk_st_m st hA
    have st0 := st
    obtain ⟨F, D, n, S, so, fs, hx, hr, he, hr1⟩ := st
    refine br_f (nI_ge (by omega) (by omega)) (xf_degreeOf__rest hx (pf_ln_mono hr.1 (by omega)) (fun z => absurd z (pf_hd_n0 hr)) (fun e' he' hr' => ?_))
    obtain rfl := pf_hd_u hr' hr
    by_cases c : e' < 2 * d
    · refine br_f (Int32.not_le.mpr ((fi_deg2 (by omega) (by omega)).mpr c)) (nm_r (nI_1 d) (hJ m e' R _ _ _ _ _ _ _ st0 ?_))
      intro e s h1 h2 h3 h4
      exact hf e s h1 (by omega) h3 h4
    · refine br_t (Int32.not_lt.mp (fun z => c ((fi_deg2 (by omega) (by omega)).mp z))) (xk_setMonic d t (by omega) (by omega) (fun a_divisor hy => ?_))
      refine xk_takeOut m d (by omega) hd1 (by omega) (pf_mk_hd d t) hr he hx hy fs (fun q D1 R' a_rest a_spare a_quotient er nd hD1 hx' => ?_)
      have fmk := pf_hd_fin (pf_mk_hd d t)
      have dvr : pf_dv R' R := ⟨pf_pow (pf_mk d t) q, pf_fin_pow fmk q, by rw [er, pf_mul_comm]⟩
      have hD1e : D1 ≤ e' := by
        obtain ⟨d2, _, h1, _, h2, _⟩ := pf_dv_hd dvr hr (pf_hd_fin hD1)
        have := pf_hd_u hD1 h1
        omega
      have hf' : pf_fr d R' D1 := pf_fr_dv hf hD1e dvr
      have hs' : ∀ s, s < t + 1 → ¬ pf_dv (pf_mk d s) R' := by
        intro s hs2
        by_cases c2 : s = t
        · rw [c2]; exact nd
        · exact fun dv => hs s (by omega) (pf_dv_t dv dvr)
      have hm1 : R' D1 = 1 := pf_mon_q (pf_mk_hd d t) (pf_mk_top d t) hr hr1 hD1 er
      refine ⟨fun hq => ?_, fun hq a_factorDegrees a_factorPowers a_factorCells fs' => ?_⟩
      · subst hq
        have er2 : R = R' := by rw [er]; show pf_mul R' (pf_c 1) = _; rw [pf_mul_comm, pf_one_mul]
        exact nm_r (nI_1 t) (ih (t + 1) m D1 R' _ _ _ _ _ _ _ (by omega) ⟨F, D, n, er2 ▸ S, er2 ▸ so, fs, hx', hD1, by omega, hm1⟩ hf' hs')
      · have dv : pf_dv (pf_mk d t) R := by
          rw [er]
          obtain ⟨q', rfl⟩ : ∃ q', q = q' + 1 := ⟨q - 1, by omega⟩
          exact pf_dv_ml (pf_dv_ml (pf_dv_r _) (pf_fin_pow fmk q')) (pf_hd_fin hD1)
        have hirr : pf_irr (pf_mk d t) d := pf_irr_mk hd1 (fun e s h1 h2 h3 => hf e s h1 h2 (by omega) h3) dv
        obtain ⟨S3, so3⟩ := pf_keep S so hirr hq er nd (pf_hd_fin hD1) (by omega) (fun e s h1 h2 dv => pf_key (fun e s h1 h2 h3 dv => hf e s h1 h2 (by omega) h3 (pf_dv_t dv dvr)) hs' (by omega) h1 h2 dv)
        exact nm_r (nI_1 t) (ih (t + 1) (m + 1) D1 R' _ _ _ _ _ _ _ (by omega) ⟨_, _, _, S3, so3, fs', hx', hD1, by omega, hm1⟩ hf' hs')
theorem xk_split54 {post : SX → Prop} {A : PF} {N : Nat} (hA : pf_hd A N) (hN : N ≤ 8)
    (h : ∀ (m : Nat) (r : PF) (F : Nat → PF) (D n : Nat → Nat) (a_rest a_divisor a_spare a_quotient a_factorDegrees a_factorPowers a_factorCells : Nat → Int32), m ≤ 8 → pf_Sp A r m F D n → pf_so r m F D → pf_hd r 0 → xk_fs a_factorDegrees a_factorPowers a_factorCells F D n m → post (f_tokenCount, f_latestPlace, f_stepCount, f_waitingCount, f_stackCount, nI m, a_tokenKind, a_tokenContent, a_stepKind, a_stepToken, a_waitingKind, a_waitingToken, a_present, a_cells, a_leftTop, a_leftBottom, a_rightTop, a_rightBottom, a_top, a_bottom, a_product, a_quotient, a_common, a_spare, a_rest, a_divisor, a_inverse, a_numerator, a_factorDegrees, a_factorPowers, a_factorCells)) :
    ∀ (k d m e : Nat) (R : PF) (a_rest a_divisor a_spare a_quotient a_factorDegrees a_factorPowers a_factorCells : Nat → Int32), d + k = 4 → xk_st A R m e a_rest a_factorDegrees a_factorPowers a_factorCells → pf_fr (d + 1) R e → wX_split_54 post (k + 1) (nI (5 ^ d)) (nI (d + 1)) f_tokenCount f_latestPlace f_stepCount f_waitingCount f_stackCount (nI m) a_tokenKind a_tokenContent a_stepKind a_stepToken a_waitingKind a_waitingToken a_present a_cells a_leftTop a_leftBottom a_rightTop a_rightBottom a_top a_bottom a_product a_quotient a_common a_spare a_rest a_divisor a_inverse a_numerator a_factorDegrees a_factorPowers a_factorCells := by
  intro k
  induction k with
  | zero =>
    intro d m e R a_rest a_divisor a_spare a_quotient a_factorDegrees a_factorPowers a_factorCells hd st hf
    obtain rfl : d = 4 := by omega
    have hme := xk_st_m st hA
    obtain ⟨F, D, n, S, so, fs, hx, hr, he, hr1⟩ := st
    refine br_t (by decide) (xf_degreeOf__rest hx (pf_ln_mono hr.1 (by omega)) (fun z => absurd z (pf_hd_n0 hr)) (fun e' he' hr' => ?_))
    obtain rfl := pf_hd_u hr' hr
    by_cases c0 : e' = 0
    · subst c0
      exact br_t (by decide) (h m R F D n _ _ _ _ _ _ _ (by omega) S so hr fs)
    · refine br_f (nI_nle (by omega) (by omega)) (xk_addFactor__rest m e' 1 (by omega) hx fs (fun a_factorDegrees a_factorPowers a_factorCells fs' => ?_))
      obtain ⟨t, ht, et⟩ := pf_mk_all e' R hr.1 hr1
      have hi : pf_irr R e' := pf_irr_last hr (by omega) (by omega) hf
      rw [et] at hi S so fs'
      have h0 : pf_hd (pf_c 1) 0 := pf_hd_c (by decide)
      obtain ⟨S3, so3⟩ := pf_keep (r' := pf_c 1) S so hi (Nat.le_refl 1) (by rw [pf_pow1, pf_one_mul]) (pf_nd_lt hi.1 h0 (by omega)) (pf_fin_c _) ht (fun e s h1 h2 dv => absurd dv (pf_nd_lt (pf_mk_hd e s) h0 (by omega)))
      exact h (m + 1) _ _ _ _ _ _ _ _ _ _ _ (by omega) S3 so3 h0 fs'
  | succ k ih =>
    intro d m e R a_rest a_divisor a_spare a_quotient a_factorDegrees a_factorPowers a_factorCells hd st hf
    have e5 : nI (5 ^ d) * 5 = nI (5 ^ (d + 1)) := by rw [Nat.pow_succ]; exact pk_mul (5 ^ d) 5
    refine br_f (nI_nlt (a := 4) (b := d + 1) (by omega) (by omega)) (nm_r e5 ⟨5 ^ (d + 1) + 1, ?_⟩)
    exact xk_split69 hA hN (by omega) (by omega) _ (fun m e R a_rest a_divisor a_spare a_quotient a_factorDegrees a_factorPowers a_factorCells st hf => ih (d + 1) m e R _ _ _ _ _ _ _ (by omega) st hf) (5 ^ (d + 1)) 0 m e R _ _ _ _ _ _ _ (by omega) st hf (fun s hs => by omega)
theorem xk_split {post : SX → Prop} {p0 p1 : Int32} {C : PF} (s t : Nat) (hs : s < 31) (ht : t < 2) (hC : ∀ k, k < 9 → a_cells ((s * 2 + t) * 9 + k) = fi_I (C k)) (lC : pf_ln C 9)
    (h : ∀ (m : Nat) (a_rest a_divisor a_spare a_quotient a_factorDegrees a_factorPowers a_factorCells : Nat → Int32), m ≤ 8 → xk_ok a_factorDegrees a_factorPowers a_factorCells C m → post (f_tokenCount, f_latestPlace, f_stepCount, f_waitingCount, f_stackCount, nI m, a_tokenKind, a_tokenContent, a_stepKind, a_stepToken, a_waitingKind, a_waitingToken, a_present, a_cells, a_leftTop, a_leftBottom, a_rightTop, a_rightBottom, a_top, a_bottom, a_product, a_quotient, a_common, a_spare, a_rest, a_divisor, a_inverse, a_numerator, a_factorDegrees, a_factorPowers, a_factorCells)) (e0 : p0 = nI s := by rfl) (e1 : p1 = nI t := by rfl) : wpX_split post (f_tokenCount, f_latestPlace, f_stepCount, f_waitingCount, f_stackCount, f_factorCount, a_tokenKind, a_tokenContent, a_stepKind, a_stepToken, a_waitingKind, a_waitingToken, a_present, a_cells, a_leftTop, a_leftBottom, a_rightTop, a_rightBottom, a_top, a_bottom, a_product, a_quotient, a_common, a_spare, a_rest, a_divisor, a_inverse, a_numerator, a_factorDegrees, a_factorPowers, a_factorCells) p0 p1 := by
  subst e0 e1
  unfold wpX_split
  refine xf_load__rest s t hs ht hC lC (fun a_rest hx => xf_degreeOf__rest hx (pf_ln_mono lC (by omega)) (fun z => ?_) (fun N hN hA => ?_))
  · exact br_f (by decide) (h 0 _ _ _ _ _ _ _ (by omega) (Or.inl ⟨z, rfl⟩))
  · have hN9 : N < 9 := pf_hd_lt hA lC
    have cz : C N * C N * C N ≠ 0 := pf_nz _ _ (pf_nz _ _ hA.2 hA.2) hA.2
    have eC : pf_mul (pf_c (C N)) (pf_mul (pf_c (C N * C N * C N)) C) = C := pf_c_inv hA.2 C
    have hA0 : pf_hd (pf_mul (pf_c (C N * C N * C N)) C) N := pf_c_hd cz hA
    refine br_t (nI_pos' (by omega)) ⟨vp_in_nI (by omega) (by omega), by decide, xf_multiplyByNumber__rest (C N * C N * C N) hx (fun a_rest hx2 => ⟨5, ?_⟩) (by rw [nI_clamp (by omega), hx N (by omega), xm_inv])⟩
    rw [pf_sc] at hx2
    refine xk_split54 hA0 (by omega) (fun m r F D n a_rest a_divisor a_spare a_quotient a_factorDegrees a_factorPowers a_factorCells hm S so hr fs => ?_) 4 0 0 N _ _ _ _ _ _ _ _ (by omega) ⟨fun _ => pf_c 0, fun _ => 0, fun _ => 0, pf_Sp0 _ _ _ _, pf_so0 _ _ _, fun i hi => by omega, hx2, hA0, by omega, ?_⟩ (fun e s h1 h2 => by omega)
    · refine h m _ _ _ _ _ _ _ hm (Or.inr ⟨N, pf_mul (pf_c (C N)) r, F, D, n, hA, ?_, pf_so_c hA.2 so, pf_c_hd hA.2 hr, fs⟩)
      have u := pf_Sp_c hA.2 S
      rw [eC] at u
      exact u
    · rw [pf_mul_cl]; exact pf_inv _ hA.2
end
