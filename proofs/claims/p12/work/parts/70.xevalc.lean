/-! The class's evaluate: the loop over the steps -/
theorem pr_run_app {vs : Nat → Option (PF × PF)} {cn : Nat → Int32} {t : List (Nat × Nat)} {c p : Nat} {L : List (PF × PF)} (h : pr_run vs cn t c p L) (hc : c ≠ 0) : ∀ l : List (Nat × Nat), pr_run vs cn (l ++ t) c p L := by
  intro l
  induction l with
  | nil => exact h
  | cons s l ih => exact pr_run_f ih hc s L
section
variable {f_tokenCount f_latestPlace f_stepCount f_waitingCount f_stackCount f_factorCount : Int32} {a_tokenKind a_tokenContent a_stepKind a_stepToken a_waitingKind a_waitingToken a_present a_cells a_leftTop a_leftBottom a_rightTop a_rightBottom a_top a_bottom a_product a_quotient a_common a_spare a_rest a_divisor a_inverse a_numerator a_factorDegrees a_factorPowers a_factorCells : Nat → Int32}
theorem xb_countOperands {post : Int32 → Prop} {x : Int32} (k : Nat) (hk : k ≤ 12) (h0 : k ≤ 2 → post 0) (h1 : (k = 9 ∨ k = 10 ∨ k = 12) → post 1) (h2 : ¬ k ≤ 2 → ¬ (k = 9 ∨ k = 10 ∨ k = 12) → post 2) (ex : x = nI k := by rfl) : wpX_countOperands post x := by
  subst ex
  have ne : ∀ q, q < 2 ^ 31 → k ≠ q → ¬ nI k = nI q := fun q hq n z => n ((nI_eq (by omega) hq).mp z)
  unfold wpX_countOperands
  by_cases c2 : k ≤ 2
  · exact br_f (nI_nlt (a := 2) (by omega) (by decide)) (h0 c2)
  · refine br_t (nI_lt (a := 2) (by omega) (by omega)) ?_
    by_cases c12 : k = 12
    · exact br_t (by rw [c12]; rfl) (h1 (Or.inr (Or.inr c12)))
    · refine br_f (ne 12 (by decide) c12) ?_
      by_cases c9 : k = 9
      · exact br_t (by rw [c9]; rfl) (h1 (Or.inl c9))
      · refine br_f (ne 9 (by decide) c9) ?_
        by_cases c10 : k = 10
        · exact br_t (by rw [c10]; rfl) (h1 (Or.inr (Or.inl c10)))
        · exact br_f (ne 10 (by decide) c10) (h2 c2 (by omega))
theorem xb_evloop {post : Int32 → SX → Prop} {vs : Nat → Option (PF × PF)} {cn : Nat → Int32} {kd : Nat → Nat} {cnt : Nat} {ro : List (Nat × Nat)} (hc : cnt ≤ 24) (hlen : ro.length ≤ cnt) (hwf : sy_wf ro 1) (hlt : sy_lt cnt ro) (hkd : sy_kd kd ro) (hrep : sy_rep a_stepKind a_stepToken ro)
    (tkn : ∀ j, j < cnt → a_tokenContent j = cn j ∧ kd j ≤ 11 ∧ (kd j = 2 → ∃ n, n < 6 ∧ cn j = nI n) ∧ (kd j = 9 → ∃ q, q ≤ 8 ∧ (cn j = nI q ∨ (cn j = -nI q ∧ 1 ≤ q)))) (hb : xw_b a_present) (cl0 : Nat → Int32)
    (hF : ∀ (code place : Nat) (L : List (PF × PF)) (f_stackCount : Int32) (cl : Nat → Int32), ∀ a_leftTop a_leftBottom a_rightTop a_rightBottom a_top a_bottom a_product a_quotient a_common a_spare a_rest a_divisor a_inverse a_numerator : Nat → Int32, code ≠ 0 → code ≤ 4 → pr_run vs cn ro code place L → (∀ i, i < 126 → cl i = cl0 i) → post (nI code) (f_tokenCount, nI place, nI ro.length, f_waitingCount, f_stackCount, f_factorCount, a_tokenKind, a_tokenContent, a_stepKind, a_stepToken, a_waitingKind, a_waitingToken, a_present, cl, a_leftTop, a_leftBottom, a_rightTop, a_rightBottom, a_top, a_bottom, a_product, a_quotient, a_common, a_spare, a_rest, a_divisor, a_inverse, a_numerator, a_factorDegrees, a_factorPowers, a_factorCells))
    (h0 : ∀ (place : Nat) (w : PF × PF) (f_stackCount : Int32) (cl : Nat → Int32), ∀ a_leftTop a_leftBottom a_rightTop a_rightBottom a_top a_bottom a_product a_quotient a_common a_spare a_rest a_divisor a_inverse a_numerator : Nat → Int32, pr_run vs cn ro 0 place [w] → pr_ok w → xs_pair cl 6 w → (∀ i, i < 108 → cl i = cl0 i) → post 0 (f_tokenCount, f_latestPlace, nI ro.length, f_waitingCount, f_stackCount, f_factorCount, a_tokenKind, a_tokenContent, a_stepKind, a_stepToken, a_waitingKind, a_waitingToken, upd a_present 6 (vp_nar .boolean 1), cl, a_leftTop, a_leftBottom, a_rightTop, a_rightBottom, a_top, a_bottom, a_product, a_quotient, a_common, a_spare, a_rest, a_divisor, a_inverse, a_numerator, a_factorDegrees, a_factorPowers, a_factorCells)) :
    ∀ (m : Nat) (pre S : List (Nat × Nat)) (L : List (PF × PF)) (pl : Nat) (cl : Nat → Int32), ∀ a_leftTop a_leftBottom a_rightTop a_rightBottom a_top a_bottom a_product a_quotient a_common a_spare a_rest a_divisor a_inverse a_numerator : Nat → Int32, pre.length = m → ro = pre ++ S → pr_run vs cn S 0 pl L → xs_rep cl L → xs_vs cl a_present vs → (∀ i, i < 126 → cl i = cl0 i) →
      wX_evaluate_36 post (m + 1) (nI S.length) f_tokenCount f_latestPlace (nI ro.length) f_waitingCount (nI L.length) f_factorCount a_tokenKind a_tokenContent a_stepKind a_stepToken a_waitingKind a_waitingToken a_present (cl) a_leftTop a_leftBottom a_rightTop a_rightBottom a_top a_bottom a_product a_quotient a_common a_spare a_rest a_divisor a_inverse a_numerator a_factorDegrees a_factorPowers a_factorCells := by
  intro m
  induction m with
  | zero =>
    intro pre S L pl cl a_leftTop a_leftBottom a_rightTop a_rightBottom a_top a_bottom a_product a_quotient a_common a_spare a_rest a_divisor a_inverse a_numerator hpre hro hrun hxs hvs hcl
    have e0 : pre = [] := List.length_eq_zero_iff.mp hpre
    subst e0
    have eS : ro = S := hro
    subst eS
    have l1 := pr_run_l _ _ _ _ hrun hwf
    obtain ⟨w, eL⟩ : ∃ w, L = [w] := by
      cases L with
      | nil => exact absurd l1 (by decide)
      | cons w t =>
        cases t with
        | nil => exact ⟨w, rfl⟩
        | cons a b => exact absurd (show b.length + 1 + 1 = 1 from l1) (by omega)
    subst eL
    refine br_t (nI_le (Nat.le_refl _) (by omega)) ?_
    have hp : xs_pair cl 7 w := hxs.1
    have ca : ∀ (cl2 : Nat → Int32), (∀ k, k < 18 → cl2 (6 * 18 + k) = cl (7 * 18 + k)) → (∀ i, i < 6 * 18 ∨ 6 * 18 + 18 ≤ i → cl2 i = cl i) → post 0 (f_tokenCount, f_latestPlace, nI ro.length, f_waitingCount, nI [w].length, f_factorCount, a_tokenKind, a_tokenContent, a_stepKind, a_stepToken, a_waitingKind, a_waitingToken, upd a_present 6 (vp_nar .boolean 1), cl2, a_leftTop, a_leftBottom, a_rightTop, a_rightBottom, a_top, a_bottom, a_product, a_quotient, a_common, a_spare, a_rest, a_divisor, a_inverse, a_numerator, a_factorDegrees, a_factorPowers, a_factorCells) := by
      intro cl2 k1 k2
      refine h0 pl w _ cl2 _ _ _ _ _ _ _ _ _ _ _ _ _ _ hrun hxs.2.1 ⟨fun k hk => ?_, fun k hk => ?_⟩ (fun i hi => by rw [k2 i (by omega)]; exact hcl i (by omega))
      · have t := k1 k (by omega)
        have e1 : (6 * 2 + 0) * 9 + k = 6 * 18 + k := by omega
        have e2 : (7 * 2 + 0) * 9 + k = 7 * 18 + k := by omega
        rw [e1, t, ← e2]; exact hp.1 k hk
      · have t := k1 (9 + k) (by omega)
        have e1 : (6 * 2 + 1) * 9 + k = 6 * 18 + (9 + k) := by omega
        have e2 : (7 * 2 + 1) * 9 + k = 7 * 18 + (9 + k) := by omega
        rw [e1, t, ← e2]; exact hp.2 k hk
    -- the copy of slot 7 to slot 6
    have key : ∀ d j, ∀ cl2 : Nat → Int32, j + d = 18 → (∀ k, k < j → cl2 (6 * 18 + k) = cl (7 * 18 + k)) → (∀ i, i < 6 * 18 ∨ 6 * 18 + 18 ≤ i → cl2 i = cl i) → wX_copySlot_6 (fun u => match u with | (f_tokenCount, f_latestPlace, f_stepCount, f_waitingCount, f_stackCount, f_factorCount, a_tokenKind, a_tokenContent, a_stepKind, a_stepToken, a_waitingKind, a_waitingToken, a_present, a_cells, a_leftTop, a_leftBottom, a_rightTop, a_rightBottom, a_top, a_bottom, a_product, a_quotient, a_common, a_spare, a_rest, a_divisor, a_inverse, a_numerator, a_factorDegrees, a_factorPowers, a_factorCells) => (∀ a_present_102 : Nat → Int32, a_present_102 = upd a_present 6 (vp_nar .boolean 1) → (post 0 (f_tokenCount, f_latestPlace, f_stepCount, f_waitingCount, f_stackCount, f_factorCount, a_tokenKind, a_tokenContent, a_stepKind, a_stepToken, a_waitingKind, a_waitingToken, a_present_102, a_cells, a_leftTop, a_leftBottom, a_rightTop, a_rightBottom, a_top, a_bottom, a_product, a_quotient, a_common, a_spare, a_rest, a_divisor, a_inverse, a_numerator, a_factorDegrees, a_factorPowers, a_factorCells)))) 7 6 18 f_tokenCount f_latestPlace (nI ro.length) f_waitingCount (nI [w].length) f_factorCount (d + 1) (nI j) a_tokenKind a_tokenContent a_stepKind a_stepToken a_waitingKind a_waitingToken a_present (cl2) a_leftTop a_leftBottom a_rightTop a_rightBottom a_top a_bottom a_product a_quotient a_common a_spare a_rest a_divisor a_inverse a_numerator a_factorDegrees a_factorPowers a_factorCells := by
      intro d
      induction d with
      | zero =>
        intro j cl2 hj k1 k2
        obtain rfl : j = 18 := by omega
        exact br_t (by decide) (nm_e (ca cl2 k1 k2))
      | succ d ih2 =>
        intro j cl2 hj k1 k2
        have i7 : (7 : Int32) * 18 + nI j = nI (7 * 18 + j) := nI_add (7 * 18) j
        have i6 : (6 : Int32) * 18 + nI j = nI (6 * 18 + j) := nI_add (6 * 18) j
        refine br_f (nI_ge (b := 18) (by omega) (by decide)) ⟨pk_in (7 * 18 + j) 558 (by omega) i7, pk_in (6 * 18 + j) 558 (by omega) i6, nm_e (nm_r (nI_1 j) (ih2 (j + 1) _ (by omega) (fun k hk => ?_) (fun i hi => ?_)))⟩
        · rw [i7, i6, nI_clamp (by omega), nI_clamp (by omega)]
          by_cases c : k = j
          · subst c; rw [pk_us, k2 _ (by omega)]
          · rw [pk_un (by omega)]; exact k1 k (by omega)
        · rw [i6, nI_clamp (by omega), pk_un (by omega)]; exact k2 i hi
    exact ⟨19, key 18 0 cl rfl (fun k hk => by omega) (fun _ _ => rfl)⟩
  | succ m ih =>
    intro pre S L pl cl a_leftTop a_leftBottom a_rightTop a_rightBottom a_top a_bottom a_product a_quotient a_common a_spare a_rest a_divisor a_inverse a_numerator hpre hro hrun hxs hvs hcl
    obtain ⟨pre', p, ep⟩ : ∃ pre' p, pre = pre' ++ [p] := by
      rcases List.eq_nil_or_concat pre with z | ⟨a, b, z⟩
      · rw [z] at hpre; exact nomatch (show 0 = m + 1 from hpre)
      · exact ⟨a, b, by rw [z, List.concat_eq_append]⟩
    have hpre' : pre'.length = m := by rw [ep, List.length_append] at hpre; exact Nat.succ.inj hpre
    have hro' : ro = pre' ++ (p :: S) := by rw [hro, ep, List.append_assoc]; rfl
    have hmem : p ∈ ro := by rw [hro']; exact List.mem_append_right _ List.mem_cons_self
    have hSlen : S.length < ro.length := by
      rw [hro', List.length_append]
      show S.length < pre'.length + (S.length + 1)
      omega
    have hrp : sy_rep a_stepKind a_stepToken (p :: S) := sy_rep_app pre' _ (by rw [← hro']; exact hrep)
    obtain ⟨d, hd⟩ := sy_wf_app pre' (p :: S) 1 (by rw [← hro']; exact hwf)
    obtain ⟨d0, w0, shape⟩ := hd
    have hl0 := pr_run_l _ _ _ _ hrun w0
    have hp2 := hlt p hmem
    have hdS : d0 ≤ S.length := sy_wf_le S d0 w0
    obtain ⟨tc, tk11, tv, tp⟩ := tkn p.2 hp2
    have hkp := hkd p hmem
    have hk12 : p.1 ≤ 12 := by rcases hkp with z | z <;> omega
    have i24 : vp_in (nI S.length) 24 := vp_in_nI (by omega) (by omega)
    have eK : a_stepKind (nI S.length).toNatClampNeg = nI p.1 := by rw [nI_clamp (by omega)]; exact hrp.1
    have eI : a_stepToken (nI S.length).toNatClampNeg = nI p.2 := by rw [nI_clamp (by omega)]; exact hrp.2.1
    have iT : vp_in (a_stepToken (nI S.length).toNatClampNeg) 24 := by rw [eI]; exact vp_in_nI (by omega) (by omega)
    have eC : a_tokenContent (a_stepToken (nI S.length).toNatClampNeg).toNatClampNeg = cn p.2 := by rw [eI, nI_clamp (by omega)]; exact tc
    -- the end with a fault at this step
    have bad : ∀ (code : Nat) (L' : List (PF × PF)) (f_stackCount : Int32) (cl2 : Nat → Int32), ∀ a_leftTop a_leftBottom a_rightTop a_rightBottom a_top a_bottom a_product a_quotient a_common a_spare a_rest a_divisor a_inverse a_numerator : Nat → Int32, code ≠ 0 → code ≤ 4 → pr_st vs p.1 (cn p.2) L code L' → (∀ i, i < 126 → cl2 i = cl0 i) → wX_evaluate_91 post (wX_evaluate_36 post (m + 1)) (nI S.length) (nI code) f_tokenCount f_latestPlace (nI ro.length) f_waitingCount f_stackCount f_factorCount a_tokenKind a_tokenContent a_stepKind a_stepToken a_waitingKind a_waitingToken a_present (cl2) a_leftTop a_leftBottom a_rightTop a_rightBottom a_top a_bottom a_product a_quotient a_common a_spare a_rest a_divisor a_inverse a_numerator a_factorDegrees a_factorPowers a_factorCells := by
      intro code L' f_stackCount cl2 a_leftTop a_leftBottom a_rightTop a_rightBottom a_top a_bottom a_product a_quotient a_common a_spare a_rest a_divisor a_inverse a_numerator hc0 hc4 hst hcl2
      unfold wX_evaluate_91
      refine br_f (nI_ne0 (by omega) (by omega)) ⟨i24, nm_r eI ?_⟩
      exact hF code p.2 L' _ cl2 _ _ _ _ _ _ _ _ _ _ _ _ _ _ hc0 hc4 (by rw [hro']; exact pr_run_app (pr_run_s hrun p hst) hc0 pre') hcl2
    -- behind work, from what it leaves
    have fin : ∀ (T : List (PF × PF)) (o code : Nat) (P0 Q0 : PF), ∀ a_leftTop a_leftBottom a_rightTop a_rightBottom a_top a_bottom a_product a_quotient a_common a_spare a_rest a_divisor a_inverse a_numerator : Nat → Int32, o ≤ 2 → T.length + o = L.length → xs_rep cl T → code ≤ 4 → pr_wk vs p.1 (cn p.2) L T code P0 Q0 → (code = 0 → pr_big P0 Q0) → (code = 0 → xv a_top P0 ∧ xv a_bottom Q0) →
        ((nI code = 0 → (wpX_settle (fun r_177 u => match u with | (f_tokenCount, f_latestPlace, f_stepCount, f_waitingCount, f_stackCount, f_factorCount, a_tokenKind, a_tokenContent, a_stepKind, a_stepToken, a_waitingKind, a_waitingToken, a_present, a_cells, a_leftTop, a_leftBottom, a_rightTop, a_rightBottom, a_top, a_bottom, a_product, a_quotient, a_common, a_spare, a_rest, a_divisor, a_inverse, a_numerator, a_factorDegrees, a_factorPowers, a_factorCells) => (wX_evaluate_91 post (wX_evaluate_36 post (m + 1)) (nI S.length) r_177 f_tokenCount f_latestPlace f_stepCount f_waitingCount f_stackCount f_factorCount a_tokenKind a_tokenContent a_stepKind a_stepToken a_waitingKind a_waitingToken a_present a_cells a_leftTop a_leftBottom a_rightTop a_rightBottom a_top a_bottom a_product a_quotient a_common a_spare a_rest a_divisor a_inverse a_numerator a_factorDegrees a_factorPowers a_factorCells)) (f_tokenCount, f_latestPlace, nI ro.length, f_waitingCount, nI L.length, f_factorCount, a_tokenKind, a_tokenContent, a_stepKind, a_stepToken, a_waitingKind, a_waitingToken, a_present, cl, a_leftTop, a_leftBottom, a_rightTop, a_rightBottom, a_top, a_bottom, a_product, a_quotient, a_common, a_spare, a_rest, a_divisor, a_inverse, a_numerator, a_factorDegrees, a_factorPowers, a_factorCells) (nI o))) ∧ (¬ nI code = 0 → (wX_evaluate_91 post (wX_evaluate_36 post (m + 1)) (nI S.length) (nI code) f_tokenCount f_latestPlace (nI ro.length) f_waitingCount (nI L.length) f_factorCount a_tokenKind a_tokenContent a_stepKind a_stepToken a_waitingKind a_waitingToken a_present (cl) a_leftTop a_leftBottom a_rightTop a_rightBottom a_top a_bottom a_product a_quotient a_common a_spare a_rest a_divisor a_inverse a_numerator a_factorDegrees a_factorPowers a_factorCells))) := by
      intro T o code P0 Q0 a_leftTop a_leftBottom a_rightTop a_rightBottom a_top a_bottom a_product a_quotient a_common a_spare a_rest a_divisor a_inverse a_numerator ho hTl hT hc4 wk bg tb
      by_cases c0 : code = 0
      · subst c0
        refine br_t rfl ?_
        obtain ⟨t1, t2⟩ := tb rfl
        rw [← hTl]
        refine xb_settle o ho (by omega) (bg rfl) t1 t2 (fun R cl2 a_leftTop a_leftBottom a_rightTop a_rightBottom a_top a_bottom a_product a_quotient a_common a_spare a_rest a_divisor a_inverse a_numerator rd l1 l2 hp ho2 => ?_) (fun R a_leftTop a_leftBottom a_rightTop a_rightBottom a_top a_bottom a_product a_quotient a_common a_spare a_rest a_divisor a_inverse a_numerator rd nl => ?_)
        · have hst : pr_st vs p.1 (cn p.2) L 0 (R :: T) := (wk 0 (R :: T)).2 rfl ⟨R, rd, Or.inl ⟨l1, l2, rfl, rfl⟩⟩
          have e18 : ∀ i, i < (7 + T.length) * 18 ∨ (7 + T.length) * 18 + 18 ≤ i → cl2 i = cl i := ho2
          show wX_evaluate_91 post (wX_evaluate_36 post (m + 1)) (nI S.length) 0 _ _ _ _ _ _ _ _ _ _ _ _ _ _ _ _ _ _ _ _ _ _ _ _ _ _ _ _ _ _ _
          unfold wX_evaluate_91
          refine br_t rfl (nm_r (nI_1 S.length) ?_)
          exact ih pre' (p :: S) (R :: T) p.2 cl2 _ _ _ _ _ _ _ _ _ _ _ _ _ _ hpre' hro' (pr_run_s hrun p hst) ⟨hp, pr_red_ok rd l1 l2, xs_rep_o e18 T hT (Nat.le_refl _)⟩ (xs_vs_o e18 hvs (by omega)) (fun i hi => by rw [e18 i (by omega)]; exact hcl i hi)
        · have hst : pr_st vs p.1 (cn p.2) L 4 [] := (wk 4 []).2 rfl ⟨R, rd, Or.inr ⟨nl, rfl⟩⟩
          exact bad 4 [] _ cl _ _ _ _ _ _ _ _ _ _ _ _ _ _ (by decide) (by omega) hst hcl
      · refine br_f (nI_ne0 (by omega) (by omega)) ?_
        exact bad code [] _ cl _ _ _ _ _ _ _ _ _ _ _ _ _ _ c0 hc4 ((wk code []).1 c0) hcl
    refine br_f (nI_ge (by omega) (by omega)) ⟨i24, ?_⟩
    refine xb_countOperands p.1 hk12 (fun k2 => ?_) (fun k1 => ?_) (fun n2 n1 => ?_) eK
    · unfold wpX_loadOperands
      refine nm_e (br_f (by decide) (br_f (by decide) ⟨i24, i24, iT, ?_⟩))
      rw [eK, eC]
      have kp : p.1 = kd p.2 := by rcases hkp with z | z <;> omega
      refine xb_workA (vs := vs) (L := L) p.1 k2 (fun z => tv (by omega)) hvs hb (fun code P0 Q0 hc4 wk bg a_leftTop a_leftBottom a_rightTop a_rightBottom a_top a_bottom a_product a_quotient a_common a_spare a_rest a_divisor a_inverse a_numerator tb => ?_)
      exact fin L 0 code P0 Q0 _ _ _ _ _ _ _ _ _ _ _ _ _ _ (by omega) rfl hxs hc4 wk bg tb
    · obtain ⟨a, T, eL⟩ : ∃ a T, L = a :: T := by
        cases L with
        | nil =>
          have z : 0 = d0 := hl0
          rcases shape with x | x | x <;> omega
        | cons a T => exact ⟨a, T, rfl⟩
      subst eL
      have hT24 : T.length + 1 ≤ 24 := by
        have : T.length + 1 = d0 := hl0
        omega
      have e7 : (7 : Int32) + nI (a :: T).length - 1 = nI (7 + T.length) := by
        have : (7 : Int32) + nI (T.length + 1) = nI (7 + T.length + 1) := nI_add 7 (T.length + 1)
        show (7 : Int32) + nI (T.length + 1) - 1 = _
        rw [this]; exact nI_pred _
      unfold wpX_loadOperands
      refine nm_r e7 (br_t rfl ?_)
      refine xf_load__leftTop (7 + T.length) 0 (by omega) (by omega) hxs.1.1 hxs.2.1.1 (fun a_leftTop t1 => ?_)
      refine xf_load__leftBottom (7 + T.length) 1 (by omega) (by omega) hxs.1.2 hxs.2.1.2.1 (fun a_leftBottom t2 => ?_)
      refine ⟨i24, i24, iT, ?_⟩
      rw [eK, eC]
      refine xb_workU (vs := vs) (T := T) p.1 (by omega) (fun z => tp (by rcases hkp with y | y <;> omega)) hxs.2.1 t1 t2 (fun code P0 Q0 hc4 wk bg a_leftTop a_leftBottom a_rightTop a_rightBottom a_top a_bottom a_product a_quotient a_common a_spare a_rest a_divisor a_inverse a_numerator tb => ?_)
      exact fin T 1 code P0 Q0 _ _ _ _ _ _ _ _ _ _ _ _ _ _ (by omega) rfl hxs.2.2 hc4 wk bg tb
    · have k5 : p.1 = 5 ∨ p.1 = 6 ∨ p.1 = 7 ∨ p.1 = 8 ∨ p.1 = 11 := by rcases shape with x | x | x <;> omega
      obtain ⟨a, b, T, eL⟩ : ∃ a b T, L = b :: a :: T := by
        have h2 : 2 ≤ L.length := by rcases shape with x | x | x <;> omega
        cases L with
        | nil => exact absurd h2 (by decide)
        | cons b M =>
          cases M with
          | nil => exact absurd (show 2 ≤ 1 from h2) (by decide)
          | cons a T => exact ⟨a, b, T, rfl⟩
      subst eL
      have hT24 : T.length + 2 ≤ 24 := by
        have : T.length + 1 + 1 = d0 := hl0
        omega
      have e7 : (7 : Int32) + nI (b :: a :: T).length - 1 = nI (7 + (T.length + 1)) := by
        have : (7 : Int32) + nI (T.length + 1 + 1) = nI (7 + (T.length + 1) + 1) := nI_add 7 (T.length + 1 + 1)
        show (7 : Int32) + nI (T.length + 1 + 1) - 1 = _
        rw [this]; exact nI_pred _
      have e8 : nI (7 + (T.length + 1)) - 1 = nI (7 + T.length) := nI_pred (7 + T.length)
      unfold wpX_loadOperands
      refine nm_r e7 (br_f (by decide) (br_t rfl ?_))
      rw [e8]
      refine xf_load__leftTop (7 + T.length) 0 (by omega) (by omega) hxs.2.2.1.1 hxs.2.2.2.1.1 (fun a_leftTop t1 => ?_)
      refine xf_load__leftBottom (7 + T.length) 1 (by omega) (by omega) hxs.2.2.1.2 hxs.2.2.2.1.2.1 (fun a_leftBottom t2 => ?_)
      refine xf_load__rightTop (7 + (T.length + 1)) 0 (by omega) (by omega) hxs.1.1 hxs.2.1.1 (fun a_rightTop t3 => ?_)
      refine xf_load__rightBottom (7 + (T.length + 1)) 1 (by omega) (by omega) hxs.1.2 hxs.2.1.2.1 (fun a_rightBottom t4 => ?_)
      refine ⟨i24, i24, iT, ?_⟩
      rw [eK, eC]
      refine xb_workB (vs := vs) (T := T) p.1 k5 hxs.2.2.2.1 hxs.2.1 t1 t2 t3 t4 (fun code P0 Q0 hc4 wk bg a_leftTop a_leftBottom a_rightTop a_rightBottom a_top a_bottom a_product a_quotient a_common a_spare a_rest a_divisor a_inverse a_numerator tb => ?_)
      exact fin T 2 code P0 Q0 _ _ _ _ _ _ _ _ _ _ _ _ _ _ (by omega) rfl hxs.2.2.2.2 hc4 wk bg tb
end
