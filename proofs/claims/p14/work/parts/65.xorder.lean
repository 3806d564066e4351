/-! The class's findSyntaxFault is the scan, and its orderSteps is the machine -/
def sy_xr (k : Nat) : Nat := if k = 11 then 3 else if k = 7 then 2 else if k = 8 then 2 else if k = 3 then 0 else 1
def sy_popx (l : Nat) : List (Nat × Nat) → List (Nat × Nat) → List (Nat × Nat) × List (Nat × Nat)
  | [], ro => ([], ro)
  | p :: t, ro => if sy_xr p.1 < l then (p :: t, ro) else sy_popx l t (p :: ro)
theorem sy_popx_e {l l' : Nat} : ∀ (ops ro : List (Nat × Nat)), (∀ p, p ∈ ops → (sy_xr p.1 < l ↔ ya_rk p.1 < l')) → sy_popx l ops ro = sy_pop l' ops ro := by
  intro ops
  induction ops with
  | nil => intro ro _; rfl
  | cons p t ih =>
    intro ro h
    have h1 := h p List.mem_cons_self
    show (if sy_xr p.1 < l then (p :: t, ro) else sy_popx l t (p :: ro)) = (if ya_rk p.1 < l' then (p :: t, ro) else sy_pop l' t (p :: ro))
    by_cases c : sy_xr p.1 < l
    · rw [if_pos c, if_pos (h1.mp c)]
    · rw [if_neg c, if_neg (fun z => c (h1.mpr z))]
      exact ih (p :: ro) (fun q hq => h q (List.mem_cons_of_mem _ hq))
theorem sy_x1 {k : Nat} (h : ya_set k) : sy_xr k < 1 ↔ ya_rk k < 1 := by
  rcases h with e | e | e | e | e | e | e <;> rw [e] <;> decide
theorem sy_x2 {k : Nat} (h : ya_set k) : sy_xr k < 2 ↔ ya_rk k < 3 := by
  rcases h with e | e | e | e | e | e | e <;> rw [e] <;> decide
theorem sy_x3 {k : Nat} (h : ya_set k) : sy_xr k < 3 ↔ k ≠ 11 := by
  rcases h with e | e | e | e | e | e | e <;> rw [e] <;> decide
theorem sy_popx_1 {ops ro : List (Nat × Nat)} (h : sy_set ops) : sy_popx 1 ops ro = sy_pop 1 ops ro := sy_popx_e ops ro (fun p hp => sy_x1 (h p hp))
theorem sy_popx_2 {ops ro : List (Nat × Nat)} (h : sy_set ops) : sy_popx 2 ops ro = sy_pop 3 ops ro := sy_popx_e ops ro (fun p hp => sy_x2 (h p hp))
theorem sy_popx_3 {ops ro : List (Nat × Nat)} (h : sy_set ops) (h11 : sy_11 ops) : sy_popx 3 ops ro = sy_one ops ro := by
  cases ops with
  | nil => rfl
  | cons p t =>
    have hp := sy_x3 (h p List.mem_cons_self)
    show (if sy_xr p.1 < 3 then (p :: t, ro) else sy_popx 3 t (p :: ro)) = (if p.1 = 11 then (t, p :: ro) else (p :: t, ro))
    by_cases c : p.1 = 11
    · rw [if_neg (fun z => hp.mp z c), if_pos c]
      cases t with
      | nil => rfl
      | cons q s =>
        have hq := sy_x3 (h q (List.mem_cons_of_mem _ List.mem_cons_self))
        show (if sy_xr q.1 < 3 then (q :: s, p :: ro) else sy_popx 3 s (q :: p :: ro)) = _
        rw [if_pos (hq.mpr (h11.1 c q s rfl))]
    · rw [if_pos (hp.mpr c), if_neg c]
theorem sy_pop_4 {ops ro : List (Nat × Nat)} (h : sy_set ops) (h11 : sy_h11 ops) : sy_pop 4 ops ro = (ops, ro) := by
  cases ops with
  | nil => rfl
  | cons p t =>
    have hr : ya_rk p.1 < 4 := by
      have n := h11 p t rfl
      rcases h p List.mem_cons_self with e | e | e | e | e | e | e
      · rw [e]; decide
      · rw [e]; decide
      · rw [e]; decide
      · rw [e]; decide
      · rw [e]; decide
      · exact absurd e n
      · rw [e]; decide
    exact if_pos hr
section
variable {f_tokenCount f_latestPlace f_stepCount f_waitingCount f_stackCount f_factorCount : Int32} {a_tokenKind a_tokenContent a_stepKind a_stepToken a_waitingKind a_waitingToken a_present a_cells a_leftTop a_leftBottom a_rightTop a_rightBottom a_top a_bottom a_product a_quotient a_common a_spare a_rest a_divisor a_inverse a_numerator a_factorDegrees a_factorPowers a_factorCells : Nat → Int32}
theorem xb_endsOperand {post : Int32 → Prop} {x : Int32} (k : Nat) (hk : k < 20) (h : post (if ya_eo k then 1 else 0)) (e : x = nI k := by rfl) : wpX_endsOperand post x := by
  subst e
  unfold wpX_endsOperand
  have ne : ∀ q, q < 2 ^ 31 → k ≠ q → ¬ nI k = nI q := fun q hq n z => n ((nI_eq (by omega) hq).mp z)
  have fin : ∀ b : Bool, ya_eo k = b → post (if b then 1 else 0) := fun b e => by rw [← e]; exact h
  by_cases c2 : k ≤ 2
  · exact br_t (nI_le (b := 2) c2 (by decide)) (fin true (by unfold ya_eo; rw [decide_eq_true c2]; rfl))
  · refine br_f (nI_ge (a := 2) (by omega) (by omega)) ?_
    by_cases c4 : k = 4
    · exact br_t (by rw [c4]; rfl) (fin true (by rw [c4]; rfl))
    · refine br_f (ne 4 (by decide) c4) ?_
      by_cases c9 : k = 9
      · exact br_t (by rw [c9]; rfl) (fin true (by rw [c9]; rfl))
      · refine br_f (ne 9 (by decide) c9) ?_
        by_cases c10 : k = 10
        · exact br_t (by rw [c10]; rfl) (fin true (by rw [c10]; rfl))
        · exact br_f (ne 10 (by decide) c10) (fin false (by unfold ya_eo; rw [decide_eq_false c2, decide_eq_false c4, decide_eq_false c9, decide_eq_false c10]; rfl))
theorem xb_rankOf {post : Int32 → Prop} {x : Int32} (k : Nat) (hk : k < 20) (h : post (nI (sy_xr k))) (e : x = nI k := by rfl) : wpX_rankOf post x := by
  subst e
  unfold wpX_rankOf
  have ne : ∀ q, q < 2 ^ 31 → k ≠ q → ¬ nI k = nI q := fun q hq n z => n ((nI_eq (by omega) hq).mp z)
  by_cases c11 : k = 11
  · exact br_t (by rw [c11]; rfl) (by rw [c11] at h; exact h)
  · refine br_f (ne 11 (by decide) c11) ?_
    by_cases c7 : k = 7
    · exact br_t (by rw [c7]; rfl) (by rw [c7] at h; exact h)
    · refine br_f (ne 7 (by decide) c7) ?_
      by_cases c8 : k = 8
      · exact br_t (by rw [c8]; rfl) (by rw [c8] at h; exact h)
      · refine br_f (ne 8 (by decide) c8) ?_
        by_cases c3 : k = 3
        · exact br_t (by rw [c3]; rfl) (by rw [c3] at h; exact h)
        · refine br_f (ne 3 (by decide) c3) ?_
          have e1 : sy_xr k = 1 := by
            unfold sy_xr
            rw [if_neg c11, if_neg c7, if_neg c8, if_neg c3]
          rw [e1] at h; exact h
theorem xb_addStep {post : SX → Prop} {x y : Int32} {ro : List (Nat × Nat)} (k i : Nat) (hr : sy_rep a_stepKind a_stepToken ro) (hl : ro.length < 24) (h : ∀ a_stepKind a_stepToken : Nat → Int32, sy_rep a_stepKind a_stepToken ((k, i) :: ro) → post (f_tokenCount, f_latestPlace, nI (ro.length + 1), f_waitingCount, f_stackCount, f_factorCount, a_tokenKind, a_tokenContent, a_stepKind, a_stepToken, a_waitingKind, a_waitingToken, a_present, a_cells, a_leftTop, a_leftBottom, a_rightTop, a_rightBottom, a_top, a_bottom, a_product, a_quotient, a_common, a_spare, a_rest, a_divisor, a_inverse, a_numerator, a_factorDegrees, a_factorPowers, a_factorCells)) (ex : x = nI k := by rfl) (ey : y = nI i := by rfl) : wpX_addStep post (f_tokenCount, f_latestPlace, nI ro.length, f_waitingCount, f_stackCount, f_factorCount, a_tokenKind, a_tokenContent, a_stepKind, a_stepToken, a_waitingKind, a_waitingToken, a_present, a_cells, a_leftTop, a_leftBottom, a_rightTop, a_rightBottom, a_top, a_bottom, a_product, a_quotient, a_common, a_spare, a_rest, a_divisor, a_inverse, a_numerator, a_factorDegrees, a_factorPowers, a_factorCells) x y := by
  subst ex ey
  unfold wpX_addStep
  dsimp only
  refine br_f (nI_ge (b := 24) hl (by decide)) ⟨vp_in_nI hl (by omega), nm_e ⟨vp_in_nI hl (by omega), nm_e (nm_r (nI_1 _) (h _ _ ?_))⟩⟩
  rw [nI_clamp (by omega)]; exact sy_rep_c hr
theorem xb_holdBack {post : SX → Prop} {x y : Int32} {ops : List (Nat × Nat)} (k i : Nat) (hr : sy_rep a_waitingKind a_waitingToken ops) (hl : ops.length < 24) (h : ∀ a_waitingKind a_waitingToken : Nat → Int32, sy_rep a_waitingKind a_waitingToken ((k, i) :: ops) → post (f_tokenCount, f_latestPlace, f_stepCount, nI (ops.length + 1), f_stackCount, f_factorCount, a_tokenKind, a_tokenContent, a_stepKind, a_stepToken, a_waitingKind, a_waitingToken, a_present, a_cells, a_leftTop, a_leftBottom, a_rightTop, a_rightBottom, a_top, a_bottom, a_product, a_quotient, a_common, a_spare, a_rest, a_divisor, a_inverse, a_numerator, a_factorDegrees, a_factorPowers, a_factorCells)) (ex : x = nI k := by rfl) (ey : y = nI i := by rfl) : wpX_holdBack post (f_tokenCount, f_latestPlace, f_stepCount, nI ops.length, f_stackCount, f_factorCount, a_tokenKind, a_tokenContent, a_stepKind, a_stepToken, a_waitingKind, a_waitingToken, a_present, a_cells, a_leftTop, a_leftBottom, a_rightTop, a_rightBottom, a_top, a_bottom, a_product, a_quotient, a_common, a_spare, a_rest, a_divisor, a_inverse, a_numerator, a_factorDegrees, a_factorPowers, a_factorCells) x y := by
  subst ex ey
  unfold wpX_holdBack
  dsimp only
  refine br_f (nI_ge (b := 24) hl (by decide)) ⟨vp_in_nI hl (by omega), nm_e ⟨vp_in_nI hl (by omega), nm_e (nm_r (nI_1 _) (h _ _ ?_))⟩⟩
  rw [nI_clamp (by omega)]; exact sy_rep_c hr
theorem xb_release {post : SX → Prop} {x : Int32} (l : Nat) (hl : l < 10) {ops ro : List (Nat × Nat)} (hs : sy_set ops) (hw : sy_rep a_waitingKind a_waitingToken ops) (hr : sy_rep a_stepKind a_stepToken ro) (hlen : ops.length + ro.length ≤ 24)
    (h : ∀ a_stepKind a_stepToken : Nat → Int32, sy_rep a_waitingKind a_waitingToken (sy_popx l ops ro).1 → sy_rep a_stepKind a_stepToken (sy_popx l ops ro).2 → post (f_tokenCount, f_latestPlace, nI (sy_popx l ops ro).2.length, nI (sy_popx l ops ro).1.length, f_stackCount, f_factorCount, a_tokenKind, a_tokenContent, a_stepKind, a_stepToken, a_waitingKind, a_waitingToken, a_present, a_cells, a_leftTop, a_leftBottom, a_rightTop, a_rightBottom, a_top, a_bottom, a_product, a_quotient, a_common, a_spare, a_rest, a_divisor, a_inverse, a_numerator, a_factorDegrees, a_factorPowers, a_factorCells)) (ex : x = nI l := by rfl) : wpX_releaseSteps post (f_tokenCount, f_latestPlace, nI ro.length, nI ops.length, f_stackCount, f_factorCount, a_tokenKind, a_tokenContent, a_stepKind, a_stepToken, a_waitingKind, a_waitingToken, a_present, a_cells, a_leftTop, a_leftBottom, a_rightTop, a_rightBottom, a_top, a_bottom, a_product, a_quotient, a_common, a_spare, a_rest, a_divisor, a_inverse, a_numerator, a_factorDegrees, a_factorPowers, a_factorCells) x := by
  subst ex
  have key : ∀ (ops ro : List (Nat × Nat)) (a_stepKind a_stepToken : Nat → Int32), sy_set ops → sy_rep a_waitingKind a_waitingToken ops → sy_rep a_stepKind a_stepToken ro → ops.length + ro.length ≤ 24 →
      (∀ a_stepKind a_stepToken : Nat → Int32, sy_rep a_waitingKind a_waitingToken (sy_popx l ops ro).1 → sy_rep a_stepKind a_stepToken (sy_popx l ops ro).2 → post (f_tokenCount, f_latestPlace, nI (sy_popx l ops ro).2.length, nI (sy_popx l ops ro).1.length, f_stackCount, f_factorCount, a_tokenKind, a_tokenContent, a_stepKind, a_stepToken, a_waitingKind, a_waitingToken, a_present, a_cells, a_leftTop, a_leftBottom, a_rightTop, a_rightBottom, a_top, a_bottom, a_product, a_quotient, a_common, a_spare, a_rest, a_divisor, a_inverse, a_numerator, a_factorDegrees, a_factorPowers, a_factorCells)) →
      wX_releaseSteps_7 post (nI l) (ops.length + 1) (nI ops.length + (-1)) f_tokenCount f_latestPlace (nI ro.length) (nI ops.length) f_stackCount f_factorCount a_tokenKind a_tokenContent a_stepKind a_stepToken a_waitingKind a_waitingToken a_present a_cells a_leftTop a_leftBottom a_rightTop a_rightBottom a_top a_bottom a_product a_quotient a_common a_spare a_rest a_divisor a_inverse a_numerator a_factorDegrees a_factorPowers a_factorCells := by
    intro ops
    induction ops with
    | nil =>
      intro ro a_stepKind a_stepToken _ h1 h2 _ hp
      have e0 : nI ([] : List (Nat × Nat)).length + (-1) = -1 := by decide
      rw [e0]
      exact br_t (by decide) (hp _ _ h1 h2)
    | cons p t ih =>
      intro ro a_stepKind a_stepToken hs h1 h2 hlen hp
      have hlen' : (t.length + 1) + ro.length ≤ 24 := hlen
      have e1 : nI (p :: t).length + (-1) = nI t.length := pk_m1 t.length
      rw [e1]
      have hps := hs p List.mem_cons_self
      have hp20 : p.1 < 20 := by rcases hps with z | z | z | z | z | z | z <;> omega
      have hx10 : sy_xr p.1 < 10 := by rcases hps with z | z | z | z | z | z | z <;> rw [z] <;> decide
      refine br_f (nI_pos (by omega)) ⟨vp_in_nI (by omega) (by omega), nm_e ?_⟩
      rw [nI_clamp (by omega)]
      refine xb_rankOf p.1 hp20 ?_ h1.1
      by_cases c : sy_xr p.1 < l
      · refine br_f (nI_ge c (by omega)) ?_
        have e : sy_popx l (p :: t) ro = (p :: t, ro) := if_pos c
        rw [e] at hp
        exact hp _ _ h1 h2
      · refine br_t (nI_le (by omega) (by omega)) ⟨vp_in_nI (by omega) (by omega), ?_⟩
        have e : sy_popx l (p :: t) ro = sy_popx l t (p :: ro) := if_neg c
        rw [e] at hp
        refine xb_addStep p.1 p.2 h2 (by omega) (fun a_stepKind a_stepToken h3 => nm_e ?_) h1.1 h1.2.1
        exact ih (p :: ro) _ _ (fun q hq => hs q (List.mem_cons_of_mem _ hq)) h1.2.2 h3 (by show t.length + (ro.length + 1) ≤ 24; omega) hp
  unfold wpX_releaseSteps
  have e : nI ops.length - 1 = nI ops.length + (-1) := by
    cases ops with
    | nil => decide
    | cons p t =>
      show nI (t.length + 1) - 1 = nI (t.length + 1) + (-1)
      rw [nI_pred, pk_m1]
  exact nm_r e ⟨_, key ops ro _ _ hs hw hr hlen h⟩
theorem xb_findSyntaxFault {post : Int32 → Prop} {kd : Nat → Nat} (cnt : Nat) (hc : cnt ≤ 24) (tk : ∀ j, j < cnt → a_tokenKind j = nI (kd j) ∧ kd j ≤ 11) (h : post (ya_r (ya_sc kd cnt 0 0 true true))) : wpX_findSyntaxFault post (nI cnt, f_latestPlace, f_stepCount, f_waitingCount, f_stackCount, f_factorCount, a_tokenKind, a_tokenContent, a_stepKind, a_stepToken, a_waitingKind, a_waitingToken, a_present, a_cells, a_leftTop, a_leftBottom, a_rightTop, a_rightBottom, a_top, a_bottom, a_product, a_quotient, a_common, a_spare, a_rest, a_divisor, a_inverse, a_numerator, a_factorDegrees, a_factorPowers, a_factorCells) := by
  have key : ∀ d i dp (op sg : Bool), i + d = cnt → dp ≤ i → ya_sc kd d i dp op sg = ya_sc kd cnt 0 0 true true → wX_findSyntaxFault_9 post (nI cnt) f_latestPlace f_stepCount f_waitingCount f_stackCount f_factorCount a_tokenKind a_tokenContent a_stepKind a_stepToken a_waitingKind a_waitingToken a_present a_cells a_leftTop a_leftBottom a_rightTop a_rightBottom a_top a_bottom a_product a_quotient a_common a_spare a_rest a_divisor a_inverse a_numerator a_factorDegrees a_factorPowers a_factorCells (d + 1) (nI dp) (if op then 1 else 0) (if sg then 1 else 0) (nI i) := by
    intro d
    induction d with
    | zero =>
      intro i dp op sg hi hdp hs
      obtain rfl : i = cnt := by omega
      rw [← hs] at h
      refine br_t (nI_le (Nat.le_refl _) (by omega)) ?_
      cases op with
      | true => exact br_f (by decide) h
      | false =>
        refine br_t rfl ?_
        by_cases c : 0 < dp
        · have e : ya_sc kd 0 i dp false sg = some i := by
            show (if (false || decide (0 < dp)) = true then some i else none) = _
            rw [decide_eq_true c]; rfl
          rw [e] at h
          exact br_f (nI_nle c (by omega)) h
        · have e : ya_sc kd 0 i dp false sg = none := by
            show (if (false || decide (0 < dp)) = true then some i else none) = _
            rw [decide_eq_false c]; rfl
          rw [e] at h
          obtain rfl : dp = 0 := by omega
          exact br_t (by decide) h
    | succ d ih =>
      intro i dp op sg hi hdp hs
      obtain ⟨k1, k2⟩ := tk i (by omega)
      -- behind a token that fits
      have go : ya_fit (kd i) dp op sg = true → wX_findSyntaxFault_81 post (wX_findSyntaxFault_9 post (nI cnt) f_latestPlace f_stepCount f_waitingCount f_stackCount f_factorCount a_tokenKind a_tokenContent a_stepKind a_stepToken a_waitingKind a_waitingToken a_present a_cells a_leftTop a_leftBottom a_rightTop a_rightBottom a_top a_bottom a_product a_quotient a_common a_spare a_rest a_divisor a_inverse a_numerator a_factorDegrees a_factorPowers a_factorCells (d + 1)) (nI dp) (nI i) (nI (kd i)) 1 (nI cnt) f_latestPlace f_stepCount f_waitingCount f_stackCount f_factorCount a_tokenKind a_tokenContent a_stepKind a_stepToken a_waitingKind a_waitingToken a_present a_cells a_leftTop a_leftBottom a_rightTop a_rightBottom a_top a_bottom a_product a_quotient a_common a_spare a_rest a_divisor a_inverse a_numerator a_factorDegrees a_factorPowers a_factorCells := by
        intro hf
        rw [ya_sc_t hf] at hs
        have p110 : ∀ dp2, dp2 ≤ i + 1 → dp2 = (if kd i = 3 then dp + 1 else if kd i = 4 then dp - 1 else dp) → wX_findSyntaxFault_110 post (wX_findSyntaxFault_9 post (nI cnt) f_latestPlace f_stepCount f_waitingCount f_stackCount f_factorCount a_tokenKind a_tokenContent a_stepKind a_stepToken a_waitingKind a_waitingToken a_present a_cells a_leftTop a_leftBottom a_rightTop a_rightBottom a_top a_bottom a_product a_quotient a_common a_spare a_rest a_divisor a_inverse a_numerator a_factorDegrees a_factorPowers a_factorCells (d + 1)) (nI dp2) (nI i) (nI (kd i)) (nI cnt) f_latestPlace f_stepCount f_waitingCount f_stackCount f_factorCount a_tokenKind a_tokenContent a_stepKind a_stepToken a_waitingKind a_waitingToken a_present a_cells a_leftTop a_leftBottom a_rightTop a_rightBottom a_top a_bottom a_product a_quotient a_common a_spare a_rest a_divisor a_inverse a_numerator a_factorDegrees a_factorPowers a_factorCells := by
          intro dp2 hd2 e2
          rw [← e2] at hs
          have nx := ih (i + 1) dp2 (!ya_eo (kd i)) (decide (kd i = 3)) (by omega) hd2 hs
          unfold wX_findSyntaxFault_110
          refine xb_endsOperand (kd i) (by omega) ?_
          unfold wX_findSyntaxFault_123
          cases he : ya_eo (kd i) with
          | true =>
            rw [he] at nx
            refine br_f (by decide) ?_
            by_cases c3 : kd i = 3
            · rw [decide_eq_true c3] at nx
              exact br_t (by rw [c3]; rfl) (nm_r (nI_1 i) nx)
            · rw [decide_eq_false c3] at nx
              exact br_f (fun z => c3 ((nI_eq (b := 3) (by omega) (by omega)).mp z)) (nm_r (nI_1 i) nx)
          | false =>
            rw [he] at nx
            refine br_t rfl ?_
            by_cases c3 : kd i = 3
            · rw [decide_eq_true c3] at nx
              exact br_t (by rw [c3]; rfl) (nm_r (nI_1 i) nx)
            · rw [decide_eq_false c3] at nx
              exact br_f (fun z => c3 ((nI_eq (b := 3) (by omega) (by omega)).mp z)) (nm_r (nI_1 i) nx)
        unfold wX_findSyntaxFault_81
        refine br_f (by decide) ?_
        by_cases c3 : kd i = 3
        · exact br_t (by rw [c3]; rfl) (nm_r (nI_1 dp) (p110 (dp + 1) (by omega) (by rw [if_pos c3])))
        · refine br_f (fun z => c3 ((nI_eq (b := 3) (by omega) (by omega)).mp z)) ?_
          by_cases c4 : kd i = 4
          · have hdp1 : 1 ≤ dp := by
              rw [c4] at hf
              cases op with
              | true => cases sg <;> exact absurd (show false = true from hf) (by decide)
              | false =>
                have hf2 : (decide (5 ≤ 4) || (decide (4 = 4) && decide (0 < dp))) = true := hf
                by_cases c : 0 < dp
                · exact c
                · rw [decide_eq_false c] at hf2; exact absurd (show false = true from hf2) (by decide)
            obtain ⟨e, rfl⟩ : ∃ e, dp = e + 1 := ⟨dp - 1, by omega⟩
            exact br_t (by rw [c4]; rfl) (nm_r (pk_m1 e) (p110 e (by omega) (by rw [if_neg c3, if_pos c4]; rfl)))
          · exact br_f (fun z => c4 ((nI_eq (b := 4) (by omega) (by omega)).mp z)) (p110 dp (by omega) (by rw [if_neg c3, if_neg c4]))
      have no : ya_fit (kd i) dp op sg = false → wX_findSyntaxFault_81 post (wX_findSyntaxFault_9 post (nI cnt) f_latestPlace f_stepCount f_waitingCount f_stackCount f_factorCount a_tokenKind a_tokenContent a_stepKind a_stepToken a_waitingKind a_waitingToken a_present a_cells a_leftTop a_leftBottom a_rightTop a_rightBottom a_top a_bottom a_product a_quotient a_common a_spare a_rest a_divisor a_inverse a_numerator a_factorDegrees a_factorPowers a_factorCells (d + 1)) (nI dp) (nI i) (nI (kd i)) 0 (nI cnt) f_latestPlace f_stepCount f_waitingCount f_stackCount f_factorCount a_tokenKind a_tokenContent a_stepKind a_stepToken a_waitingKind a_waitingToken a_present a_cells a_leftTop a_leftBottom a_rightTop a_rightBottom a_top a_bottom a_product a_quotient a_common a_spare a_rest a_divisor a_inverse a_numerator a_factorDegrees a_factorPowers a_factorCells := by
        intro hf
        rw [ya_sc_f hf] at hs
        rw [← hs] at h
        exact br_t rfl h
      refine br_f (nI_ge (by omega) (by omega)) ⟨vp_in_nI (by omega) (by omega), ?_⟩
      rw [nI_clamp (by omega)]
      refine nm_r k1 ?_
      cases op with
      | false =>
        refine br_t rfl ?_
        by_cases c5 : 5 ≤ kd i
        · exact br_t (nI_le (a := 5) c5 (by omega)) (go (by show (decide (5 ≤ kd i) || _) = true; rw [decide_eq_true c5]; rfl))
        · refine br_f (nI_ge (b := 5) (by omega) (by omega)) ?_
          by_cases c4 : kd i = 4
          · refine br_t (by rw [c4]; rfl) ?_
            by_cases c : 0 < dp
            · exact br_f (nI_nle c (by omega)) (go (by rw [c4]; show (decide (5 ≤ 4) || (decide (4 = 4) && decide (0 < dp))) = true; rw [decide_eq_true c]; rfl))
            · have e : dp = 0 := by omega
              exact br_t (by rw [e]; decide) (no (by rw [c4]; show (decide (5 ≤ 4) || (decide (4 = 4) && decide (0 < dp))) = false; rw [decide_eq_false c]; rfl))
          · exact br_f (fun z => c4 ((nI_eq (b := 4) (by omega) (by omega)).mp z)) (no (by show (decide (5 ≤ kd i) || (decide (kd i = 4) && decide (0 < dp))) = false; rw [decide_eq_false c5, decide_eq_false c4]; rfl))
      | true =>
        refine br_f (by decide) ?_
        by_cases c3 : kd i ≤ 3
        · exact br_t (nI_le (b := 3) c3 (by decide)) (go (by show (decide (kd i ≤ 3) || _) = true; rw [decide_eq_true c3]; rfl))
        · refine br_f (nI_ge (a := 3) (by omega) (by omega)) ?_
          by_cases c6 : kd i = 6
          · refine br_t (by rw [c6]; rfl) ?_
            cases sg with
            | false => exact br_t rfl (no (by rw [c6]; rfl))
            | true => exact br_f (by decide) (go (by rw [c6]; rfl))
          · exact br_f (fun z => c6 ((nI_eq (b := 6) (by omega) (by omega)).mp z)) (no (by show (decide (kd i ≤ 3) || (decide (kd i = 6) && sg)) = false; rw [decide_eq_false c3, decide_eq_false c6]; rfl))
  exact ⟨cnt + 1, key cnt 0 0 true true (by omega) (Nat.le_refl _) rfl⟩
end
