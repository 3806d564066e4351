/-! The reference's second pass -/
section
variable {f_count f_place f_opens f_top f_fault f_faultAt f_dry f_found : Int32} {a_c a_there a_kind a_num a_open a_openAt a_power a_table : Nat → Int32}
theorem yb_pass16 {post : Int32 → SY → Prop} {vs : Nat → Option (PF × PF)} {cn : Nat → Int32} {kd : Nat → Nat} {cnt : Nat} {g0 : Nat → Fin 5} (hc : cnt ≤ 24) (tk : ya_tk a_kind a_num cnt kd) (hcn : ∀ j, j < cnt → cn j = a_num j) (hvs : ys_vs g0 a_there vs)
    (H : ∀ (code place : Nat) (g' : Nat → Fin 5) (op tp m fa : Int32) (pw ao aa : Nat → Int32), yb_I vs cn (sy_go kd cnt 0 true [] []) code place fa g' → ya_pl g0 g' → post (-1) (nI cnt, f_place, op, tp, nI code, fa, 0, m, fi_m g', a_there, a_kind, a_num, ao, aa, pw, a_table)) :
    ∀ (r i : Nat) (op sg : Bool) (x1 x2 : Int32) (ops ro : List (Nat × Nat)) (code place : Nat) (g : Nat → Fin 5) (m fa : Int32) (pw ao aa : Nat → Int32), i + r = cnt → ya_sc kd r i (sy_dep ops) op sg = none → sy_go kd r i op ops ro = sy_go kd cnt 0 true [] [] → x1 = (if op then 1 else 0) → (op = true → (x2 = 0 ↔ sg = false)) → sy_ok i op ops ro → sy_rep ao aa ops → yb_I vs cn ro code place fa g → ya_pl g0 g →
      wY_pass_16 post (r + 1) x1 x2 (nI i) (nI cnt) f_place (nI ops.length) (nI (sy_bin ops + (if op then 0 else 1))) (nI code) (fa) (0) (m) (fi_m g) a_there a_kind a_num (ao) (aa) (pw) a_table := by
  intro r
  induction r with
  | zero =>
    intro i op sg x1 x2 ops ro code place g m fa pw ao aa hi hs hg hx1 hx2 ok hrep hI pl
    obtain rfl : i = cnt := by omega
    obtain ⟨h1, h2, h3, h4, h5, h6, h7⟩ := ok
    have hs2 : (if (op || decide (0 < sy_dep ops)) = true then some i else none) = none := hs
    have hop : (op || decide (0 < sy_dep ops)) = false := by
      cases c : (op || decide (0 < sy_dep ops)) with
      | true => rw [c] at hs2; exact nomatch hs2
      | false => rfl
    cases op with
    | true => exact absurd (show true = false from hop) (by decide)
    | false =>
      have hd : ¬ 0 < sy_dep ops := by
        intro z
        have e : (false || decide (0 < sy_dep ops)) = false := hop
        rw [decide_eq_true z] at e
        exact absurd e (by decide)
      subst hx1
      refine br_t (nI_le (Nat.le_refl _) (by omega)) (br_t rfl ⟨ops.length + 1, ?_⟩)
      obtain ⟨b1, b2, b3, b4, b5, b6, b7, b8⟩ := sy_pop_inv (l := 1) (Nat.le_refl _) ops ro i h1 h2 h4 h5 h6
      refine yb_down 1 (Nat.le_refl _) (by omega) ops ro code place g m pw fa h1 h2 hrep (by omega) h4 hI pl (fun code' place' g' m' pw' fa' r1 i1 p1 => ?_)
      cases hT : (sy_pop 1 ops ro).1 with
      | nil =>
        have e : (sy_pop 1 ops ro).2 = sy_go kd i 0 true [] [] := hg
        rw [e] at i1
        exact br_t (by decide) (H code' place' g' _ _ _ _ _ _ _ i1 p1)
      | cons q s =>
        exfalso
        have q3 : q.1 = 3 := ya_rk3 (b1 q (by rw [hT]; exact List.mem_cons_self)) (b8 q s hT)
        rw [hT] at b6
        have ed : sy_dep (q :: s) = sy_dep s + 1 := by
          show sy_dep s + (if q.1 = 3 then 1 else 0) = _
          rw [if_pos q3]
        omega
  | succ r ih =>
    intro i op sg x1 x2 ops ro code place g m fa pw ao aa hi hs hg hx1 hx2 ok hrep hI pl
    obtain ⟨k1, k2, k3, k4⟩ := tk i (by omega)
    have hlen := ok.2.2.2.2.2.2
    have hset := ok.1
    have h11 := ok.2.1
    have fit := sy_fit hs
    rw [ya_sc_t fit] at hs
    obtain ⟨ok2, dep2⟩ := sy_ok_s ok k2 rfl fit
    rw [← dep2] at hs
    have hg2 : sy_go kd r (i + 1) (!ya_eo (kd i)) (sy_st (kd i) i op ops ro).1 (sy_st (kd i) i op ops ro).2 = sy_go kd cnt 0 true [] [] := hg
    have next : ∀ (o2 r2 : List (Nat × Nat)) (op2 : Bool) (y1 y2 : Int32) (code' place' : Nat) (g' : Nat → Fin 5) (m' fa' : Int32) (pw' ao' aa' : Nat → Int32), sy_st (kd i) i op ops ro = (o2, r2) → op2 = !ya_eo (kd i) → y1 = (if op2 then 1 else 0) → (op2 = true → (y2 = 0 ↔ decide (kd i = 3) = false)) → sy_rep ao' aa' o2 → yb_I vs cn r2 code' place' fa' g' → ya_pl g0 g' →
        wY_pass_16 post (r + 1) y1 y2 (nI (i + 1)) (nI cnt) f_place (nI o2.length) (nI (sy_bin o2 + (if op2 then 0 else 1))) (nI code') (fa') (0) (m') (fi_m g') a_there a_kind a_num (ao') (aa') (pw') a_table := by
      intro o2 r2 op2 y1 y2 code' place' g' m' fa' pw' ao' aa' e eo ey hy w1 w2 w3
      rw [e] at hs ok2 hg2
      subst eo
      exact ih (i + 1) _ _ y1 y2 o2 r2 code' place' g' m' fa' pw' ao' aa' (by omega) hs hg2 ey hy ok2 w1 w2 w3
    have ne : ∀ q, q < 2 ^ 31 → kd i ≠ q → ¬ nI (kd i) = nI q := fun q hq n z => n ((nI_eq (by omega) hq).mp z)
    refine br_f (nI_ge (by omega) (by omega)) ⟨vp_in_nI (by omega) (by omega), ?_⟩
    rw [nI_clamp (by omega)]
    refine nm_r k1 ?_
    cases op with
    | true =>
      subst hx1
      have wf0 : sy_wf ro (sy_bin ops) := ok.2.2.2.1
      have hble := sy_wf_le _ _ wf0
      refine br_f (by decide) ?_
      by_cases c6 : kd i = 6
      · have hsg : sg = true := by
          have hf2 : (decide (kd i ≤ 3) || (decide (kd i = 6) && sg)) = true := fit
          rw [c6] at hf2
          cases sg with
          | true => rfl
          | false => exact absurd (show false = true from hf2) (by decide)
        subst hsg
        refine br_t (by rw [c6]; rfl) (br_f (fun z => nomatch (hx2 rfl).mp z) ?_)
        refine yc_push ops.length (by omega) ?_
        unfold wY_pass_125
        refine br_f (by rw [c6]; decide) (nm_r (nI_1 i) ?_)
        exact next ((12, i) :: ops) ro true 1 0 code place g m fa pw _ _ (by rw [c6]; rfl) (by rw [c6]; rfl) rfl (fun _ => by rw [c6]; exact ⟨fun _ => rfl, fun _ => rfl⟩) (sy_rep_c (k := 12) hrep) hI pl
      · refine br_f (ne 6 (by decide) c6) ?_
        unfold wY_pass_57
        by_cases c3 : kd i = 3
        · refine br_t (by rw [c3]; rfl) ?_
          refine yc_push ops.length (by omega) ?_
          unfold wY_pass_125
          refine br_t (by rw [c3]; rfl) (nm_r (nI_1 i) ?_)
          exact next ((3, i) :: ops) ro true 1 1 code place g m fa pw _ _ (by rw [c3]; rfl) (by rw [c3]; rfl) rfl (fun _ => by rw [c3]; exact ⟨fun z => absurd z (by decide), fun z => absurd z (by decide)⟩) (sy_rep_c (k := 3) hrep) hI pl
        · have c2 : kd i ≤ 2 := by
            have hf2 : (decide (kd i ≤ 3) || (decide (kd i = 6) && sg)) = true := fit
            rw [decide_eq_false c6] at hf2
            by_cases c : kd i ≤ 3
            · omega
            · rw [decide_eq_false c] at hf2; exact absurd (show false = true from hf2) (by decide)
          have he : ya_eo (kd i) = true := by
            show (decide (kd i ≤ 2) || _ || _ || _) = true
            rw [decide_eq_true c2]; rfl
          have es : sy_st (kd i) i true ops ro = sy_one ops ((kd i, i) :: ro) := by
            show (if kd i = 6 then _ else if kd i = 3 then _ else sy_one ops ((kd i, i) :: ro)) = _
            rw [if_neg c6, if_neg c3]
          refine br_f (ne 3 (by decide) c3) (br_f (nI_ge (b := 3) (by omega) (by decide)) ⟨vp_in_nI (by omega) (by omega), ?_⟩)
          refine yb_atom (vs := vs) (cn := cn) (ro := ro) (kd i) i (sy_bin ops) c2 (by omega) (fun e => by rw [nI_clamp (by omega)]; exact k3 e) (by rw [nI_clamp (by omega)]; exact hcn i (by omega)) (ys_vs_o hvs pl) wf0 hI (fun code' place' g' fa' hI' pl' => ?_)
          have wf1 : sy_wf ((kd i, i) :: ro) (sy_bin ops + 1) := ⟨sy_bin ops, wf0, Or.inl ⟨c2, rfl⟩⟩
          refine yb_one (post := fun u => match u with | (f_count, f_place, f_opens, f_top, f_fault, f_faultAt, f_dry, f_found, a_c, a_there, a_kind, a_num, a_open, a_openAt, a_power, a_table) => wY_pass_125 post (wY_pass_16 post (r + 1)) 0 (nI i) (nI (kd i)) f_count f_place f_opens f_top f_fault f_faultAt f_dry f_found a_c a_there a_kind a_num a_open a_openAt a_power a_table) (vs := vs) (cn := cn) (g0 := g0) (ro := (kd i, i) :: ro) hset hrep (by omega) wf1 hI' (ya_pl_t pl pl') (fun code2 place2 g2 m2 pw2 fa2 r1 i1 p1 => ?_)
          show wY_pass_125 post (wY_pass_16 post (r + 1)) 0 (nI i) (nI (kd i)) _ _ _ _ _ _ _ _ _ _ _ _ _ _ _ _
          unfold wY_pass_125
          refine br_f (ne 3 (by decide) c3) (nm_r (nI_1 i) ?_)
          exact next (sy_one ops ((kd i, i) :: ro)).1 (sy_one ops ((kd i, i) :: ro)).2 false 0 0 code2 place2 g2 m2 fa2 pw2 ao aa es (by rw [he]; rfl) rfl (fun z => nomatch z) r1 i1 p1
    | false =>
      subst hx1
      have wf0 : sy_wf ro (sy_bin ops + 1) := ok.2.2.2.1
      have hble := sy_wf_le _ _ wf0
      refine br_t rfl ?_
      by_cases c4 : kd i = 4
      · have he : ya_eo (kd i) = true := by rw [c4]; rfl
        refine br_t (by rw [c4]; rfl) ⟨ops.length + 1, ?_⟩
        obtain ⟨b1, b2, b3, b4, b5, b6, b7, b8⟩ := sy_pop_inv (l := 1) (Nat.le_refl _) ops ro (i + 1) hset h11 wf0 (sy_lt_m ok.2.2.2.2.1 (by omega)) (sy_lt_m ok.2.2.2.2.2.1 (by omega))
        refine yb_down 1 (Nat.le_refl _) (by omega) ops ro code place g m pw fa hset h11 hrep (by omega) wf0 hI pl (fun code' place' g' m' pw' fa' r1 i1 p1 => ?_)
        cases hT : (sy_pop 1 ops ro).1 with
        | nil =>
          exfalso
          rw [hT] at b6
          have z : sy_dep ([] : List (Nat × Nat)) = 0 := rfl
          rw [z] at b6
          rw [c4] at fit
          have hf2 : (decide (5 ≤ 4) || (decide (4 = 4) && decide (0 < sy_dep ops))) = true := fit
          rw [decide_eq_false (show ¬ 0 < sy_dep ops by omega)] at hf2
          exact absurd hf2 (by decide)
        | cons q s =>
          have q3 : q.1 = 3 := ya_rk3 (b1 q (by rw [hT]; exact List.mem_cons_self)) (b8 q s hT)
          rw [hT] at r1 b1 b2 b3 b7
          have b7' : (s.length + 1) + (sy_pop 1 ops ro).2.length = ops.length + ro.length := b7
          have eb : sy_bin (q :: s) = sy_bin s := by
            show sy_bin s + (if q.1 = 3 then 0 else if q.1 = 12 then 0 else 1) = _
            rw [if_pos q3]; rfl
          rw [eb] at b3 ⊢
          refine br_f (nI_ne0 (by show 0 < s.length + 1; omega) (by show s.length + 1 < _; omega)) (nm_r (fi_t1 s.length) ?_)
          refine yb_one (post := fun u => match u with | (f_count, f_place, f_opens, f_top, f_fault, f_faultAt, f_dry, f_found, a_c, a_there, a_kind, a_num, a_open, a_openAt, a_power, a_table) => ∀ x3 : Int32, x3 = nI i + 1 → wY_pass_16 post (r + 1) 0 x2 x3 f_count f_place f_opens f_top f_fault f_faultAt f_dry f_found a_c a_there a_kind a_num a_open a_openAt a_power a_table) (vs := vs) (cn := cn) (g0 := g0) (ro := (sy_pop 1 ops ro).2) (fun p hp => b1 p (List.mem_cons_of_mem _ hp)) r1.2.2 (by omega) b3 i1 p1 (fun code2 place2 g2 m2 pw2 fa2 v1 v2 v3 => ?_)
          refine nm_r (nI_1 i) ?_
          refine next (sy_one s (sy_pop 1 ops ro).2).1 (sy_one s (sy_pop 1 ops ro).2).2 false 0 x2 code2 place2 g2 m2 fa2 pw2 ao aa ?_ (by rw [he]; rfl) rfl (fun z => nomatch z) v1 v2 v3
          rw [c4]
          show sy_one (sy_pop 1 ops ro).1.tail (sy_pop 1 ops ro).2 = _
          rw [hT]; rfl
      · refine br_f (ne 4 (by decide) c4) ?_
        by_cases c9 : kd i = 9
        · have he : ya_eo (kd i) = true := by rw [c9]; rfl
          refine br_t (by rw [c9]; rfl) ?_
          have p252 : ∀ (code' place' : Nat) (g' : Nat → Fin 5) (m' fa' : Int32) (pw' : Nat → Int32), yb_I vs cn ((kd i, i) :: ro) code' place' fa' g' → ya_pl g0 g' → wY_pass_252 post (wY_pass_16 post (r + 1)) 0 x2 (nI i) (nI (kd i)) (nI cnt) f_place (nI ops.length) (nI (sy_bin ops + 1)) (nI code') (fa') (0) (m') (fi_m g') a_there a_kind a_num (ao) (aa) (pw') a_table := by
            intro code' place' g' m' fa' pw' i1 p1
            have nx := next ops ((kd i, i) :: ro) false 0 x2 code' place' g' m' fa' pw' ao aa (by rw [c9]; rfl) (by rw [he]; rfl) rfl (fun z => nomatch z) hrep i1 p1
            unfold wY_pass_252
            exact br_c (fun _ => br_c (fun _ => br_f (by rw [c9]; decide) (nm_r (nI_1 i) nx)) (fun _ => nm_r (nI_1 i) nx)) (fun _ => nm_r (nI_1 i) nx)
          obtain ⟨L, hrun, hc4, hr, hfa⟩ := hI
          unfold wY_pass_214
          refine br_t rfl ?_
          by_cases c0 : code = 0
          · subst c0
            have hll := pr_run_l _ _ _ _ hrun wf0
            obtain ⟨a, T, eL⟩ : ∃ a T, L = a :: T := by
              cases L with
              | nil => exact nomatch (show 0 = sy_bin ops + 1 from hll)
              | cons a T => exact ⟨a, T, rfl⟩
            subst eL
            have eT : T.length = sy_bin ops := Nat.succ.inj hll
            obtain ⟨ha, oa, hT⟩ := hr rfl
            obtain ⟨q, hq, hn⟩ := k4 c9
            obtain ⟨mm, hm8, sm⟩ := pr_sz_ex oa
            have hcn' : cn i = a_num i := hcn i (by omega)
            have un9 : ∀ code L', ((cn i = nI q ∧ ((mm * q ≤ 8 ∧ pr_lim (pf_pow a.1 q) (pf_pow a.2 q) T code L') ∨ (8 < mm * q ∧ code = 4))) ∨ ((cn i = -nI q ∧ 1 ≤ q) ∧ ((a.1 = pf_c 0 ∧ code = 3) ∨ (a.1 ≠ pf_c 0 ∧ ((mm * q ≤ 8 ∧ pr_lim (pf_pow a.2 q) (pf_pow a.1 q) T code L') ∨ (8 < mm * q ∧ code = 4)))))) → pr_st vs (kd i) (cn i) (a :: T) code L' := fun code L' z => Or.inr (Or.inl ⟨a, T, rfl, Or.inr (Or.inr ⟨c9, q, mm, hq, sm, z⟩)⟩)
            refine br_t rfl (br_t (by rw [c9]; rfl) ⟨vp_in_nI (by omega) (by omega), ?_⟩)
            show wpY_raise _ _ (nI (sy_bin ops + 1) - 1) _ _
            rw [fi_t1, nI_clamp (by omega), ← eT]
            rw [← hcn'] at hn ⊢
            refine yb_raise T.length q (by omega) hq hn ha oa sm (fun e z => ?_) (fun no big g' m' pw' fr => ?_) (fun no h8 g' m' pw' R fr hR oR hx => ?_)
            · rw [eT]
              exact p252 3 i g _ _ _ ⟨[], pr_run_s hrun (kd i, i) (un9 3 [] (Or.inr ⟨e, Or.inl ⟨z, rfl⟩⟩)), by omega, fun z => absurd z (by decide), fun _ => rfl⟩ pl
            · rw [eT]
              refine p252 4 i g' _ _ _ ⟨[], pr_run_s hrun (kd i, i) (un9 4 [] ?_), by omega, fun z => absurd z (by decide), fun _ => rfl⟩ (ya_pl_t pl (fun s h1 h2 => fr s (by omega) (by omega) h2))
              rcases hn with e | e
              · exact Or.inl ⟨e, Or.inr ⟨big, rfl⟩⟩
              · exact Or.inr ⟨e, Or.inr ⟨fun z => no ⟨e, z⟩, Or.inr ⟨big, rfl⟩⟩⟩
            · rw [eT]
              refine p252 0 i g' _ _ _ ⟨R :: T, pr_run_s hrun (kd i, i) (un9 0 (R :: T) ?_), by omega, fun _ => ⟨hR, oR, ys_rep_o T T.length (Nat.le_refl _) (fun s hs => fr s (by omega) (by omega) (by omega)) hT⟩, fun z => absurd rfl z⟩ (ya_pl_t pl (fun s h1 h2 => fr s (by omega) (by omega) h2))
              rcases hx with ⟨e, rd⟩ | ⟨e, rd⟩
              · exact Or.inl ⟨e, Or.inl ⟨h8, R, rd, Or.inl ⟨oR.1, oR.2.1, rfl, rfl⟩⟩⟩
              · exact Or.inr ⟨e, Or.inr ⟨fun z => no ⟨e, z⟩, Or.inl ⟨h8, R, rd, Or.inl ⟨oR.1, oR.2.1, rfl, rfl⟩⟩⟩⟩
          · exact br_f (nI_ne0 (by omega) (by omega)) (p252 code place g m fa pw ⟨L, pr_run_f hrun c0 (kd i, i) L, hc4, fun z => absurd z c0, hfa⟩ pl)
        · refine br_f (ne 9 (by decide) c9) ?_
          by_cases c10 : kd i = 10
          · have he : ya_eo (kd i) = true := by rw [c10]; rfl
            refine br_t (by rw [c10]; rfl) ?_
            have nx := fun (code' place' : Nat) (g' : Nat → Fin 5) (m' fa' : Int32) (pw' : Nat → Int32) (i1 : yb_I vs cn ((kd i, i) :: ro) code' place' fa' g') (p1 : ya_pl g0 g') => next ops ((kd i, i) :: ro) false 0 x2 code' place' g' m' fa' pw' ao aa (by rw [c10]; rfl) (by rw [he]; rfl) rfl (fun z => nomatch z) hrep i1 p1
            obtain ⟨L, hrun, hc4, hr, hfa⟩ := hI
            have p252 : wY_pass_252 post (wY_pass_16 post (r + 1)) 0 x2 (nI i) (nI (kd i)) (nI cnt) f_place (nI ops.length) (nI (sy_bin ops + 1)) (nI code) (fa) (0) (m) (fi_m g) a_there a_kind a_num (ao) (aa) (pw) a_table := by
              unfold wY_pass_252
              refine br_t rfl ?_
              by_cases c0 : code = 0
              · subst c0
                have hll := pr_run_l _ _ _ _ hrun wf0
                obtain ⟨a, T, eL⟩ : ∃ a T, L = a :: T := by
                  cases L with
                  | nil => exact nomatch (show 0 = sy_bin ops + 1 from hll)
                  | cons a T => exact ⟨a, T, rfl⟩
                subst eL
                have eT : T.length = sy_bin ops := Nat.succ.inj hll
                obtain ⟨ha, oa, hT⟩ := hr rfl
                refine br_t rfl (br_t (by rw [c10]; rfl) ?_)
                rw [fi_t1, ← eT]
                refine yc_slope T.length (by omega) ⟨by rw [ha.1]; exact oa.1, by rw [ha.2]; exact oa.2.1⟩ (fun g' m' pw' ft' fa' fr tkk hsm => ?_)
                rw [ha.1, ha.2] at tkk
                have rd := pr_tk2 (a := a) (b := a) oa oa ⟨_, fi_s_ln _ _⟩ tkk
                have un : ∀ code L', pr_lim (pf_add (pf_mul (pf_dr a.1) a.2) (pf_mul (pf_c (-1)) (pf_mul a.1 (pf_dr a.2)))) (pf_mul a.2 a.2) T code L' → pr_st vs (kd i) (cn i) (a :: T) code L' := fun code L' z => Or.inr (Or.inl ⟨a, T, rfl, Or.inr (Or.inl ⟨c10, z⟩)⟩)
                have fpl : ya_pl g0 g' := ya_pl_t pl (fun s h1 h2 => fr s (by omega) (by omega) h2)
                rw [eT]
                rcases hsm with ⟨sm, e1, e2⟩ | ⟨nsm, e1, e2⟩
                · subst e1 e2
                  refine nm_r (nI_1 i) (nx 0 i g' _ _ _ ⟨(fi_s g' (2 * T.length), fi_s g' (2 * T.length + 1)) :: T, pr_run_s hrun (kd i, i) (un 0 _ ⟨(fi_s g' (2 * T.length), fi_s g' (2 * T.length + 1)), rd, Or.inl ⟨sm.1, sm.2, rfl, rfl⟩⟩), by omega, fun _ => ⟨⟨rfl, rfl⟩, pr_red_ok (w := (fi_s g' (2 * T.length), fi_s g' (2 * T.length + 1))) rd sm.1 sm.2, ys_rep_o T T.length (Nat.le_refl _) (fun s hs => fr s (by omega) (by omega) (by omega)) hT⟩, fun z => absurd rfl z⟩ fpl)
                · subst e1 e2
                  exact nm_r (nI_1 i) (nx 4 i g' _ _ _ ⟨[], pr_run_s hrun (kd i, i) (un 4 [] ⟨(fi_s g' (2 * T.length), fi_s g' (2 * T.length + 1)), rd, Or.inr ⟨nsm, rfl⟩⟩), by omega, fun z => absurd z (by decide), fun _ => rfl⟩ fpl)
              · exact br_f (nI_ne0 (by omega) (by omega)) (nm_r (nI_1 i) (nx code place g m fa pw ⟨L, pr_run_f hrun c0 (kd i, i) L, hc4, fun z => absurd z c0, hfa⟩ pl))
            unfold wY_pass_214
            have n9 : ¬ nI (kd i) = 9 := ne 9 (by decide) c9
            exact br_c (fun _ => br_c (fun _ => br_f n9 p252) (fun _ => p252)) (fun _ => p252)
          · refine br_f (ne 10 (by decide) c10) ?_
            have k5 : 5 ≤ kd i := by
              have hf2 : (decide (5 ≤ kd i) || (decide (kd i = 4) && decide (0 < sy_dep ops))) = true := fit
              rw [decide_eq_false c4] at hf2
              by_cases c : 5 ≤ kd i
              · exact c
              · rw [decide_eq_false c] at hf2; exact absurd (show false = true from hf2) (by decide)
            have he : ya_eo (kd i) = false := by
              show (decide (kd i ≤ 2) || decide (kd i = 4) || decide (kd i = 9) || decide (kd i = 10)) = false
              rw [decide_eq_false (show ¬ kd i ≤ 2 by omega), decide_eq_false c4, decide_eq_false c9, decide_eq_false c10]; rfl
            have es : sy_st (kd i) i false ops ro = ((kd i, i) :: (sy_pop (sy_lv (kd i)) ops ro).1, (sy_pop (sy_lv (kd i)) ops ro).2) := by
              show (if kd i = 4 then _ else if kd i = 9 then _ else if kd i = 10 then _ else _) = _
              rw [if_neg c4, if_neg c9, if_neg c10]
            have p317 : ∀ l, sy_lv (kd i) = l → 1 ≤ l → l < 10 → wY_pass_317 post (wY_pass_16 post (r + 1)) (nI i) (nI (kd i)) (nI l) (nI cnt) f_place (nI ops.length) (nI (sy_bin ops + 1)) (nI code) (fa) (0) (m) (fi_m g) a_there a_kind a_num (ao) (aa) (pw) a_table := by
              intro l el hl hl2
              rw [el] at es
              obtain ⟨b1, b2, b3, b4, b5, b6, b7, b8⟩ := sy_pop_inv hl ops ro (i + 1) hset h11 wf0 (sy_lt_m ok.2.2.2.2.1 (by omega)) (sy_lt_m ok.2.2.2.2.2.1 (by omega))
              unfold wY_pass_317
              refine ⟨ops.length + 1, yb_down l hl hl2 ops ro code place g m pw fa hset h11 hrep (by omega) wf0 hI pl (fun code' place' g' m' pw' fa' r1 i1 p1 => ?_)⟩
              refine yc_push (sy_pop l ops ro).1.length (by omega) (nm_r (nI_1 i) ?_)
              have nx := next ((kd i, i) :: (sy_pop l ops ro).1) (sy_pop l ops ro).2 true 1 0 code' place' g' m' fa' pw' _ _ es (by rw [he]; rfl) rfl (fun _ => by rw [decide_eq_false (show ¬ kd i = 3 by omega)]; exact ⟨fun _ => rfl, fun _ => rfl⟩) (sy_rep_c r1) i1 p1
              have eb : sy_bin ((kd i, i) :: (sy_pop l ops ro).1) = sy_bin (sy_pop l ops ro).1 + 1 := by
                show sy_bin (sy_pop l ops ro).1 + (if kd i = 3 then 0 else if kd i = 12 then 0 else 1) = _
                rw [if_neg (by omega), if_neg (by omega)]
              rw [eb] at nx
              exact nx
            refine br_f (nI_ge (a := 4) (by omega) (by omega)) ?_
            by_cases c11 : kd i = 11
            · exact br_t (by rw [c11]; rfl) (p317 4 (if_pos c11) (by omega) (by omega))
            · refine br_f (ne 11 (by decide) c11) ?_
              by_cases c6 : kd i ≤ 6
              · exact br_t (nI_le (b := 6) c6 (by decide)) (p317 1 (by unfold sy_lv; rw [if_neg c11, if_pos c6]) (by omega) (by omega))
              · exact br_f (nI_ge (a := 6) (by omega) (by omega)) (p317 3 (by unfold sy_lv; rw [if_neg c11, if_neg c6]) (by omega) (by omega))
end
