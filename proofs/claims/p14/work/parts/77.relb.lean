/-! The strong relation: the same tokens, the same place, the same reduced forms in the places; evaluate keeps it and answers alike -/
def bb_P (pres cl : Nat → Int32) (g : Nat → Fin 5) (pv : Nat → Option (PF × PF)) : Prop := ∀ n, n < 7 → (pv n = none ∧ pres n = 0) ∨ ∃ w, pv n = some w ∧ pres n ≠ 0 ∧ xs_pair cl n w ∧ fi_s g (52 + 2 * n) = w.1 ∧ fi_s g (53 + 2 * n) = w.2 ∧ pr_ok w
def bb_R (u : SX) (v : SY) : Prop := ∃ (cnt : Nat) (g T : Nat → Fin 5) (kd : Nat → Nat) (cn : Nat → Int32) (pv : Nat → Option (PF × PF)), cnt ≤ 24 ∧ u.1 = nI cnt ∧ v.1 = nI cnt ∧ v.2.2.2.2.2.2.2.2.1 = fi_m g ∧ v.2.2.2.2.2.2.2.2.2.2.2.2.2.2.2 = fi_m T ∧
  (∀ j, j < cnt → u.2.2.2.2.2.2.1 j = nI (kd j) ∧ u.2.2.2.2.2.2.2.1 j = cn j ∧ v.2.2.2.2.2.2.2.2.2.2.2.1 j = cn j) ∧ ya_tk v.2.2.2.2.2.2.2.2.2.2.1 v.2.2.2.2.2.2.2.2.2.2.2.1 cnt kd ∧ ya_9 g ∧ xw_b u.2.2.2.2.2.2.2.2.2.2.2.2.1 ∧ (∀ n, n < 7 → u.2.2.2.2.2.2.2.2.2.2.2.2.1 n = v.2.2.2.2.2.2.2.2.2.1 n) ∧ u.2.1 = v.2.1 ∧
  bb_P u.2.2.2.2.2.2.2.2.2.2.2.2.1 u.2.2.2.2.2.2.2.2.2.2.2.2.2.1 g pv
theorem bb_0 : wpX_init (fun u => wpY_init (fun v => bb_R u v)) := by
  refine ⟨0, fun _ => 0, fun _ => 0, fun _ => 0, fun _ => 0, fun _ => none, by omega, rfl, rfl, rfl, rfl, fun j hj => by omega, fun j hj => by omega, fun s _ _ k _ => ?_, fun _ => Or.inl rfl, fun _ _ => rfl, rfl, fun n _ => Or.inl ⟨rfl, rfl⟩⟩
  show (if k < 20 then 0 else 0) = (0 : Fin 5)
  rw [ite_self]
theorem bb_xs {pres cl : Nat → Int32} {g : Nat → Fin 5} {pv : Nat → Option (PF × PF)} (h : bb_P pres cl g pv) : xs_vs cl pres pv := fun n hn => by
  rcases h n (by omega) with a | ⟨w, a, b, c, d, e, f⟩
  · exact Or.inl a
  · exact Or.inr ⟨w, a, b, c, f⟩
theorem bb_ys {pres th cl : Nat → Int32} {g : Nat → Fin 5} {pv : Nat → Option (PF × PF)} (h : bb_P pres cl g pv) (e : ∀ n, n < 7 → pres n = th n) : ys_vs g th pv := fun n hn => by
  rcases h n (by omega) with ⟨a, b⟩ | ⟨w, a, b, c, d, e2, f⟩
  · exact Or.inl ⟨a, by rw [← e n (by omega)]; exact b⟩
  · exact Or.inr ⟨w, a, by rw [← e n (by omega)]; exact b, d, e2, f⟩
theorem bb_e6 {pres th : Nat → Int32} (e : ∀ n, n < 7 → pres n = th n) (x : Int32) : ∀ n, n < 7 → upd pres 6 x n = upd th 6 x n := fun n hn => by
  by_cases c : n = 6
  · subst c; rw [pk_us, pk_us]
  · rw [pk_un c, pk_un c]; exact e n hn
/-- the places behind an evaluate without a value -/
theorem bb_Pn {pres cl cl' : Nat → Int32} {g g' : Nat → Fin 5} {pv : Nat → Option (PF × PF)} (h : bb_P pres cl g pv) (e1 : ∀ i, i < 108 → cl' i = cl i) (e2 : ∀ s, 52 ≤ s → s < 64 → fi_s g' s = fi_s g s) : bb_P (upd pres 6 (vp_nar .boolean 0)) cl' g' (fun n => if n = 6 then none else pv n) := by
  intro n hn
  by_cases c : n = 6
  · subst c; exact Or.inl ⟨if_pos rfl, by rw [pk_us]; rfl⟩
  · rcases h n hn with ⟨a, b⟩ | ⟨w, a, b, d, e, f, o⟩
    · exact Or.inl ⟨(if_neg c).trans a, by rw [pk_un c]; exact b⟩
    · exact Or.inr ⟨w, (if_neg c).trans a, by rw [pk_un c]; exact b, ⟨fun k hk => by rw [e1 _ (by omega)]; exact d.1 k hk, fun k hk => by rw [e1 _ (by omega)]; exact d.2 k hk⟩, by rw [e2 _ (by omega) (by omega)]; exact e, by rw [e2 _ (by omega) (by omega)]; exact f, o⟩
theorem bb_Ps {pres cl cl' : Nat → Int32} {g g' : Nat → Fin 5} {pv : Nat → Option (PF × PF)} {w0 : PF × PF} (h : bb_P pres cl g pv) (e1 : ∀ i, i < 108 → cl' i = cl i) (e2 : ∀ s, 52 ≤ s → s < 64 → fi_s g' s = fi_s g s) (hp : xs_pair cl' 6 w0) (o0 : pr_ok w0) (s4 : fi_s g' 64 = w0.1) (s5 : fi_s g' 65 = w0.2) : bb_P (upd (upd pres 6 (vp_nar .boolean 0)) 6 (vp_nar .boolean 1)) cl' g' (fun n => if n = 6 then some w0 else pv n) := by
  intro n hn
  by_cases c : n = 6
  · subst c
    refine Or.inr ⟨w0, if_pos rfl, ?_, hp, s4, s5, o0⟩
    rw [pk_us]
    show ¬ (1 : Int32) = 0
    decide
  · rcases h n hn with ⟨a, b⟩ | ⟨w, a, b, d, e, f, o⟩
    · exact Or.inl ⟨(if_neg c).trans a, by rw [pk_un c, pk_un c]; exact b⟩
    · exact Or.inr ⟨w, (if_neg c).trans a, by rw [pk_un c, pk_un c]; exact b, ⟨fun k hk => by rw [e1 _ (by omega)]; exact d.1 k hk, fun k hk => by rw [e1 _ (by omega)]; exact d.2 k hk⟩, by rw [e2 _ (by omega) (by omega)]; exact e, by rw [e2 _ (by omega) (by omega)]; exact f, o⟩
theorem bb_evaluate {u : SX} {v : SY} {Q : Int32 → Int32 → SX → SY → Prop} (I : bb_R u v) (h : ∀ r u' v', bb_R u' v' → Q r r u' v') : wpX_evaluate (fun r u' => wpY_evaluate (fun r' v' => Q r r' u' v') v) u := by
  obtain ⟨f_tokenCount, f_latestPlace, f_stepCount, f_waitingCount, f_stackCount, f_factorCount, a_tokenKind, a_tokenContent, a_stepKind, a_stepToken, a_waitingKind, a_waitingToken, a_present, a_cells, a_leftTop, a_leftBottom, a_rightTop, a_rightBottom, a_top, a_bottom, a_product, a_quotient, a_common, a_spare, a_rest, a_divisor, a_inverse, a_numerator, a_factorDegrees, a_factorPowers, a_factorCells⟩ := u
  obtain ⟨f_count, f_place, f_opens, f_top, f_fault, f_faultAt, f_dry, f_found, a_c, a_there, a_kind, a_num, a_open, a_openAt, a_power, a_table⟩ := v
  obtain ⟨cnt, g, T, kd, cn, pv, hc, e1, e2, e3, e4, tt, tk, p9, hb, eb, ep, hP⟩ := I
  dsimp only at e1 e2 e3 e4 tt tk hb eb ep hP
  subst e1 e2 e3 e4 ep
  have tk1 : ∀ j, j < cnt → a_tokenKind j = nI (kd j) ∧ kd j ≤ 11 := fun j hj => ⟨(tt j hj).1, (tk j hj).2.1⟩
  have tkn : ∀ j, j < cnt → a_tokenContent j = cn j ∧ kd j ≤ 11 ∧ (kd j = 2 → ∃ n, n < 6 ∧ cn j = nI n) ∧ (kd j = 9 → ∃ q, q ≤ 8 ∧ (cn j = nI q ∨ (cn j = -nI q ∧ 1 ≤ q))) := fun j hj => by
    obtain ⟨a, b, c⟩ := tt j hj
    obtain ⟨_, d, e, f⟩ := tk j hj
    rw [c] at e f
    exact ⟨b, d, e, f⟩
  have hcn : ∀ j, j < cnt → cn j = a_num j := fun j hj => (tt j hj).2.2.symm
  have yv := bb_ys hP eb
  refine xb_evaluate (vs := pv) (cn := cn) (kd := kd) cnt hc tk1 tkn hb (bb_xs hP) (fun p hp er => ?_) (fun er code place L f_stepCount f_waitingCount f_stackCount a_stepKind a_stepToken a_waitingKind a_waitingToken cl a_leftTop a_leftBottom a_rightTop a_rightBottom a_top a_bottom a_product a_quotient a_common a_spare a_rest a_divisor a_inverse a_numerator c0 c4 hr hcl => ?_) (fun er place w f_stepCount f_waitingCount f_stackCount a_stepKind a_stepToken a_waitingKind a_waitingToken cl a_leftTop a_leftBottom a_rightTop a_rightBottom a_top a_bottom a_product a_quotient a_common a_spare a_rest a_divisor a_inverse a_numerator hr ow hp hcl => ?_)
  · refine yb_evaluate (vs := pv) (cn := cn) (kd := kd) hc tk hcn p9 yv (fun p' g' f_opens f_top f_fault f_faultAt f_dry f_found a_open a_openAt a_power er' pl => ?_) (fun er' => absurd (er.symm.trans er') (fun z => nomatch z)) (fun er' => absurd (er.symm.trans er') (fun z => nomatch z))
    have e : p = p' := by
      rw [er] at er'
      injection er'
    subst e
    exact h _ _ _ ⟨cnt, g', T, kd, cn, _, hc, rfl, rfl, rfl, rfl, tt, tk, ya_9_pl p9 pl, xw_b0 hb 6, bb_e6 eb _, rfl, bb_Pn hP (fun _ _ => rfl) (fun s a b => pl s a (by omega))⟩
  · refine yb_evaluate (vs := pv) (cn := cn) (kd := kd) hc tk hcn p9 yv (fun p' g' _ _ _ _ _ _ _ _ _ er' => absurd (er.symm.trans er') (fun z => nomatch z)) (fun _ code' place' L' g' f_opens f_top f_fault f_faultAt f_dry f_found a_open a_openAt a_power c0' c4' hr' pl => ?_) (fun _ place' w' g' _ _ _ _ _ _ _ _ _ hr' => ?_)
    · obtain ⟨x1, x2, _⟩ := pr_run_d _ _ _ _ _ _ _ hr hr'
      have y2 := x2 c0
      subst x1 y2
      exact h _ _ _ ⟨cnt, g', T, kd, cn, _, hc, rfl, rfl, rfl, rfl, tt, tk, ya_9_pl p9 pl, xw_b0 hb 6, bb_e6 eb _, rfl, bb_Pn hP (fun i hi => hcl i (by omega)) (fun s a b => pl s a (by omega))⟩
    · obtain ⟨x1, _, _⟩ := pr_run_d _ _ _ _ _ _ _ hr hr'
      exact absurd x1 c0
  · refine yb_evaluate (vs := pv) (cn := cn) (kd := kd) hc tk hcn p9 yv (fun p' g' _ _ _ _ _ _ _ _ _ er' => absurd (er.symm.trans er') (fun z => nomatch z)) (fun _ code' place' L' g' _ _ _ _ _ _ _ _ _ c0' c4' hr' => ?_) (fun _ place' w' g' f_opens f_top f_fault f_faultAt f_dry f_found a_open a_openAt a_power hr' ow' s4 s5 pl => ?_)
    · obtain ⟨x1, _, _⟩ := pr_run_d _ _ _ _ _ _ _ hr hr'
      exact absurd x1.symm c0'
    · obtain ⟨_, _, x3⟩ := pr_run_d _ _ _ _ _ _ _ hr hr'
      have ew := x3 rfl
      injection ew with ew _
      subst ew
      refine h _ _ _ ⟨cnt, g', T, kd, cn, _, hc, rfl, rfl, rfl, rfl, tt, tk, fun s a b => ?_, xw_b1 (xw_b0 hb 6) 6, bb_e6 (bb_e6 eb _) _, rfl, bb_Ps hP hcl pl hp ow s4 s5⟩
      by_cases c5 : s = 65
      · rw [c5, s5]; exact ow.2.1
      · by_cases c4 : s = 64
        · rw [c4, s4]; exact ow.1
        · rw [pl s a (by omega)]; exact p9 s a b
