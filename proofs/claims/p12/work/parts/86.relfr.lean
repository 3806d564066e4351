/-! The strong relation: fraction answers alike -/
/-- what the reference's fraction answers -/
def fr_ans (P A : PF) (N m : Nat) (F : Nat → PF) (D n : Nat → Nat) (xi xj : Int32) (kk : Nat) (ans : Int32) : Prop :=
  ((xi < -1 ∨ nI m ≤ xi) ∧ ans = 0) ∨
  (xi = -1 ∧ ∃ Q R : PF, pf_fin Q ∧ pf_ln R N ∧ P = pf_add (pf_mul Q A) R ∧ ans = fi_I (Q kk)) ∨
  ∃ ii, ii < m ∧ xi = nI ii ∧ (((xj < 1 ∨ nI (n ii) < xj) ∧ ans = 0) ∨
    ∃ j1, j1 < n ii ∧ xj = nI (j1 + 1) ∧ ((D ii ≤ kk ∧ ans = 0) ∨
      (kk < D ii ∧ ∃ (x : Nat → Fin 5) (Q R B : PF), pf_fin Q ∧ pf_ln R N ∧ P = pf_add (pf_mul Q A) R ∧ pf_fin B ∧ A = pf_mul (pf_pow (F ii) (n ii)) B ∧
        pf_dv (pf_pow (F ii) (n ii)) (pf_sub R (pf_mul B (pf_S x (pf_ns n D ii) (F ii) (D ii) (n ii)))) ∧ ans = fi_I (x (pf_ns n D ii + (j1 * D ii + kk))))))
theorem bb_n1 {x : Int32} (h1 : ¬ x < -1) (h2 : x < 0) : x = -1 := by
  apply Int32.toInt_inj.mp
  rw [Int32.lt_iff_toInt_lt] at h1 h2
  have e1 : (-1 : Int32).toInt = -1 := by decide
  have e2 : (0 : Int32).toInt = 0 := by decide
  omega
section
variable {f_count f_place f_opens f_top f_fault f_faultAt f_dry f_found : Int32} {a_c a_there a_kind a_num a_open a_openAt a_power a_table : Nat → Int32}
theorem yk_frac0 {post : Int32 → SY → Prop} {g T : Nat → Fin 5} {xa xi xj xk : Int32} (pl9 : ya_9 g) (hk : xk < 0 ∨ 8 < xk)
    (h : ∀ (g' : Nat → Fin 5) (f_found : Int32) (a_power : Nat → Int32), ya_pl g g' → post 0 (f_count, f_place, f_opens, f_top, f_fault, f_faultAt, f_dry, f_found, fi_m g', a_there, a_kind, a_num, a_open, a_openAt, a_power, fi_m T)) : wpY_fraction post (f_count, f_place, f_opens, f_top, f_fault, f_faultAt, f_dry, f_found, fi_m g, a_there, a_kind, a_num, a_open, a_openAt, a_power, fi_m T) xa xi xj xk := by
  unfold wpY_fraction
  refine yc_factors pl9 (nm_e (br_t (by decide) (h _ _ _ (ya_pl_r g)))) (fun a p m g1 pw ha hp ex ey hm fr nz ok => ?_)
  have p1 : ya_pl g g1 := ya_pl_fr fr
  refine nm_e (br_f (nI_pos (by omega)) ?_)
  by_cases c0 : xk < 0
  · exact br_t c0 (h _ _ _ p1)
  · exact br_f c0 (br_t (hk.resolve_left c0) (h _ _ _ p1))
theorem yk_fraction {post : Int32 → SY → Prop} {g T : Nat → Fin 5} {xi xj : Int32} (a kk : Nat) (ha : a < 7) (hk8 : kk ≤ 8) (pl9 : ya_9 g)
    (hy : ∀ {post : Int32 → Prop}, post (nI (52 + 2 * a + 1)) → wpY_part post (f_count, f_place, f_opens, f_top, f_fault, f_faultAt, f_dry, f_found, fi_m g, a_there, a_kind, a_num, a_open, a_openAt, a_power, fi_m T) (nI a) 1) (nz : fi_s g (53 + 2 * a) ≠ pf_c 0)
    (h : ∀ (m N : Nat) (r : PF) (F : Nat → PF) (D n : Nat → Nat) (ans : Int32) (g' T' : Nat → Fin 5) (f_found : Int32) (a_power : Nat → Int32), m ≤ 8 → pf_hd (fi_s g (53 + 2 * a)) N → pf_Sp (fi_s g (53 + 2 * a)) r m F D n → pf_so r m F D → pf_hd r 0 → ya_pl g g' → fr_ans (fi_s g (52 + 2 * a)) (fi_s g (53 + 2 * a)) N m F D n xi xj kk ans → post ans (f_count, f_place, f_opens, f_top, f_fault, f_faultAt, f_dry, f_found, fi_m g', a_there, a_kind, a_num, a_open, a_openAt, a_power, fi_m T')) :
    wpY_fraction post (f_count, f_place, f_opens, f_top, f_fault, f_faultAt, f_dry, f_found, fi_m g, a_there, a_kind, a_num, a_open, a_openAt, a_power, fi_m T) (nI a) xi xj (nI kk) := by
  unfold wpY_fraction
  have e5 : 52 + 2 * a + 1 = 53 + 2 * a := by omega
  refine yk_factors a 1 ha (by omega) pl9 hy (fun z => absurd (e5 ▸ z) nz) (fun m g1 pw hm fr _ ok => ?_)
  have e53 : (53 : Int32) + 2 * nI a = nI (53 + 2 * a) := by rw [fi_2]; exact nI_add 53 (2 * a)
  rw [e5] at ok
  have p1 : ya_pl g g1 := ya_pl_fr fr
  obtain ⟨N, r, D, n, hA, S, hr⟩ : ∃ (N : Nat) (r : PF) (D n : Nat → Nat), pf_hd (fi_s g (53 + 2 * a)) N ∧ ys_sp g1 (fi_s g (53 + 2 * a)) r m pw D n ∧ pf_hd r 0 := by
    rcases ok with ⟨z, _⟩ | t
    · exact absurd z nz
    · exact t
  have H : ∀ (ans : Int32) (g' T' : Nat → Fin 5) (f_found : Int32) (a_power : Nat → Int32), ya_pl g g' → fr_ans (fi_s g (52 + 2 * a)) (fi_s g (53 + 2 * a)) N m (fun i => fi_s g1 (72 + i)) D n xi xj kk ans → post ans (f_count, f_place, f_opens, f_top, f_fault, f_faultAt, f_dry, f_found, fi_m g', a_there, a_kind, a_num, a_open, a_openAt, a_power, fi_m T') := fun ans g' T' f_found a_power pl an => h m N r _ D n ans g' T' _ _ hm hA S.1 S.2.2 hr pl an
  refine nm_r e53 (br_f (nI_pos (by omega)) (br_f (nI_pos (by omega)) (br_f (nI_nlt (a := 8) (b := kk) (by omega) (by omega)) ?_)))
  by_cases cm : xi < (-1)
  · exact br_t cm (H _ _ _ _ _ p1 (Or.inl ⟨Or.inl cm, rfl⟩))
  refine br_f cm ?_
  by_cases cr : nI m ≤ xi
  · exact br_t cr (H _ _ _ _ _ p1 (Or.inl ⟨Or.inr cr, rfl⟩))
  refine br_f cr ?_
  have eA1 : fi_s g1 (53 + 2 * a) = fi_s g (53 + 2 * a) := fr _ (by omega)
  have eP1 : fi_s g1 (52 + 2 * a) = fi_s g (52 + 2 * a) := fr _ (by omega)
  have hN8 : N ≤ 8 := by
    have := pf_hd_lt hA (pl9 _ (by omega) (by omega))
    omega
  have eN : pf_ns n D m = N := by
    obtain ⟨e, he, h1⟩ := pf_Sp_deg S.1 hA (pf_hd_fin hr)
    have := pf_hd_u he hr
    omega
  have e1 : nI (53 + 2 * a) - 1 = nI (52 + 2 * a) := by
    have : 53 + 2 * a = (52 + 2 * a) + 1 := by omega
    rw [this]; exact nI_pred _
  have f71 : (xi < 0 ∨ ∃ ii j1, ii < m ∧ xi = nI ii ∧ j1 < n ii ∧ xj = nI (j1 + 1)) → wY_fraction_71 post xi xj (nI kk) (nI m) (nI (53 + 2 * a)) (-1) 0 f_count f_place f_opens f_top f_fault f_faultAt f_dry (nI m) (fi_m g1) a_there a_kind a_num a_open a_openAt (pw) (fi_m T) := by
    intro hc
    unfold wY_fraction_71
    refine yc_divide (52 + 2 * a) (53 + 2 * a) 82 83 (d := N) (by omega) (by omega) (by omega) (by omega) (by omega) (by omega) (by omega) (by rw [eA1]; exact hA) (fun Q R lQ lR eQ => ?_) e1
    rw [eA1, eP1] at eQ
    have p2 : ya_pl g (fi_p (fi_p g1 83 R) 82 Q) := fun s h1 h2 => by rw [fi_sq (by omega), fi_sq (by omega)]; exact p1 s h1 h2
    rcases hc with c | ⟨ii, j1, hii, exi, hj1, exj⟩
    · refine br_f (by rw [Int32.not_le]; exact c) ⟨pk_in (1640 + kk) 1800 (by omega) (nI_add 1640 kk), ?_⟩
      have ex : (1640 : Int32) + nI kk = nI (20 * 82 + kk) := nI_add 1640 kk
      have e : fi_m (fi_p (fi_p g1 83 R) 82 Q) ((1640 : Int32) + nI kk).toNatClampNeg = fi_I (Q kk) := by
        have e2 : fi_s (fi_p (fi_p g1 83 R) 82 Q) 82 kk = Q kk := by rw [fi_sp lQ]
        rw [ex, nI_clamp (by omega), ← e2, fi_s_at (by omega)]; rfl
      rw [e]
      exact H _ _ _ _ _ p2 (Or.inr (Or.inl ⟨bb_n1 cm c, Q, R, ⟨_, lQ⟩, lR, eQ, rfl⟩))
    · subst exi exj
      have hF : pf_hd (fi_s (fi_p (fi_p g1 83 R) 82 Q) (72 + ii)) (D ii) := by
        rw [fi_sq (by omega), fi_sq (by omega)]; exact (S.1.1 ii hii).1
      refine br_t (nI_pos' (by omega)) (yc_deg (72 + ii) (by omega) (fun z => absurd z (pf_hd_n0 hF)) (fun d hd hd2 => ?_) (fi_72 ii))
      obtain rfl := pf_hd_u hd2 hF
      by_cases ck : kk < D ii
      · refine br_t (nI_lt ck (by omega)) ⟨m + 1, ?_⟩
        have eg : ∀ s, s ≠ 82 → s ≠ 83 → fi_s (fi_p (fi_p g1 83 R) 82 Q) s = fi_s g1 s := fun s h1 h2 => by rw [fi_sq h1, fi_sq h2]
        have S2 : ys_sp (fi_p (fi_p g1 83 R) 82 Q) (fi_s g (53 + 2 * a)) r m pw D n := ys_sp_eq S (fun i hi => eg _ (by omega) (by omega))
        obtain ⟨q, q0, qs, qh, qc⟩ := pf_chain S2.1 hA
        have e83 : fi_s (fi_p (fi_p g1 83 R) 82 Q) 83 = R := by rw [fi_sq (by omega), fi_sp (pf_ln_mono lR (by omega))]
        have e72 : fi_s (fi_p (fi_p g1 83 R) 82 Q) (72 + ii) = fi_s g1 (72 + ii) := eg _ (by omega) (by omega)
        have t := yc_frac119 (post := post) (g0 := fi_p (fi_p g1 83 R) 82 Q) (a_power := pw) (f_found := nI m) (f_count := f_count) (f_place := f_place) (f_opens := f_opens) (f_top := f_top) (f_fault := f_fault) (f_faultAt := f_faultAt) (f_dry := f_dry) (a_there := a_there) (a_kind := a_kind) (a_num := a_num) (a_open := a_open) (a_openAt := a_openAt) (a := a) (q := q) ha hm hN8 eN (by rw [eg _ (by omega) (by omega), eA1]) S2.1 S2.2.1 q0 qs qh qc hii hj1 ck (by rw [e83]; exact lR) (fun x g' T' fr' dv => H _ g' T' _ _ (fun s h1 h2 => by rw [fr' s (by omega) (by omega) (by omega)]; exact p2 s h1 h2) (Or.inr (Or.inr ⟨ii, hii, rfl, Or.inr ⟨j1, hj1, rfl, Or.inr ⟨ck, x, Q, R, q ii (n ii), ⟨_, lQ⟩, lR, eQ, pf_hd_fin (qh ii hii (n ii) (Nat.le_refl _)).1, ?_, ?_, rfl⟩⟩⟩))) m 0 (-1) _ T (by omega) (fun _ _ _ _ => rfl) (fun i' b' k _ _ ho => by omega) (fun ho => by omega)
        · exact t
        · have e9 := pf_q_pow (qs ii hii) (n ii) (Nat.le_refl _)
          rw [q0 ii hii, e72] at e9
          exact e9
        · rw [e83, e72] at dv
          exact dv
      · exact br_f (nI_nlt (by omega) (by omega)) (H _ _ _ _ _ p2 (Or.inr (Or.inr ⟨ii, hii, rfl, Or.inr ⟨j1, hj1, rfl, Or.inl ⟨by omega, rfl⟩⟩⟩)))
  by_cases ci : xi < 0
  · exact br_t ci (f71 (Or.inl ci))
  · refine br_f ci ?_
    obtain ⟨ii, hii, rfl⟩ := nI_of ci
    have hiim : ii < m := by
      by_cases c : ii < m
      · exact c
      · exact absurd (nI_le (by omega) hii) cr
    by_cases cj : xj < 1
    · exact br_t cj (H _ _ _ _ _ p1 (Or.inr (Or.inr ⟨ii, hiim, rfl, Or.inl ⟨Or.inl cj, rfl⟩⟩)))
    · refine br_f cj ⟨vp_in_nI (by omega) (by omega), ?_⟩
      rw [nI_clamp (by omega), S.2.1 ii hiim]
      have hn8 : n ii ≤ 8 := by
        have hDii := (S.1.1 ii hiim).2.1
        have h1 := pf_ns_mono n D (i := ii + 1) (j := m) hiim
        have h2 : pf_ns n D (ii + 1) = pf_ns n D ii + n ii * D ii := rfl
        have := Nat.le_mul_of_pos_right (n ii) (show 0 < D ii by omega)
        omega
      have cj0 : ¬ xj < 0 := fun z => cj (Int32.lt_of_lt_of_le z (by decide))
      obtain ⟨jj, hjj, rfl⟩ := nI_of cj0
      have hj1 : 1 ≤ jj := by
        by_cases c : 1 ≤ jj
        · exact c
        · exact absurd (nI_lt (b := 1) (by omega) (by decide)) cj
      by_cases cl : jj ≤ n ii
      · refine br_t (nI_le cl (by omega)) (f71 (Or.inr ⟨ii, jj - 1, hiim, rfl, by omega, ?_⟩))
        congr 1; omega
      · exact br_f (nI_ge (by omega) hjj) (H _ _ _ _ _ p1 (Or.inr (Or.inr ⟨ii, hiim, rfl, Or.inl ⟨Or.inr (nI_lt (by omega) hjj), rfl⟩⟩)))
end
/-- the two sides' answers are one -/
theorem fr_same {P A r r' Q R B M : PF} {N m m' i j kk : Nat} {F F' : Nat → PF} {D n D' n' : Nat → Nat} {ans : Int32} (hN : pf_hd A N) (S : pf_Sp A r m F D n) (S' : pf_Sp A r' m' F' D' n') (hr : pf_hd r 0) (hr' : pf_hd r' 0) (so : pf_so r m F D) (so' : pf_so r' m' F' D')
    (hm : m ≤ 8) (hi : i < m) (hj : j < n i) (hn : n i ≤ 8) (fQ : pf_fin Q) (lR : pf_ln R N) (eP : P = pf_add (pf_mul Q A) R) (fB : pf_fin B) (eA : A = pf_mul (pf_pow (F i) (n i)) B) (num : fr_num (F i) B R (D i) (n i) M j)
    (an : fr_ans P A N m' F' D' n' (nI i) (nI (j + 1)) kk ans) : ans = fi_I (M kk) := by
  obtain ⟨em, eu⟩ := pf_so_u S S' hr hr' so so'
  subst em
  rcases an with ⟨c | c, _⟩ | ⟨c, _⟩ | ⟨ii, hii, ei, an⟩
  · exact absurd (Int32.lt_trans c (by decide : (-1 : Int32) < 0)) (nI_pos (by omega))
  · exact absurd c (nI_ge hi (by omega))
  · exact absurd (show nI i < 0 by rw [c]; decide) (nI_pos (by omega))
  · obtain rfl : i = ii := (nI_eq (by omega) (by omega)).mp ei
    obtain ⟨eD, eF, en⟩ := eu i hi
    rw [← eD, ← eF, ← en] at an
    rcases an with ⟨c | c, _⟩ | ⟨j1, hj1, ej, an⟩
    · exact absurd c (nI_nlt (a := j + 1) (b := 1) (by omega) (by omega))
    · exact absurd c (nI_nlt (by omega) (by omega))
    · have ejj := (nI_eq (by omega) (by omega)).mp ej
      obtain rfl : j = j1 := by omega
      rcases an with ⟨c, rfl⟩ | ⟨c, x, Q2, R2, B2, fQ2, lR2, eP2, fB2, eA2, dv, rfl⟩
      · rw [num.1 kk c]; rfl
      · obtain ⟨_, eR⟩ := pf_divu hN fQ fQ2 lR lR2 eP eP2
        have eB : B2 = B := by
          refine pf_cancel (pf_pow_hd (S.1 i hi).1 (n i)) fB2 fB ?_
          rw [pf_mul_comm, ← eA2, eA, pf_mul_comm]
        rw [← eR, eB] at dv
        have e := num.2 _ _ (fr_rec_S (S.1 i hi).1) dv
        rw [e]
        show fi_I (x _) = fi_I (if kk < D i then x (_ + j * D i + kk) else 0)
        rw [if_pos c, Nat.add_assoc]
theorem fr_zero {P A r r' : PF} {N m m' kk : Nat} {F F' : Nat → PF} {D n D' n' : Nat → Nat} {xi xj ans : Int32} (S : pf_Sp A r m F D n) (S' : pf_Sp A r' m' F' D' n') (hr : pf_hd r 0) (hr' : pf_hd r' 0) (so : pf_so r m F D) (so' : pf_so r' m' F' D')
    (hm : m ≤ 8) (h1 : xi ≠ -1) (h2 : xi < 0 ∨ nI m ≤ xi ∨ ∃ i, i < m ∧ xi = nI i ∧ n i ≤ 8 ∧ (xj < 1 ∨ nI (n i) < xj))
    (an : fr_ans P A N m' F' D' n' xi xj kk ans) : ans = 0 := by
  obtain ⟨em, eu⟩ := pf_so_u S S' hr hr' so so'
  subst em
  rcases an with ⟨_, e⟩ | ⟨c, _⟩ | ⟨ii, hii, ei, an⟩
  · exact e
  · exact absurd c h1
  · subst ei
    rcases h2 with c | c | ⟨i, hi, e, hn, c⟩
    · exact absurd c (nI_pos (by omega))
    · exact absurd c (nI_ge hii (by omega))
    · obtain rfl : ii = i := (nI_eq (by omega) (by omega)).mp e
      obtain ⟨eD, eF, en⟩ := eu ii hi
      rw [← eD, ← eF, ← en] at an
      rcases an with ⟨_, e⟩ | ⟨j1, hj1, ej, an⟩
      · exact e
      · exfalso
        subst ej
        rcases c with c | c
        · exact nI_nlt (a := j1 + 1) (b := 1) (by omega) (by omega) c
        · exact nI_nlt (by omega) (by omega) c
theorem bb_fraction2 {u : SX} {v : SY} {v1 v2 v3 v4 : Int32} {Q : Int32 → Int32 → SX → SY → Prop} (I : bb_R u v) (h : ∀ r u' v', bb_R u' v' → Q r r u' v') : wpX_fraction (fun r u' => wpY_fraction (fun r' v' => Q r r' u' v') v v1 v2 v3 v4) u v1 v2 v3 v4 := by
  have B := bb_part v1 1 I
  obtain ⟨f_tokenCount, f_latestPlace, f_stepCount, f_waitingCount, f_stackCount, f_factorCount, a_tokenKind, a_tokenContent, a_stepKind, a_stepToken, a_waitingKind, a_waitingToken, a_present, a_cells, a_leftTop, a_leftBottom, a_rightTop, a_rightBottom, a_top, a_bottom, a_product, a_quotient, a_common, a_spare, a_rest, a_divisor, a_inverse, a_numerator, a_factorDegrees, a_factorPowers, a_factorCells⟩ := u
  obtain ⟨f_count, f_place, f_opens, f_top, f_fault, f_faultAt, f_dry, f_found, a_c, a_there, a_kind, a_num, a_open, a_openAt, a_power, a_table⟩ := v
  have I0 := I
  obtain ⟨cnt, g, T, kd, cn, pv, hc, e1, e2, e3, e4, tt, tk, p9, hb, eb, ep, hP⟩ := I
  dsimp only at e1 e2 e3 e4 tt tk hb eb ep hP B
  subst e1 e2 e3 e4 ep
  unfold wpX_fraction
  dsimp only
  rcases B with ⟨hx, hy⟩ | ⟨a, p, ha, hp, rfl, ep1, pa, hx, hy⟩
  · refine hx (br_t rfl ?_)
    unfold wpY_fraction wpY_factors
    dsimp only
    exact hy (br_t (by decide) (nm_e (br_t (by decide) (h _ _ _ I0))))
  · obtain rfl : p = 1 := ((nI_eq (a := p) (b := 1) (by omega) (by omega)).mp ep1.symm)
    obtain ⟨P, A, b, hPc, lP, eS, hAc, lA, eT, dA⟩ : ∃ (P A : PF) (b : Nat), (∀ k, k < 9 → a_cells ((a * 2 + 0) * 9 + k) = fi_I (P k)) ∧ pf_ln P 9 ∧ fi_s g (52 + 2 * a) = P ∧ (∀ k, k < 9 → a_cells ((a * 2 + 1) * 9 + k) = fi_I (A k)) ∧ pf_ln A 9 ∧ fi_s g (53 + 2 * a) = A ∧ pf_hd A b := by
      rcases hP a ha with ⟨x, y⟩ | ⟨w, x, y, d, e, f, o⟩
      · exact absurd y pa
      · obtain ⟨b, hb1, _⟩ := o.2.2.1
        exact ⟨w.1, w.2, b, d.1, o.1, e, d.2, o.2.1, f, hb1⟩
    have nz : fi_s g (53 + 2 * a) ≠ pf_c 0 := by rw [eT]; exact pf_hd_n0 dA
    have hb9 := pf_hd_lt dA lA
    refine hx (br_f (by decide) ?_)
    by_cases k0 : v4 < 0 ∨ 8 < v4
    · have Y : wpY_fraction (fun r' v' => Q 0 r' (nI cnt, f_latestPlace, f_stepCount, f_waitingCount, f_stackCount, f_factorCount, a_tokenKind, a_tokenContent, a_stepKind, a_stepToken, a_waitingKind, a_waitingToken, a_present, a_cells, a_leftTop, a_leftBottom, a_rightTop, a_rightBottom, a_top, a_bottom, a_product, a_quotient, a_common, a_spare, a_rest, a_divisor, a_inverse, a_numerator, a_factorDegrees, a_factorPowers, a_factorCells) v') (nI cnt, f_latestPlace, f_opens, f_top, f_fault, f_faultAt, f_dry, f_found, fi_m g, a_there, a_kind, a_num, a_open, a_openAt, a_power, fi_m T) (nI a) v2 v3 v4 :=
        yk_frac0 p9 k0 (fun g' f_found a_power pl => h _ _ _ ⟨cnt, g', T, kd, cn, pv, hc, rfl, rfl, rfl, rfl, tt, tk, ya_9_pl p9 pl, hb, eb, rfl, bb_Pg hP pl⟩)
      by_cases c0 : v4 < 0
      · exact br_t c0 Y
      · exact br_f c0 (br_f (Int32.not_le.mpr (k0.resolve_left c0)) Y)
    · have k1 : ¬ v4 < 0 := fun c => k0 (Or.inl c)
      have k2 : ¬ 8 < v4 := fun c => k0 (Or.inr c)
      obtain ⟨kk, hkk, rfl⟩ := nI_of k1
      have hk8 : kk ≤ 8 := (nI_leI (b := 8) hkk (by decide)).mp (Int32.not_lt.mp k2)
      have Y : ∀ (ansX : Int32) (u' : SX), (∀ v', bb_R (nI cnt, f_latestPlace, f_stepCount, f_waitingCount, f_stackCount, f_factorCount, a_tokenKind, a_tokenContent, a_stepKind, a_stepToken, a_waitingKind, a_waitingToken, a_present, a_cells, a_leftTop, a_leftBottom, a_rightTop, a_rightBottom, a_top, a_bottom, a_product, a_quotient, a_common, a_spare, a_rest, a_divisor, a_inverse, a_numerator, a_factorDegrees, a_factorPowers, a_factorCells) v' → bb_R u' v') → (∀ (m N : Nat) (r : PF) (F : Nat → PF) (D n : Nat → Nat) (ans : Int32), m ≤ 8 → pf_hd A N → pf_Sp A r m F D n → pf_so r m F D → pf_hd r 0 → fr_ans P A N m F D n v2 v3 kk ans → ans = ansX) → wpY_fraction (fun r' v' => Q ansX r' u' v') (nI cnt, f_latestPlace, f_opens, f_top, f_fault, f_faultAt, f_dry, f_found, fi_m g, a_there, a_kind, a_num, a_open, a_openAt, a_power, fi_m T) (nI a) v2 v3 (nI kk) := by
        intro ansX u' ku hans
        refine yk_fraction a kk ha hk8 p9 hy nz (fun m N r F D n ans g' T' f_found a_power hm hN S so hr pl an => ?_)
        rw [eT] at hN S
        rw [eS, eT] at an
        have e := hans m N r F D n ans hm hN S so hr an
        subst e
        exact h _ _ _ (ku _ ⟨cnt, g', T', kd, cn, pv, hc, rfl, rfl, rfl, rfl, tt, tk, ya_9_pl p9 pl, hb, eb, rfl, bb_Pg hP pl⟩)
      refine br_f k1 (br_t (Int32.not_lt.mp k2) ?_)
      by_cases cm : v2 = -1
      · subst cm
        refine br_t rfl (xk_loadProperPart a ha hPc lP hAc lA dA (fun Q1 R1 a_leftTop a_leftBottom a_quotient lQ lR eQ xR xA xQ => ⟨vp_in_nI (by omega) (by omega), ?_⟩))
        dsimp only
        rw [nI_clamp (by omega), xQ kk (by omega)]
        refine Y _ _ (fun _ R => bb_kx R) (fun m N r F D n ans hm hN S so hr an => ?_)
        obtain rfl := pf_hd_u hN dA
        rcases an with ⟨c | c, _⟩ | ⟨_, Q2, R2, fQ2, lR2, eQ2, e⟩ | ⟨ii, hii, ei, _⟩
        · exact absurd c (by decide)
        · exact absurd (Int32.lt_of_le_of_lt c (by decide : (-1 : Int32) < 0)) (nI_pos (by omega))
        · obtain ⟨e3, _⟩ := pf_divu hN ⟨_, lQ⟩ fQ2 lR lR2 eQ eQ2
          rw [e, e3]
        · exact absurd (show nI ii < 0 by rw [← ei]; decide) (nI_pos (by omega))
      · refine br_f cm ?_
        unfold wpX_hasFactor
        dsimp only
        refine hx (br_f (by decide) (xk_split a 1 (by omega) (by omega) hAc lA (fun m a_rest a_divisor a_spare a_quotient a_factorDegrees a_factorPowers a_factorCells hm ok => ?_)))
        obtain ⟨N, r, F, D, n, hN, S, so, hr, fs⟩ : ∃ (N : Nat) (r : PF) (F : Nat → PF) (D n : Nat → Nat), pf_hd A N ∧ pf_Sp A r m F D n ∧ pf_so r m F D ∧ pf_hd r 0 ∧ xk_fs a_factorDegrees a_factorPowers a_factorCells F D n m := by
          rcases ok with ⟨z, _⟩ | t
          · exact absurd z (pf_hd_n0 dA)
          · exact t
        obtain rfl := pf_hd_u hN dA
        obtain ⟨q, q0, qs, qh, qc⟩ := pf_chain S hN
        by_cases c0 : v2 < 0
        · exact br_t c0 (br_t rfl (Y _ _ (fun _ R => bb_kx R) (fun m' N' r' F' D' n' ans hm' hN' S' so' hr' an => fr_zero S S' hr hr' so so' hm cm (Or.inl c0) an)))
        · obtain ⟨i, hi31, rfl⟩ := nI_of c0
          by_cases c1 : i < m
          · have hD := (S.1 i c1).2.1
            have hn1 := S.2.1 i c1
            have hq := qh i c1 (n i) (Nat.le_refl _)
            have hD8 := pf_Sp_D S hN c1
            have hnD : n i ≤ n i * D i := Nat.le_mul_of_pos_right _ (by omega)
            have hDn : D i ≤ n i * D i := Nat.le_mul_of_pos_left _ (by omega)
            refine br_f c0 (br_f (nI_ge c1 (by omega)) (br_f (by decide) ?_))
            by_cases cj : v3 < 1
            · exact br_t cj (Y _ _ (fun _ R => bb_kx R) (fun m' N' r' F' D' n' ans hm' hN' S' so' hr' an => fr_zero S S' hr hr' so so' hm cm (Or.inr (Or.inr ⟨i, c1, rfl, by omega, Or.inl cj⟩)) an))
            · have cj0 : ¬ v3 < 0 := fun z => cj (Int32.lt_of_lt_of_le z (by decide))
              obtain ⟨jj, hjj, rfl⟩ := nI_of cj0
              have hj1 : 1 ≤ jj := by
                by_cases c : 1 ≤ jj
                · exact c
                · exact absurd (nI_lt (b := 1) (by omega) (by decide)) cj
              refine br_f cj ⟨vp_in_nI (by omega) (by omega), ?_⟩
              dsimp only
              rw [nI_clamp (by omega), (fs i c1).2.1]
              by_cases cl : jj ≤ n i
              · obtain ⟨j, rfl⟩ : ∃ j, jj = j + 1 := ⟨jj - 1, by omega⟩
                refine br_t (nI_le cl (by omega)) (xk_loadProperPart a ha hPc lP hAc lA dA (fun Q1 R1 a_leftTop a_leftBottom a_quotient lQ lR eQ xR xA xQ => ?_))
                refine xk_findNumerator (F := F i) (R := R1) (q := q i) i j (D i) (n i) (by omega) (by omega) (by omega) (by omega) (S.1 i c1) (fs i c1).1 (fs i c1).2.1 (fs i c1).2.2 (qs i c1) (fun t ht => ?_) ?_ ?_ (qc i c1) xR (pf_ln_mono lR (by omega)) (by rw [q0 i c1]; exact xA) (fun M a_leftTop a_leftBottom a_product a_quotient a_common a_spare a_divisor a_inverse a_numerator num xM => ⟨vp_in_nI (by omega) (by omega), ?_⟩)
                · exact pf_ln_mono (qh i c1 t ht).1.1 (by omega)
                · exact pf_ln_mono hq.1.1 (by omega)
                · exact pf_ln_mono hq.1.1 (by omega)
                · dsimp only
                  rw [nI_clamp (by omega), xM kk (by omega)]
                  refine Y _ _ (fun _ R => bb_kx R) (fun m' N' r' F' D' n' ans hm' hN' S' so' hr' an => ?_)
                  obtain rfl := pf_hd_u hN' hN
                  have eA := pf_q_pow (qs i c1) (n i) (Nat.le_refl _)
                  rw [q0 i c1] at eA
                  exact fr_same hN S S' hr hr' so so' hm c1 (by omega) (by omega) ⟨_, lQ⟩ lR eQ (pf_hd_fin hq.1) eA num an
              · exact br_f (nI_ge (by omega) hjj) (Y _ _ (fun _ R => bb_kx R) (fun m' N' r' F' D' n' ans hm' hN' S' so' hr' an => fr_zero S S' hr hr' so so' hm cm (Or.inr (Or.inr ⟨i, c1, rfl, by omega, Or.inr (nI_lt (by omega) hjj)⟩)) an))
          · exact br_f c0 (br_t (nI_le (by omega) hi31) (br_t rfl (Y _ _ (fun _ R => bb_kx R) (fun m' N' r' F' D' n' ans hm' hN' S' so' hr' an => fr_zero S S' hr hr' so so' hm cm (Or.inr (Or.inl (nI_le (by omega) hi31))) an))))
