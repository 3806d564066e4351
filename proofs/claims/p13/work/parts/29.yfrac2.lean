/-! The reference's fraction -/
section
variable {f_count f_place f_opens f_top f_fault f_faultAt f_dry f_found : Int32} {a_c a_there a_kind a_num a_open a_openAt a_power a_table : Nat → Int32}
theorem yc_fraction {post : Int32 → SY → Prop} {g T : Nat → Fin 5} {xa xi xj xk : Int32} (pl9 : ya_9 g)
    (h : ∀ (r : Int32) (g' T' : Nat → Fin 5) (f_found : Int32) (a_power : Nat → Int32), ya_pl g g' → post r (f_count, f_place, f_opens, f_top, f_fault, f_faultAt, f_dry, f_found, fi_m g', a_there, a_kind, a_num, a_open, a_openAt, a_power, fi_m T')) : wpY_fraction post (f_count, f_place, f_opens, f_top, f_fault, f_faultAt, f_dry, f_found, fi_m g, a_there, a_kind, a_num, a_open, a_openAt, a_power, fi_m T) xa xi xj xk := by
  unfold wpY_fraction
  refine yc_factors pl9 (nm_e (br_t (by decide) (h _ _ _ _ _ (ya_pl_r g)))) (fun a p m g1 pw ha hp ex ey hm fr nz ok => ?_)
  have hp1 : p = 1 := ((nI_eq (a := p) (b := 1) (by omega) (by omega)).mp ey.symm)
  subst hp1
  subst ex
  have e53 : (53 : Int32) + 2 * nI a = nI (53 + 2 * a) := by rw [fi_2]; exact nI_add 53 (2 * a)
  have e5 : 52 + 2 * a + 1 = 53 + 2 * a := by omega
  rw [e5] at nz ok
  have p1 : ya_pl g g1 := ya_pl_fr fr
  refine nm_r e53 (br_f (nI_pos (by omega)) ?_)
  by_cases c0 : xk < 0
  · exact br_t c0 (h _ _ _ _ _ p1)
  refine br_f c0 ?_
  by_cases c8 : 8 < xk
  · exact br_t c8 (h _ _ _ _ _ p1)
  refine br_f c8 ?_
  by_cases cm : xi < (-1)
  · exact br_t cm (h _ _ _ _ _ p1)
  refine br_f cm ?_
  by_cases cr : nI m ≤ xi
  · exact br_t cr (h _ _ _ _ _ p1)
  refine br_f cr ?_
  obtain ⟨kk, hkk, rfl⟩ := nI_of c0
  have hk8 : kk ≤ 8 := (nI_leI (b := 8) hkk (by decide)).mp (Int32.not_lt.mp c8)
  obtain ⟨N, r, D, n, hA, S, hr⟩ : ∃ (N : Nat) (r : PF) (D n : Nat → Nat), pf_hd (fi_s g (53 + 2 * a)) N ∧ ys_sp g1 (fi_s g (53 + 2 * a)) r m pw D n ∧ pf_hd r 0 := by
    rcases ok with ⟨z, _⟩ | t
    · exact absurd z nz
    · exact t
  have eA1 : fi_s g1 (53 + 2 * a) = fi_s g (53 + 2 * a) := fr _ (by omega)
  have hN8 : N ≤ 8 := by
    have := pf_hd_lt hA (pl9 _ (by omega) (by omega))
    omega
  have eN : pf_ns n D m = N := by
    obtain ⟨e, he, h1⟩ := pf_Sp_deg S.1 hA (pf_hd_fin hr)
    have := pf_hd_u he hr
    omega
  have e1 : nI (53 + 2 * a) - 1 = nI (52 + 2 * a) := by
    have : 53 + 2 * a = (52 + 2 * a) + 1 := by omega
    rw [this]; exact nI_pred _
  have f71 : (xi < 0 ∨ ∃ ii j1, ii < m ∧ xi = nI ii ∧ j1 < n ii ∧ xj = nI (j1 + 1)) → wY_fraction_71 post xi xj (nI kk) (nI m) (nI (53 + 2 * a)) (-1) 0 f_count f_place f_opens f_top f_fault f_faultAt f_dry (nI m) (fi_m g1) a_there a_kind a_num a_open a_openAt (pw) (fi_m T) := by
    intro hc
    unfold wY_fraction_71
    refine yc_divide (52 + 2 * a) (53 + 2 * a) 82 83 (d := N) (by omega) (by omega) (by omega) (by omega) (by omega) (by omega) (by omega) (by rw [eA1]; exact hA) (fun Q R _ lR _ => ?_) e1
    have p2 : ya_pl g (fi_p (fi_p g1 83 R) 82 Q) := fun s h1 h2 => by rw [fi_sq (by omega), fi_sq (by omega)]; exact p1 s h1 h2
    rcases hc with c | ⟨ii, j1, hii, exi, hj1, exj⟩
    · refine br_f (by rw [Int32.not_le]; exact c) ⟨pk_in (1640 + kk) 1800 (by omega) (nI_add 1640 kk), h _ _ _ _ _ p2⟩
    · subst exi exj
      have hF : pf_hd (fi_s (fi_p (fi_p g1 83 R) 82 Q) (72 + ii)) (D ii) := by
        rw [fi_sq (by omega), fi_sq (by omega)]; exact (S.1.1 ii hii).1
      refine br_t (nI_pos' (by omega)) (yc_deg (72 + ii) (by omega) (fun z => absurd z (pf_hd_n0 hF)) (fun d hd hd2 => ?_) (fi_72 ii))
      obtain rfl := pf_hd_u hd2 hF
      by_cases ck : kk < D ii
      · refine br_t (nI_lt ck (by omega)) ⟨m + 1, ?_⟩
        have eg : ∀ s, s ≠ 82 → s ≠ 83 → fi_s (fi_p (fi_p g1 83 R) 82 Q) s = fi_s g1 s := fun s h1 h2 => by rw [fi_sq h1, fi_sq h2]
        have S2 : ys_sp (fi_p (fi_p g1 83 R) 82 Q) (fi_s g (53 + 2 * a)) r m pw D n := ys_sp_eq S (fun i hi => eg _ (by omega) (by omega))
        obtain ⟨q, q0, qs, qh, qc⟩ := pf_chain S2.1 hA
        have t := yc_frac119 (post := post) (g0 := fi_p (fi_p g1 83 R) 82 Q) (a_power := pw) (f_found := nI m) (f_count := f_count) (f_place := f_place) (f_opens := f_opens) (f_top := f_top) (f_fault := f_fault) (f_faultAt := f_faultAt) (f_dry := f_dry) (a_there := a_there) (a_kind := a_kind) (a_num := a_num) (a_open := a_open) (a_openAt := a_openAt) (a := a) (q := q) ha hm hN8 eN (by rw [eg _ (by omega) (by omega), eA1]) S2.1 S2.2.1 q0 qs qh qc hii hj1 ck (by rw [fi_sq (by omega), fi_sp (pf_ln_mono lR (by omega))]; exact lR) (fun x g' T' fr' _ => h _ g' T' _ _ (fun s h1 h2 => by rw [fr' s (by omega) (by omega) (by omega)]; exact p2 s h1 h2)) m 0 (-1) _ T (by omega) (fun _ _ _ _ => rfl) (fun i' b' k _ _ ho => by omega) (fun ho => by omega)
        exact t
      · exact br_f (nI_nlt (by omega) (by omega)) (h _ _ _ _ _ p2)
  by_cases ci : xi < 0
  · exact br_t ci (f71 (Or.inl ci))
  · refine br_f ci ?_
    obtain ⟨ii, hii, rfl⟩ := nI_of ci
    have hiim : ii < m := by
      by_cases c : ii < m
      · exact c
      · exact absurd (nI_le (by omega) hii) cr
    by_cases cj : xj < 1
    · exact br_t cj (h _ _ _ _ _ p1)
    · refine br_f cj ⟨vp_in_nI (by omega) (by omega), ?_⟩
      rw [nI_clamp (by omega), S.2.1 ii hiim]
      have hn8 : n ii ≤ 8 := by
        have hDii := (S.1.1 ii hiim).2.1
        have h1 := pf_ns_mono n D (i := ii + 1) (j := m) hiim
        have h2 : pf_ns n D (ii + 1) = pf_ns n D ii + n ii * D ii := rfl
        have := Nat.le_mul_of_pos_right (n ii) (show 0 < D ii by omega)
        omega
      have cj0 : ¬ xj < 0 := fun z => cj (Int32.lt_of_lt_of_le z (by decide))
      obtain ⟨jj, hjj, rfl⟩ := nI_of cj0
      have hj1 : 1 ≤ jj := by
        by_cases c : 1 ≤ jj
        · exact c
        · exact absurd (nI_lt (b := 1) (by omega) (by decide)) cj
      by_cases cl : jj ≤ n ii
      · refine br_t (nI_le cl (by omega)) (f71 (Or.inr ⟨ii, jj - 1, hiim, rfl, by omega, ?_⟩))
        congr 1; omega
      · exact br_f (nI_ge (by omega) hjj) (h _ _ _ _ _ p1)
end
