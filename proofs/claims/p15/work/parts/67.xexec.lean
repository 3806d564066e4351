/-! The class's steps give the step relation -/
def xs_pair (cl : Nat → Int32) (s : Nat) (w : PF × PF) : Prop := (∀ k, k < 9 → cl ((s * 2 + 0) * 9 + k) = fi_I (w.1 k)) ∧ (∀ k, k < 9 → cl ((s * 2 + 1) * 9 + k) = fi_I (w.2 k))
def xs_rep (cl : Nat → Int32) : List (PF × PF) → Prop
  | [] => True
  | w :: t => xs_pair cl (7 + t.length) w ∧ pr_ok w ∧ xs_rep cl t
def xs_vs (cl pres : Nat → Int32) (vs : Nat → Option (PF × PF)) : Prop := ∀ n, n < 6 → (vs n = none ∧ pres n = 0) ∨ ∃ w, vs n = some w ∧ pres n ≠ 0 ∧ xs_pair cl n w ∧ pr_ok w
theorem xs_pair_o {cl cl' : Nat → Int32} {s s' : Nat} {w : PF × PF} (h : xs_pair cl s w) (hs : s ≠ s') (e : ∀ i, i < s' * 18 ∨ s' * 18 + 18 ≤ i → cl' i = cl i) : xs_pair cl' s w :=
  ⟨fun k hk => by rw [e _ (by omega)]; exact h.1 k hk, fun k hk => by rw [e _ (by omega)]; exact h.2 k hk⟩
theorem xs_rep_o {cl cl' : Nat → Int32} {s' : Nat} (e : ∀ i, i < s' * 18 ∨ s' * 18 + 18 ≤ i → cl' i = cl i) : ∀ L : List (PF × PF), xs_rep cl L → 7 + L.length ≤ s' → xs_rep cl' L := by
  intro L
  induction L with
  | nil => intro _ _; trivial
  | cons w t ih =>
    intro h hl
    have hl' : 7 + (t.length + 1) ≤ s' := hl
    exact ⟨xs_pair_o h.1 (by omega) e, h.2.1, ih h.2.2 (by omega)⟩
theorem xs_vs_o {cl cl' pres : Nat → Int32} {vs : Nat → Option (PF × PF)} {s' : Nat} (e : ∀ i, i < s' * 18 ∨ s' * 18 + 18 ≤ i → cl' i = cl i) (h : xs_vs cl pres vs) (hs : 6 ≤ s') : xs_vs cl' pres vs := by
  intro n hn
  rcases h n hn with a | ⟨w, a, b, c, d⟩
  · exact Or.inl a
  · exact Or.inr ⟨w, a, b, xs_pair_o c (by omega) e, d⟩
/-- what work leaves: a fault, or a quotient that is still to be reduced -/
def pr_wk (vs : Nat → Option (PF × PF)) (k : Nat) (c : Int32) (L T : List (PF × PF)) (code : Nat) (P0 Q0 : PF) : Prop :=
  ∀ (code' : Nat) (L' : List (PF × PF)), (code ≠ 0 → pr_st vs k c L code L') ∧ (code = 0 → pr_lim P0 Q0 T code' L' → pr_st vs k c L code' L')
def pr_big (P0 Q0 : PF) : Prop := pf_ln P0 17 ∧ pf_ln Q0 17 ∧ ∃ e, pf_hd Q0 e
theorem pr_17 {a b : PF} (ha : pf_ln a 9) (hb : pf_ln b 9) : pf_ln (pf_mul a b) 17 := pf_mul_ln (a := 8) (b := 8) ha hb
theorem pr_hd2 {a b : PF × PF} (oa : pr_ok a) (ob : pr_ok b) : ∃ e, pf_hd (pf_mul a.2 b.2) e := by
  obtain ⟨x, hx, _⟩ := oa.2.2.1
  obtain ⟨y, hy, _⟩ := ob.2.2.1
  exact ⟨_, pf_mul_hd hx hy⟩
theorem pr_dr9 {a : PF} (h : pf_ln a 9) : pf_ln (pf_dr a) 9 := fun k hk => by
  show Fin.ofNat 5 (k + 1) * a (k + 1) = 0
  rw [h (k + 1) (by omega)]; grind
section
variable {f_tokenCount f_latestPlace f_stepCount f_waitingCount f_stackCount f_factorCount : Int32} {a_tokenKind a_tokenContent a_stepKind a_stepToken a_waitingKind a_waitingToken a_present a_cells a_leftTop a_leftBottom a_rightTop a_rightBottom a_top a_bottom a_product a_quotient a_common a_spare a_rest a_divisor a_inverse a_numerator a_factorDegrees a_factorPowers a_factorCells : Nat → Int32}
theorem xb_loadPair1 {post : SX → Prop} {x : Int32} {a : PF × PF} (s : Nat) (hs : s < 31) (hp : xs_pair a_cells s a) (oa : pr_ok a) (h : ∀ a_leftTop a_leftBottom : Nat → Int32, xv a_leftTop a.1 → xv a_leftBottom a.2 → post (f_tokenCount, f_latestPlace, f_stepCount, f_waitingCount, f_stackCount, f_factorCount, a_tokenKind, a_tokenContent, a_stepKind, a_stepToken, a_waitingKind, a_waitingToken, a_present, a_cells, a_leftTop, a_leftBottom, a_rightTop, a_rightBottom, a_top, a_bottom, a_product, a_quotient, a_common, a_spare, a_rest, a_divisor, a_inverse, a_numerator, a_factorDegrees, a_factorPowers, a_factorCells)) (ex : x = nI s) : wpX_load__leftTop (fun u => wpX_load__leftBottom post u x 1) (f_tokenCount, f_latestPlace, f_stepCount, f_waitingCount, f_stackCount, f_factorCount, a_tokenKind, a_tokenContent, a_stepKind, a_stepToken, a_waitingKind, a_waitingToken, a_present, a_cells, a_leftTop, a_leftBottom, a_rightTop, a_rightBottom, a_top, a_bottom, a_product, a_quotient, a_common, a_spare, a_rest, a_divisor, a_inverse, a_numerator, a_factorDegrees, a_factorPowers, a_factorCells) x 0 := by
  subst ex
  exact xf_load__leftTop s 0 hs (by omega) hp.1 oa.1 (fun a_leftTop t1 => xf_load__leftBottom s 1 hs (by omega) hp.2 oa.2.1 (fun a_leftBottom t2 => h _ _ t1 t2))
theorem xb_workA {post : Int32 → SX → Prop} {vs : Nat → Option (PF × PF)} {L : List (PF × PF)} {x : Int32} {c : Int32} (k : Nat) (hk : k ≤ 2) (hv : k = 2 → ∃ n, n < 6 ∧ c = nI n) (hvs : xs_vs a_cells a_present vs) (hb : xw_b a_present)
    (h : ∀ (code : Nat) (P0 Q0 : PF), code ≤ 4 → pr_wk vs k c L L code P0 Q0 → (code = 0 → pr_big P0 Q0) → ∀ a_leftTop a_leftBottom a_rightTop a_rightBottom a_top a_bottom a_product a_quotient a_common a_spare a_rest a_divisor a_inverse a_numerator : Nat → Int32, (code = 0 → xv a_top P0 ∧ xv a_bottom Q0) → post (nI code) (f_tokenCount, f_latestPlace, f_stepCount, f_waitingCount, f_stackCount, f_factorCount, a_tokenKind, a_tokenContent, a_stepKind, a_stepToken, a_waitingKind, a_waitingToken, a_present, a_cells, a_leftTop, a_leftBottom, a_rightTop, a_rightBottom, a_top, a_bottom, a_product, a_quotient, a_common, a_spare, a_rest, a_divisor, a_inverse, a_numerator, a_factorDegrees, a_factorPowers, a_factorCells)) (ex : x = nI k := by rfl) : wpX_work post (f_tokenCount, f_latestPlace, f_stepCount, f_waitingCount, f_stackCount, f_factorCount, a_tokenKind, a_tokenContent, a_stepKind, a_stepToken, a_waitingKind, a_waitingToken, a_present, a_cells, a_leftTop, a_leftBottom, a_rightTop, a_rightBottom, a_top, a_bottom, a_product, a_quotient, a_common, a_spare, a_rest, a_divisor, a_inverse, a_numerator, a_factorDegrees, a_factorPowers, a_factorCells) x c := by
  subst ex
  have one : ∃ e, pf_hd (pf_c 1) e := ⟨0, pf_hd_c (by decide)⟩
  have l1 : pf_ln (pf_c 1) 17 := pf_ln_mono (pf_c_ln 1) (by omega)
  have ne : ∀ q, q < 2 ^ 31 → k ≠ q → ¬ nI k = nI q := fun q hq n z => n ((nI_eq (by omega) hq).mp z)
  unfold wpX_work
  refine br_f (nI_pos (by omega)) (br_f (nI_nlt (a := 11) (by omega) (by decide)) ?_)
  by_cases c0 : k = 0
  · refine br_t (by rw [c0]; rfl) (xg_takeNumber (fun a_leftTop a_leftBottom a_rightTop a_rightBottom a_top a_bottom a_product a_quotient a_common a_spare a_rest a_divisor a_inverse a_numerator t1 t2 => h 0 (pf_c (fi_z c)) (pf_c 1) (by omega) (fun code' L' => ⟨fun z => absurd rfl z, fun _ hl => Or.inl (Or.inl ⟨c0, hl⟩)⟩) (fun _ => ⟨pf_ln_mono (pf_c_ln _) (by omega), l1, one⟩) _ _ _ _ _ _ _ _ _ _ _ _ _ _ (fun _ => ⟨t1, t2⟩)))
  · refine br_f (ne 0 (by decide) c0) ?_
    by_cases c1 : k = 1
    · refine br_t (by rw [c1]; rfl) (xg_takeX (fun a_leftTop a_leftBottom a_rightTop a_rightBottom a_top a_bottom a_product a_quotient a_common a_spare a_rest a_divisor a_inverse a_numerator t1 t2 => h 0 (pf_mn 1 1) (pf_c 1) (by omega) (fun code' L' => ⟨fun z => absurd rfl z, fun _ hl => Or.inl (Or.inr (Or.inl ⟨c1, hl⟩))⟩) (fun _ => ⟨pf_ln_mono (pf_mn_ln _ _) (by omega), l1, one⟩) _ _ _ _ _ _ _ _ _ _ _ _ _ _ (fun _ => ⟨t1, t2⟩)))
    · have c2 : k = 2 := by omega
      refine br_f (ne 1 (by decide) c1) (br_t (by rw [c2]; rfl) ?_)
      obtain ⟨n, hn, en⟩ := hv c2
      subst en
      unfold wpX_takeVariable wpX_hasPart
      refine br_f (nI_pos (by omega)) (br_f (nI_ge (b := 7) (by omega) (by decide)) (br_t rfl ⟨vp_in_nI (by omega) (by omega), ?_⟩))
      rw [nI_clamp (by omega)]
      rcases hvs n hn with ⟨a, b⟩ | ⟨w, a, b, d, e⟩
      · refine br_t b (br_t rfl (h 2 (pf_c 0) (pf_c 0) (by omega) (fun code' L' => ⟨fun _ => Or.inl (Or.inr (Or.inr ⟨c2, n, hn, rfl, Or.inl ⟨a, rfl⟩⟩)), fun z => absurd z (by decide)⟩) (fun z => absurd z (by decide)) _ _ _ _ _ _ _ _ _ _ _ _ _ _ (fun z => absurd z (by decide))))
      · obtain ⟨bb, hbb, _⟩ := e.2.2.1
        refine br_f b (br_f (by decide) (xf_load__top n 0 (by omega) (by omega) d.1 e.1 (fun a_top t1 => xf_load__bottom n 1 (by omega) (by omega) d.2 e.2.1 (fun a_bottom t2 => h 0 w.1 w.2 (by omega) (fun code' L' => ⟨fun z => absurd rfl z, fun _ hl => Or.inl (Or.inr (Or.inr ⟨c2, n, hn, rfl, Or.inr ⟨w, a, hl⟩⟩))⟩) (fun _ => ⟨pf_ln_mono e.1 (by omega), pf_ln_mono e.2.1 (by omega), ⟨bb, hbb⟩⟩) _ _ _ _ _ _ _ _ _ _ _ _ _ _ (fun _ => ⟨t1, t2⟩)))))
theorem xb_workU {post : Int32 → SX → Prop} {vs : Nat → Option (PF × PF)} {T : List (PF × PF)} {x c : Int32} {a : PF × PF} (k : Nat) (hk : k = 12 ∨ k = 10 ∨ k = 9) (hq : k = 9 → ∃ q, q ≤ 8 ∧ (c = nI q ∨ (c = -nI q ∧ 1 ≤ q))) (oa : pr_ok a) (h1 : xv a_leftTop a.1) (h2 : xv a_leftBottom a.2)
    (h : ∀ (code : Nat) (P0 Q0 : PF), code ≤ 4 → pr_wk vs k c (a :: T) T code P0 Q0 → (code = 0 → pr_big P0 Q0) → ∀ a_leftTop a_leftBottom a_rightTop a_rightBottom a_top a_bottom a_product a_quotient a_common a_spare a_rest a_divisor a_inverse a_numerator : Nat → Int32, (code = 0 → xv a_top P0 ∧ xv a_bottom Q0) → post (nI code) (f_tokenCount, f_latestPlace, f_stepCount, f_waitingCount, f_stackCount, f_factorCount, a_tokenKind, a_tokenContent, a_stepKind, a_stepToken, a_waitingKind, a_waitingToken, a_present, a_cells, a_leftTop, a_leftBottom, a_rightTop, a_rightBottom, a_top, a_bottom, a_product, a_quotient, a_common, a_spare, a_rest, a_divisor, a_inverse, a_numerator, a_factorDegrees, a_factorPowers, a_factorCells)) (ex : x = nI k := by rfl) : wpX_work post (f_tokenCount, f_latestPlace, f_stepCount, f_waitingCount, f_stackCount, f_factorCount, a_tokenKind, a_tokenContent, a_stepKind, a_stepToken, a_waitingKind, a_waitingToken, a_present, a_cells, a_leftTop, a_leftBottom, a_rightTop, a_rightBottom, a_top, a_bottom, a_product, a_quotient, a_common, a_spare, a_rest, a_divisor, a_inverse, a_numerator, a_factorDegrees, a_factorPowers, a_factorCells) x c := by
  subst ex
  obtain ⟨bb, hbb, _⟩ := oa.2.2.1
  have un : ∀ code L', pr_un k c a T code L' → pr_st vs k c (a :: T) code L' := fun code L' u => Or.inr (Or.inl ⟨a, T, rfl, u⟩)
  unfold wpX_work
  rcases hk with e | e | e
  · subst e
    refine br_f (by decide) (br_t (by decide) ?_)
    unfold wX_work_119
    exact xg_negate h1 h2 (fun a_leftTop a_leftBottom a_rightTop a_rightBottom a_top a_bottom a_product a_quotient a_common a_spare a_rest a_divisor a_inverse a_numerator t1 t2 => h 0 _ _ (by omega) (fun code' L' => ⟨fun z => absurd rfl z, fun _ hl => un _ _ (Or.inl ⟨rfl, hl⟩)⟩) (fun _ => ⟨pf_c_ml _ (pf_ln_mono oa.1 (by omega)), pf_ln_mono oa.2.1 (by omega), ⟨bb, hbb⟩⟩) _ _ _ _ _ _ _ _ _ _ _ _ _ _ (fun _ => ⟨t1, t2⟩))
  · subst e
    refine br_f (by decide) (br_f (by decide) (br_f (by decide) (br_f (by decide) (br_f (by decide) (br_f (by decide) (br_f (by decide) (br_f (by decide) (br_f (by decide) (br_f (by decide) (br_f (by decide) (br_f (by decide) (br_t (by decide) ?_))))))))))))
    refine xg_differentiate h1 h2 (pf_ln_mono oa.1 (by omega)) (pf_ln_mono oa.2.1 (by omega)) (fun a_leftTop a_leftBottom a_rightTop a_rightBottom a_top a_bottom a_product a_quotient a_common a_spare a_rest a_divisor a_inverse a_numerator t1 t2 => h 0 _ _ (by omega) (fun code' L' => ⟨fun z => absurd rfl z, fun _ hl => un _ _ (Or.inr (Or.inl ⟨rfl, hl⟩))⟩) (fun _ => ⟨?_, pr_17 oa.2.1 oa.2.1, ⟨_, pf_mul_hd hbb hbb⟩⟩) _ _ _ _ _ _ _ _ _ _ _ _ _ _ (fun _ => ⟨t1, t2⟩))
    exact pf_add_ln (pr_17 (pr_dr9 oa.1) oa.2.1) (pf_c_ml _ (pr_17 oa.1 (pr_dr9 oa.2.1)))
  · subst e
    obtain ⟨q, hq8, hc⟩ := hq rfl
    obtain ⟨m, hm8, sm⟩ := pr_sz_ex oa
    refine br_f (by decide) (br_f (by decide) (br_f (by decide) (br_f (by decide) (br_f (by decide) (br_f (by decide) (br_f (by decide) (br_f (by decide) (br_f (by decide) (br_f (by decide) (br_f (by decide) (br_t (by decide) ?_)))))))))))
    have un9 : ∀ code L', ((c = nI q ∧ ((m * q ≤ 8 ∧ pr_lim (pf_pow a.1 q) (pf_pow a.2 q) T code L') ∨ (8 < m * q ∧ code = 4))) ∨ ((c = -nI q ∧ 1 ≤ q) ∧ ((a.1 = pf_c 0 ∧ code = 3) ∨ (a.1 ≠ pf_c 0 ∧ ((m * q ≤ 8 ∧ pr_lim (pf_pow a.2 q) (pf_pow a.1 q) T code L') ∨ (8 < m * q ∧ code = 4)))))) → pr_st vs 9 c (a :: T) code L' := fun code L' z => un _ _ (Or.inr (Or.inr ⟨rfl, q, m, hq8, sm, z⟩))
    have lpw : ∀ {A : PF}, pf_ln A (m + 1) → m * q ≤ 8 → pf_ln (pf_pow A q) 17 := fun la h8 => pf_ln_mono (pf_pow_ln la q) (by rw [Nat.mul_comm] at h8; omega)
    refine xg_raise (m := m) q hq8 hc h1 h2 (pr_ok_n oa) (by omega) sm (fun e z a_leftTop a_leftBottom a_rightTop a_rightBottom a_top a_bottom a_product a_quotient a_common a_spare a_rest a_divisor a_inverse a_numerator => ?_) (fun no big a_leftTop a_leftBottom a_rightTop a_rightBottom a_top a_bottom a_product a_quotient a_common a_spare a_rest a_divisor a_inverse a_numerator => ?_) (fun e h8 a_leftTop a_leftBottom a_rightTop a_rightBottom a_top a_bottom a_product a_quotient a_common a_spare a_rest a_divisor a_inverse a_numerator t1 t2 => ?_) (fun e nz h8 a_leftTop a_leftBottom a_rightTop a_rightBottom a_top a_bottom a_product a_quotient a_common a_spare a_rest a_divisor a_inverse a_numerator t1 t2 => ?_)
    · exact h 3 (pf_c 0) (pf_c 0) (by omega) (fun code' L' => ⟨fun _ => un9 _ _ (Or.inr ⟨e, Or.inl ⟨z, rfl⟩⟩), fun z => absurd z (by decide)⟩) (fun z => absurd z (by decide)) _ _ _ _ _ _ _ _ _ _ _ _ _ _ (fun z => absurd z (by decide))
    · refine h 4 (pf_c 0) (pf_c 0) (by omega) (fun code' L' => ⟨fun _ => un9 _ _ ?_, fun z => absurd z (by decide)⟩) (fun z => absurd z (by decide)) _ _ _ _ _ _ _ _ _ _ _ _ _ _ (fun z => absurd z (by decide))
      rcases hc with e | e
      · exact Or.inl ⟨e, Or.inr ⟨big, rfl⟩⟩
      · exact Or.inr ⟨e, Or.inr ⟨fun z => no ⟨e, z⟩, Or.inr ⟨big, rfl⟩⟩⟩
    · exact h 0 _ _ (by omega) (fun code' L' => ⟨fun z => absurd rfl z, fun _ hl => un9 _ _ (Or.inl ⟨e, Or.inl ⟨h8, hl⟩⟩)⟩) (fun _ => ⟨lpw sm.1 h8, lpw sm.2.1 h8, ⟨_, pf_pow_hd hbb q⟩⟩) _ _ _ _ _ _ _ _ _ _ _ _ _ _ (fun _ => ⟨t1, t2⟩)
    · obtain ⟨d, hd⟩ : ∃ d, pf_hd a.1 d := by
        rcases pf_fin_hd (pr_ok_f1 oa) with z | z
        · exact absurd z nz
        · exact z
      exact h 0 _ _ (by omega) (fun code' L' => ⟨fun z => absurd rfl z, fun _ hl => un9 _ _ (Or.inr ⟨e, Or.inr ⟨nz, Or.inl ⟨h8, hl⟩⟩⟩)⟩) (fun _ => ⟨lpw sm.2.1 h8, lpw sm.1 h8, ⟨_, pf_pow_hd hd q⟩⟩) _ _ _ _ _ _ _ _ _ _ _ _ _ _ (fun _ => ⟨t1, t2⟩)
end
