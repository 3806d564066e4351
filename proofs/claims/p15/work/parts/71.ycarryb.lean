/-! The reference's carry gives the step relation -/
def ys_rep (g : Nat → Fin 5) : List (PF × PF) → Prop
  | [] => True
  | w :: t => ys_h g t.length w ∧ pr_ok w ∧ ys_rep g t
theorem ys_rep_o {g g' : Nat → Fin 5} : ∀ (L : List (PF × PF)) (n : Nat), L.length ≤ n → (∀ s, s < 2 * n → fi_s g' s = fi_s g s) → ys_rep g L → ys_rep g' L := by
  intro L
  induction L with
  | nil => intro n _ _ _; trivial
  | cons w t ih =>
    intro n hn e h
    have hn' : t.length + 1 ≤ n := hn
    exact ⟨⟨by rw [e _ (by omega)]; exact h.1.1, by rw [e _ (by omega)]; exact h.1.2⟩, h.2.1, ih n (by omega) e h.2.2⟩
theorem pr_lim_self {w : PF × PF} {L : List (PF × PF)} (h : pr_ok w) : pr_lim w.1 w.2 L 0 (w :: L) := ⟨w, pr_ok_red h, Or.inl ⟨h.1, h.2.1, rfl, rfl⟩⟩
theorem pr_ok_neg {w : PF × PF} (h : pr_ok w) : pr_ok (pf_mul (pf_c 4) w.1, w.2) := by
  refine ⟨pf_c_ml _ h.1, h.2.1, h.2.2.1, ?_⟩
  obtain ⟨u, v, hu, hv, e⟩ := h.2.2.2
  refine ⟨pf_mul u (pf_c 4), v, pf_fin_mul hu (pf_fin_c _), hv, ?_⟩
  have e3 : pf_mul (pf_c 4) (pf_c 4) = pf_c 1 := by rw [pf_c_mul]; rfl
  show pf_add (pf_mul (pf_mul u (pf_c 4)) (pf_mul (pf_c 4) w.1)) (pf_mul v w.2) = pf_c 1
  generalize pf_c 4 = x at e3
  letI := pf_ring
  have e1 : u * w.1 + v * w.2 = 1 := e
  have e2 : x * x = 1 := e3
  show (u * x) * (x * w.1) + v * w.2 = 1
  grind
section
variable {f_count f_place f_opens f_top f_fault f_faultAt f_dry f_found : Int32} {a_c a_there a_kind a_num a_open a_openAt a_power a_table : Nat → Int32}
/-- behind an operator's own work: the size is looked at -/
theorem yb_191 {post : SY → Prop} {g : Nat → Fin 5} {x1 xat : Int32} {P0 Q0 : PF} {T : List (PF × PF)} (hx : ¬ x1 = 12) (hT : 2 * T.length + 1 < 90) (rd : pr_red P0 Q0 (fi_s g (2 * T.length)) (fi_s g (2 * T.length + 1))) (hr : ys_rep g T)
    (h : ∀ (code : Nat) (L' : List (PF × PF)) (fa : Int32), code ≤ 4 → pr_lim P0 Q0 T code L' → (code = 0 → ys_rep g L') → (code ≠ 0 → fa = xat) → post (f_count, f_place, f_opens, f_top, nI code, fa, f_dry, f_found, fi_m g, a_there, a_kind, a_num, a_open, a_openAt, a_power, a_table)) : wY_carry_191 post x1 xat (nI T.length) f_count f_place f_opens f_top (0) f_faultAt f_dry f_found (fi_m g) a_there a_kind a_num a_open a_openAt a_power a_table := by
  refine br_f hx (br_t rfl ?_)
  refine yc_large T.length hT (fun l1 l2 => ?_) (fun l => ?_)
  · exact h 0 ((fi_s g (2 * T.length), fi_s g (2 * T.length + 1)) :: T) f_faultAt (by omega) ⟨(fi_s g (2 * T.length), fi_s g (2 * T.length + 1)), rd, Or.inl ⟨l1, l2, rfl, rfl⟩⟩ (fun _ => ⟨⟨rfl, rfl⟩, pr_red_ok (w := (fi_s g (2 * T.length), fi_s g (2 * T.length + 1))) rd l1 l2, hr⟩) (fun z => absurd rfl z)
  · exact h 4 [] xat (by omega) ⟨(fi_s g (2 * T.length), fi_s g (2 * T.length + 1)), rd, Or.inr ⟨l, rfl⟩⟩ (fun z => absurd z (by decide)) (fun _ => rfl)
theorem yb_carry2 {post : SY → Prop} {g : Nat → Fin 5} {vs : Nat → Option (PF × PF)} {cx : Int32} {a b : PF × PF} {T : List (PF × PF)} (o k : Nat) (ho : o < 30) (hk : a_open o = nI k) (kk : k = 5 ∨ k = 6 ∨ k = 7 ∨ k = 8 ∨ k = 11) (ht : T.length + 2 ≤ 25) (hL : ys_rep g (b :: a :: T))
    (h : ∀ (code : Nat) (L' : List (PF × PF)) (g' : Nat → Fin 5) (m : Int32) (pw : Nat → Int32) (fa : Int32), code ≤ 4 → pr_st vs k cx (b :: a :: T) code L' → (code = 0 → ys_rep g' L') → (code ≠ 0 → fa = a_openAt o) → ya_pl g g' → post (f_count, f_place, nI o, nI (T.length + 1), nI code, fa, 0, m, fi_m g', a_there, a_kind, a_num, a_open, a_openAt, pw, a_table)) :
    wpY_carry post (f_count, f_place, nI (o + 1), nI (T.length + 2), 0, f_faultAt, 0, f_found, fi_m g, a_there, a_kind, a_num, a_open, a_openAt, a_power, a_table) := by
  obtain ⟨hb, ob, ha, oa, hT⟩ := hL
  have hb0 : fi_s g (2 * (T.length + 1)) = b.1 := hb.1
  have hb1 : fi_s g (2 * (T.length + 1) + 1) = b.2 := hb.2
  have ha0 := ha.1
  have ha1 := ha.2
  have bi : ∀ code L', pr_bi k a b T code L' → pr_st vs k cx (b :: a :: T) code L' := fun code L' u => Or.inr (Or.inr ⟨a, b, T, rfl, u⟩)
  have rT : ∀ g' : Nat → Fin 5, (∀ s, s ≠ 2 * T.length → s ≠ 2 * T.length + 1 → s ≠ 2 * (T.length + 1) → s ≠ 2 * (T.length + 1) + 1 → s < 66 → fi_s g' s = fi_s g s) → ys_rep g' T ∧ ya_pl g g' := by
    intro g' fr
    exact ⟨ys_rep_o T T.length (Nat.le_refl _) (fun s hs => fr s (by omega) (by omega) (by omega) (by omega) (by omega)) hT, fun s h1 h2 => fr s (by omega) (by omega) (by omega) (by omega) h2⟩
  unfold wpY_carry
  dsimp only
  refine nm_r (fi_t1 o) ⟨vp_in_nI ho (by omega), ?_⟩
  rw [nI_clamp (by omega)]
  refine nm_r hk ⟨vp_in_nI ho (by omega), nm_e (nm_r (fi_t2 T.length) (nm_r (fi_t1 (T.length + 1)) ?_))⟩
  have k12 : ¬ nI k = 12 := by rcases kk with rfl | rfl | rfl | rfl | rfl <;> decide
  refine br_f k12 (nm_r (fi_t1 (T.length + 1)) ?_)
  unfold wY_carry_61
  refine br_t rfl (br_t rfl (br_f k12 ?_))
  -- a fault, with nothing changed
  have flt : ∀ (code : Nat), code ≠ 0 → code ≤ 4 → pr_bi k a b T code [] → wY_carry_191 post (nI k) (a_openAt o) (nI T.length) f_count f_place (nI o) (nI (T.length + 1)) (nI code) (a_openAt o) (0) f_found (fi_m g) a_there a_kind a_num a_open a_openAt a_power a_table := by
    intro code hc0 hc4 hbi
    exact br_f k12 (br_f (nI_ne0 (by omega) (by omega)) (h code [] g _ _ _ hc4 (bi _ _ hbi) (fun z => absurd z hc0) (fun _ => rfl) (ya_pl_r g)))
  have lim : ∀ (P0 Q0 : PF) (g' : Nat → Fin 5) (m : Int32) (pw : Nat → Int32) (fa : Int32), (∀ s, s ≠ 2 * T.length → s ≠ 2 * T.length + 1 → s ≠ 2 * (T.length + 1) → s ≠ 2 * (T.length + 1) + 1 → s < 66 → fi_s g' s = fi_s g s) → pr_red P0 Q0 (fi_s g' (2 * T.length)) (fi_s g' (2 * T.length + 1)) → (∀ code L', pr_lim P0 Q0 T code L' → pr_bi k a b T code L') →
      wY_carry_191 post (nI k) (a_openAt o) (nI T.length) f_count f_place (nI o) (nI (T.length + 1)) (0) (fa) (0) (m) (fi_m g') a_there a_kind a_num a_open a_openAt (pw) a_table := by
    intro P0 Q0 g' m pw fa fr rd tobi
    obtain ⟨r1, r2⟩ := rT g' fr
    exact yb_191 k12 (by omega) rd r1 (fun code L' fa' hc hl hr hf => h code L' g' m pw fa' hc (bi _ _ (tobi _ _ hl)) hr hf r2)
  rcases kk with rfl | rfl | rfl | rfl | rfl
  · refine br_t rfl ?_
    refine yc_sum T.length (T.length + 1) 1 (by omega) (by omega) (by omega) (fun a b => by rw [fi_m1]; grind) (by rw [ha0]; exact oa.1) (by rw [ha1]; exact oa.2.1) (by rw [hb0]; exact ob.1) (by rw [hb1]; exact ob.2.1) (fun g' m pw fr tk => ?_)
    rw [ha0, ha1, hb0, hb1] at tk
    exact lim _ _ g' _ pw _ (fun s h1 h2 _ _ h5 => fr s h1 h2 (by omega)) (pr_tk2 oa ob ⟨_, fi_s_ln _ _⟩ tk) (fun code L' hl => Or.inl ⟨rfl, hl⟩)
  · refine br_f (by decide) (br_t rfl ?_)
    refine yc_sum T.length (T.length + 1) (-1) (by omega) (by omega) (by omega) (fun a b => by rw [fi_mn]; grind) (by rw [ha0]; exact oa.1) (by rw [ha1]; exact oa.2.1) (by rw [hb0]; exact ob.1) (by rw [hb1]; exact ob.2.1) (fun g' m pw fr tk => ?_)
    rw [ha0, ha1, hb0, hb1] at tk
    exact lim _ _ g' _ pw _ (fun s h1 h2 _ _ h5 => fr s h1 h2 (by omega)) (pr_tk2 oa ob ⟨_, fi_s_ln _ _⟩ tk) (fun code L' hl => Or.inr (Or.inl ⟨rfl, hl⟩))
  · refine br_f (by decide) (br_f (by decide) (br_t rfl ?_))
    refine yc_times T.length (T.length + 1) (by omega) (by omega) (by omega) (by rw [ha0]; exact oa.1) (by rw [ha1]; exact oa.2.1) (by rw [hb0]; exact ob.1) (by rw [hb1]; exact ob.2.1) (fun g' m pw fr tk => ?_)
    rw [ha0, ha1, hb0, hb1] at tk
    exact lim _ _ g' _ pw _ (fun s h1 h2 _ _ h5 => fr s h1 h2 (by omega)) (pr_tk2 oa ob ⟨_, fi_s_ln _ _⟩ tk) (fun code L' hl => Or.inr (Or.inr (Or.inl ⟨rfl, hl⟩)))
  · refine br_f (by decide) (br_f (by decide) (br_f (by decide) (br_f (by decide) ?_)))
    refine yc_isZero (T.length + 1) (by omega) (fun nz => ?_) (fun z => ?_)
    · rw [hb0] at nz
      refine br_t rfl ?_
      refine yc_flip (T.length + 1) (by omega) (fun g1 fr1 hf => ?_)
      rw [hb0, hb1] at hf
      rcases hf with ⟨z, _, _⟩ | ⟨_, c, hc, e0, e1⟩
      · exact absurd z (pr_ok_n ob)
      · rcases pf_fin_hd (pr_ok_f1 ob) with z | ⟨d, hd⟩
        · exact absurd z nz
        · obtain ⟨cz, ow⟩ := pr_ok_flip ob hd (hc d hd)
          have a0' : fi_s g1 (2 * T.length) = a.1 := by rw [fr1 _ (by omega) (by omega) (by omega)]; exact ha0
          have a1' : fi_s g1 (2 * T.length + 1) = a.2 := by rw [fr1 _ (by omega) (by omega) (by omega)]; exact ha1
          refine yc_times T.length (T.length + 1) (by omega) (by omega) (by omega) (by rw [a0']; exact oa.1) (by rw [a1']; exact oa.2.1) (by rw [e0]; exact ow.1) (by rw [e1]; exact ow.2.1) (fun g' m pw fr tk => ?_)
          rw [a0', a1', e0, e1] at tk
          have rd := pr_tk2 (a := a) (b := (pf_mul (pf_c c) b.2, pf_mul (pf_c c) b.1)) oa ow ⟨_, fi_s_ln _ _⟩ tk
          exact lim _ _ g' _ pw _ (fun s h1 h2 h3 h4 h5 => by rw [fr s h1 h2 (by omega)]; exact fr1 s h3 h4 (by omega)) (pr_red_c cz rd) (fun code L' hl => Or.inr (Or.inr (Or.inr (Or.inl ⟨rfl, Or.inr ⟨nz, hl⟩⟩))))
    · rw [hb0] at z
      refine br_f (by decide) (br_t rfl ?_)
      exact flt 3 (by decide) (by omega) (Or.inr (Or.inr (Or.inr (Or.inl ⟨rfl, Or.inl ⟨z, rfl⟩⟩))))
  · obtain ⟨m, hm8, sm⟩ := pr_sz_ex oa
    obtain ⟨z, hz8, sz⟩ := pr_sz_ex ob
    have b11 : ∀ code L', (((z = 0 ∧ pf_hn a.2 (b.1 0) 16 17 = 0) ∧ code = 3) ∨ (¬ (z = 0 ∧ pf_hn a.2 (b.1 0) 16 17 = 0) ∧ ((8 < m * z ∧ code = 4) ∨ (m * z ≤ 8 ∧ pr_lim (pr_put a.1 b.1 b.2 m) (pr_put a.2 b.1 b.2 m) T code L')))) → pr_bi 11 a b T code L' := fun code L' u => Or.inr (Or.inr (Or.inr (Or.inr ⟨rfl, m, z, sm, sz, u⟩)))
    refine br_f (by decide) (br_f (by decide) (br_f (by decide) (br_t rfl ?_)))
    refine yb_inPlace T.length (T.length + 1) (by omega) (by omega) (by omega) ha hb oa ob sm sz (fun z0 hv => ?_) (fun no big => ?_) (fun no h8 g' mm pw fr rd => ?_)
    · exact flt 3 (by decide) (by omega) (b11 _ _ (Or.inl ⟨⟨z0, hv⟩, rfl⟩))
    · exact flt 4 (by decide) (by omega) (b11 _ _ (Or.inr ⟨no, Or.inl ⟨big, rfl⟩⟩))
    · exact lim _ _ g' _ pw _ (fun s h1 h2 _ _ h5 => fr s h1 h2 h5) rd (fun code L' hl => b11 _ _ (Or.inr ⟨no, Or.inr ⟨h8, hl⟩⟩))
theorem yb_carry1 {post : SY → Prop} {g : Nat → Fin 5} {vs : Nat → Option (PF × PF)} {cx : Int32} {a : PF × PF} {T : List (PF × PF)} (o : Nat) (ho : o < 30) (hk : a_open o = nI 12) (ht : T.length + 1 ≤ 25) (hL : ys_rep g (a :: T))
    (h : ∀ (L' : List (PF × PF)) (g' : Nat → Fin 5), pr_st vs 12 cx (a :: T) 0 L' → ys_rep g' L' → ya_pl g g' → post (f_count, f_place, nI o, nI (T.length + 1), 0, f_faultAt, 0, f_found, fi_m g', a_there, a_kind, a_num, a_open, a_openAt, a_power, a_table)) :
    wpY_carry post (f_count, f_place, nI (o + 1), nI (T.length + 1), 0, f_faultAt, 0, f_found, fi_m g, a_there, a_kind, a_num, a_open, a_openAt, a_power, a_table) := by
  obtain ⟨ha, oa, hT⟩ := hL
  unfold wpY_carry
  dsimp only
  refine nm_r (fi_t1 o) ⟨vp_in_nI ho (by omega), ?_⟩
  rw [nI_clamp (by omega)]
  refine nm_r hk ⟨vp_in_nI ho (by omega), nm_e (nm_e (nm_r (fi_t1 T.length) ?_))⟩
  refine br_t rfl ?_
  unfold wY_carry_61
  refine br_t rfl (br_t rfl (br_t rfl ?_))
  refine yc_scale (2 * T.length) 4 (by omega) ?_ (fi_2 _) (by decide)
  have on := pr_ok_neg oa
  have e0 : fi_s (fi_p g (2 * T.length) (fun k => fi_s g (2 * T.length) k * 4)) (2 * T.length) = pf_mul (pf_c 4) a.1 := by
    rw [pf_sc, fi_sp (pf_c_ml _ (fi_s_ln _ _)), ha.1]
  refine br_t rfl (h ((pf_mul (pf_c 4) a.1, a.2) :: T) _ (Or.inr (Or.inl ⟨a, T, rfl, Or.inl ⟨rfl, pr_lim_self on⟩⟩)) ⟨⟨e0, ?_⟩, on, ?_⟩ (fun s h1 h2 => fi_sq (by omega)))
  · rw [fi_sq (by omega)]; exact ha.2
  · exact ys_rep_o T T.length (Nat.le_refl _) (fun s hs => fi_sq (by omega)) hT
end
