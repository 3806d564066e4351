/-! The reference's slope, inPlace, raise: they end, touch no other slot below 66, and leave small slots where there is no fault -/
def ya_fr (v : Nat) (g g' : Nat → Fin 5) : Prop := ∀ s, s ≠ 2 * v → s ≠ 2 * v + 1 → s < 66 → fi_s g' s = fi_s g s
def ya_sm (v : Nat) (g : Nat → Fin 5) : Prop := pf_ln (fi_s g (2 * v)) 9 ∧ pf_ln (fi_s g (2 * v + 1)) 9
section
variable {f_count f_place f_opens f_top f_fault f_faultAt f_dry f_found : Int32} {a_c a_there a_kind a_num a_open a_openAt a_power a_table : Nat → Int32}
theorem yc_slope {post : SY → Prop} {g : Nat → Fin 5} {xv xat : Int32} (v : Nat) (hv : 2 * v + 1 < 52) (sm : ya_sm v g)
    (h : ∀ (g' : Nat → Fin 5) (m : Nat) (pw : Nat → Int32) (ft fa : Int32), ya_fr v g g' →
      ys_tk (pf_add (pf_mul (pf_dr (fi_s g (2 * v))) (fi_s g (2 * v + 1))) (pf_mul (pf_c (-1)) (pf_mul (fi_s g (2 * v)) (pf_dr (fi_s g (2 * v + 1)))))) (pf_mul (fi_s g (2 * v + 1)) (fi_s g (2 * v + 1))) (fi_s g (2 * v + 1)) (fi_s g (2 * v + 1)) (fi_s g' (2 * v)) (fi_s g' (2 * v + 1)) →
      ((ya_sm v g' ∧ ft = 0 ∧ fa = f_faultAt) ∨ (¬ ya_sm v g' ∧ ft = 4 ∧ fa = xat)) → post (f_count, f_place, f_opens, f_top, ft, fa, f_dry, nI m, fi_m g', a_there, a_kind, a_num, a_open, a_openAt, pw, a_table))
    (ev : xv = nI v := by rfl) : wpY_slope post (f_count, f_place, f_opens, f_top, 0, f_faultAt, f_dry, f_found, fi_m g, a_there, a_kind, a_num, a_open, a_openAt, a_power, a_table) xv xat := by
  subst ev
  have l17 : ∀ {a b : PF}, pf_ln a 9 → pf_ln b 9 → pf_ln (pf_mul a b) 20 := fun ha hb => pf_ln_mono (pf_mul_ln (a := 8) (b := 8) ha hb) (by omega)
  have ld : ∀ {a : PF}, pf_ln a 9 → pf_ln (pf_dr a) 9 := fun ha k hk => by
    show Fin.ofNat 5 (k + 1) * _ = 0
    rw [ha (k + 1) (by omega)]; grind
  obtain ⟨lv, lv1⟩ := sm
  unfold wpY_slope
  refine yc_derive (2 * v) 88 (by omega) (by omega) (by omega) ?_ (fi_2 v)
  refine yc_derive (2 * v + 1) 89 (by omega) (by omega) (by omega) ?_ (fi_21 v)
  rw [fi_sq (by omega)]
  refine yc_product 88 (2 * v + 1) 84 (by omega) (by omega) (by omega) (by omega) (by omega) ?_ rfl (fi_21 v)
  rw [fi_sq (by omega), fi_sp (pf_ln_mono (ld lv) (by omega)), fi_sq (by omega), fi_sq (by omega)]
  refine yc_product (2 * v) 89 85 (by omega) (by omega) (by omega) (by omega) (by omega) ?_ (fi_2 v)
  rw [fi_sq (by omega), fi_sq (by omega), fi_sq (by omega), fi_sq (by omega), fi_sp (pf_ln_mono (ld lv1) (by omega))]
  refine yc_add 84 85 (-1) (by omega) (by omega) (by omega) (fun a b => by rw [fi_mn]; grind) ?_
  rw [fi_sq (by omega), fi_sp (l17 (ld lv) lv1), fi_sp (l17 lv (ld lv1))]
  refine yc_copy (2 * v + 1) 87 (by omega) (by omega) ?_ (fi_21 v)
  rw [fi_sq (s := 84) (t := 2 * v + 1) (by omega), fi_sq (s := 85) (t := 2 * v + 1) (by omega), fi_sq (s := 84) (t := 2 * v + 1) (by omega), fi_sq (s := 89) (t := 2 * v + 1) (by omega), fi_sq (s := 88) (t := 2 * v + 1) (by omega)]
  refine yc_product 87 87 86 (by omega) (by omega) (by omega) (by omega) (by omega) ?_
  rw [fi_sp (fi_s_ln _ _)]
  have ea : (fun k => pf_mul (pf_dr (fi_s g (2 * v))) (fi_s g (2 * v + 1)) k + (-1) * pf_mul (fi_s g (2 * v)) (pf_dr (fi_s g (2 * v + 1))) k) = pf_add (pf_mul (pf_dr (fi_s g (2 * v))) (fi_s g (2 * v + 1))) (pf_mul (pf_c (-1)) (pf_mul (fi_s g (2 * v)) (pf_dr (fi_s g (2 * v + 1))))) := by
    rw [pf_mul_cl]; rfl
  have la : pf_ln (pf_add (pf_mul (pf_dr (fi_s g (2 * v))) (fi_s g (2 * v + 1))) (pf_mul (pf_c (-1)) (pf_mul (fi_s g (2 * v)) (pf_dr (fi_s g (2 * v + 1)))))) 20 := pf_add_ln (l17 (ld lv) lv1) (pf_c_ml _ (l17 lv (ld lv1)))
  rw [ea]
  generalize eg : fi_p _ 86 _ = gg
  have o : ∀ s, s < 70 → fi_s gg s = fi_s g s := fun s hs => by
    rw [← eg, fi_sq (by omega), fi_sq (by omega), fi_sq (by omega), fi_sq (by omega), fi_sq (by omega), fi_sq (by omega), fi_sq (by omega)]
  have o87 : fi_s gg 87 = fi_s g (2 * v + 1) := by rw [← eg, fi_sq (by omega), fi_sp (fi_s_ln _ _)]
  have o86 : fi_s gg 86 = pf_mul (fi_s g (2 * v + 1)) (fi_s g (2 * v + 1)) := by rw [← eg, fi_sp (l17 lv1 lv1)]
  have o84 : fi_s gg 84 = pf_add (pf_mul (pf_dr (fi_s g (2 * v))) (fi_s g (2 * v + 1))) (pf_mul (pf_c (-1)) (pf_mul (fi_s g (2 * v)) (pf_dr (fi_s g (2 * v + 1))))) := by
    rw [← eg, fi_sq (by omega), fi_sq (by omega), fi_sp la]
  refine yc_take v 87 87 hv (by omega) (by omega) (by omega) (by omega) (by omega) (by omega) (by omega) (by omega) (by rw [o87]; exact lv1) (by rw [o87]; exact lv1) (fun g' m pw fr tk => ?_)
  rw [o84, o86, o87] at tk
  have fr' : ya_fr v g g' := fun s h1 h2 h3 => by rw [fr s h1 h2 (by omega)]; exact o s (by omega)
  refine yc_large v (by omega) (fun l1 l2 => ?_) (fun l => ?_)
  · exact h g' m pw 0 f_faultAt fr' tk (Or.inl ⟨⟨l1, l2⟩, rfl, rfl⟩)
  · exact h g' m pw 4 xat fr' tk (Or.inr ⟨l, rfl, rfl⟩)
theorem yc_inPlace {post : SY → Prop} {g : Nat → Fin 5} {xv xw xat : Int32} (v w : Nat) (hv : 2 * v + 1 < 52) (hw : 2 * w + 1 < 52) (vw : v ≠ w) (sv : ya_sm v g) (sw : ya_sm w g)
    (h3 : post (f_count, f_place, f_opens, f_top, 3, xat, f_dry, f_found, fi_m g, a_there, a_kind, a_num, a_open, a_openAt, a_power, a_table)) (h4 : post (f_count, f_place, f_opens, f_top, 4, xat, f_dry, f_found, fi_m g, a_there, a_kind, a_num, a_open, a_openAt, a_power, a_table))
    (h : ∀ (g' : Nat → Fin 5) (m : Nat) (pw : Nat → Int32), ya_fr v g g' → post (f_count, f_place, f_opens, f_top, 0, f_faultAt, f_dry, nI m, fi_m g', a_there, a_kind, a_num, a_open, a_openAt, pw, a_table))
    (ev : xv = nI v := by rfl) (ew : xw = nI w := by rfl) : wpY_inPlace post (f_count, f_place, f_opens, f_top, 0, f_faultAt, f_dry, f_found, fi_m g, a_there, a_kind, a_num, a_open, a_openAt, a_power, a_table) xv xw xat := by
  subst ev ew
  have go : ∀ a : Nat, a ≤ 8 → wY_inPlace_43 post (nI v) (nI w) xat (nI a) f_count f_place f_opens f_top (0) f_faultAt f_dry f_found (fi_m g) a_there a_kind a_num a_open a_openAt a_power a_table := by
    intro a ha
    unfold wY_inPlace_43
    refine yc_size w (by omega) (fun b hb lb lb1 hx => ?_)
    have em : nI a * nI b = nI (a * b) := pk_mul a b
    have hab : a * b ≤ 8 * 20 := Nat.mul_le_mul ha (by omega)
    rw [em]
    by_cases c : a * b ≤ 8
    · refine br_t (nI_le (b := 8) c (by decide)) ?_
      refine yc_put (2 * v) w a 84 b (by omega) (by omega) ha (by omega) (by omega) lb lb1 c (fun g1 f1 _ => ?_) (fi_2 v)
      have k1 : ∀ s, s < 66 → fi_s g1 s = fi_s g s := fun s hs => f1 s (by omega) (by omega) (by omega)
      refine yc_put (2 * v + 1) w a 86 b (by omega) (by omega) ha (by omega) (by omega) (by rw [k1 _ (by omega)]; exact lb) (by rw [k1 _ (by omega)]; exact lb1) c (fun g2 f2 e86 => ?_) (fi_21 v)
      have k2 : ∀ s, s < 66 → fi_s g2 s = fi_s g s := fun s hs => by rw [f2 s (by omega) (by omega) (by omega)]; exact k1 s hs
      have l86 : pf_ln (fi_s g2 86) 9 := by
        rw [e86, k1 _ (by omega), k1 (2 * w) (by omega), k1 (2 * w + 1) (by omega)]
        exact pf_sP_ln (fun i _ => pf_ln_mono (pf_T_ln lb lb1 i a) (by omega))
      refine yc_copy 86 87 (by omega) (by omega) ?_
      have e87 : fi_s (fi_p g2 87 (fi_s g2 86)) 87 = fi_s g2 86 := fi_sp (fi_s_ln _ _)
      refine yc_take v 87 87 hv (by omega) (by omega) (by omega) (by omega) (by omega) (by omega) (by omega) (by omega) (by rw [e87]; exact l86) (by rw [e87]; exact l86) (fun g' m pw fr _ => ?_)
      refine h g' m pw (fun s h1 h2 h3 => ?_)
      rw [fr s h1 h2 (by omega), fi_sq (by omega)]; exact k2 s h3
    · exact br_f (nI_ge (a := 8) (by omega) (by omega)) (br_t rfl h4)
  unfold wpY_inPlace
  refine yc_size v (by omega) (fun a ha la la1 hx => ?_)
  have ha8 : a ≤ 8 := by
    rcases hx with e | e | e
    · omega
    · have := pf_hd_lt e sv.1; omega
    · have := pf_hd_lt e sv.2; omega
  refine yc_size w (by omega) (fun b hb lb lb1 _ => ?_)
  by_cases c : b = 0
  · have e40 : (40 : Int32) * nI w = nI (20 * (2 * w) + 0) := by
      show nI 40 * nI w = _
      rw [pk_mul]; congr 1; omega
    refine br_t (by rw [c]; rfl) ⟨pk_in _ 1800 (by omega) e40, ?_⟩
    refine yc_valueOf (2 * v + 1) (fi_s g (2 * w) 0) (by omega) ?_ (fi_21 v) ?_
    · by_cases c2 : pf_hn (fi_s g (2 * v + 1)) (fi_s g (2 * w) 0) 19 20 = 0
      · refine br_t (by rw [c2]; rfl) (br_t rfl h3)
      · exact br_f (fun e => c2 ((fi_0 _).mp e)) (go a ha8)
    · rw [e40, nI_clamp (by omega), fi_s_at (by omega)]; rfl
  · exact br_f (nI_ne0 (by omega) (by omega)) (go a ha8)
theorem yc_raise {post : SY → Prop} {g : Nat → Fin 5} {xv xn xat : Int32} (v q : Nat) (hv : 2 * v + 1 < 52) (hq : q ≤ 8) (hn : xn = nI q ∨ (xn = -nI q ∧ 1 ≤ q)) (sm : ya_sm v g)
    (h : ∀ (g' : Nat → Fin 5) (m : Int32) (pw : Nat → Int32) (ft fa : Int32), ya_fr v g g' → (ft = 0 → ya_sm v g') → post (f_count, f_place, f_opens, f_top, ft, fa, f_dry, m, fi_m g', a_there, a_kind, a_num, a_open, a_openAt, pw, a_table))
    (ev : xv = nI v := by rfl) : wpY_raise post (f_count, f_place, f_opens, f_top, 0, f_faultAt, f_dry, f_found, fi_m g, a_there, a_kind, a_num, a_open, a_openAt, a_power, a_table) xv xn xat := by
  subst ev
  have l1 : pf_ln (pf_c 1) 9 := pf_ln_mono (pf_c_ln 1) (by omega)
  have loop : ∀ d k (g1 : Nat → Fin 5) (m : Int32) (pw : Nat → Int32) (ft fa : Int32), k + d = q → ya_fr v g g1 → (ft = 0 → ya_sm v g1) → pf_ln (fi_s g1 66) 9 → pf_ln (fi_s g1 67) 9 →
      wY_raise_81 post (nI v) xat (nI q) (d + 1) (nI k) f_count f_place f_opens f_top (ft) (fa) f_dry (m) (fi_m g1) a_there a_kind a_num a_open a_openAt (pw) a_table := by
    intro d
    induction d with
    | zero =>
      intro k g1 m pw ft fa hk fr hs l66 l67
      obtain rfl : k = q := by omega
      exact br_t (nI_le (Nat.le_refl _) (by omega)) (h g1 m pw ft fa fr hs)
    | succ d ih =>
      intro k g1 m pw ft fa hk fr hs l66 l67
      refine br_f (nI_ge (by omega) (by omega)) ?_
      by_cases c : ft = 0
      · subst c
        refine br_t rfl ?_
        refine yc_times v 33 hv (by omega) (by omega) (hs rfl).1 (hs rfl).2 l66 l67 (fun g2 m2 pw2 fr2 _ => ?_)
        have fr3 : ya_fr v g g2 := fun s h1 h2 h3 => by rw [fr2 s h1 h2 (by omega)]; exact fr s h1 h2 h3
        have l66' : pf_ln (fi_s g2 66) 9 := by rw [fr2 66 (by omega) (by omega) (by omega)]; exact l66
        have l67' : pf_ln (fi_s g2 67) 9 := by rw [fr2 67 (by omega) (by omega) (by omega)]; exact l67
        refine yc_large v (by omega) (fun a b => nm_r (nI_1 k) ?_) (fun _ => nm_r (nI_1 k) ?_)
        · exact ih (k + 1) g2 (nI m2) pw2 0 fa (by omega) fr3 (fun _ => ⟨a, b⟩) l66' l67'
        · exact ih (k + 1) g2 (nI m2) pw2 4 xat (by omega) fr3 (fun e => absurd e (by decide)) l66' l67'
      · exact br_f c (h g1 m pw ft fa fr hs)
  have r38 : ∀ g1 : Nat → Fin 5, ya_fr v g g1 → ya_sm v g1 → wY_raise_38 post (nI v) xat (nI q) f_count f_place f_opens f_top (0) f_faultAt f_dry f_found (fi_m g1) a_there a_kind a_num a_open a_openAt a_power a_table := by
    intro g1 fr s1
    unfold wY_raise_38
    refine yc_copy (2 * v) 66 (by omega) (by omega) ?_ (fi_2 v)
    refine yc_copy (2 * v + 1) 67 (by omega) (by omega) ?_ (fi_21 v)
    refine yc_become (2 * v) (by omega) ?_ (fi_2 v)
    refine yc_become (2 * v + 1) (by omega) ⟨q + 1, ?_⟩ (fi_21 v)
    have z1 : fi_z 1 = 1 := by decide
    rw [z1]
    refine loop q 0 _ _ _ _ _ (by omega) (fun s h1 h2 h3 => ?_) (fun _ => ⟨?_, ?_⟩) ?_ ?_
    · rw [fi_sq h2, fi_sq h1, fi_sq (by omega), fi_sq (by omega)]; exact fr s h1 h2 h3
    · rw [fi_sq (by omega), fi_sp (pf_ln_mono l1 (by omega))]; exact l1
    · rw [fi_sp (pf_ln_mono l1 (by omega))]; exact l1
    · rw [fi_sq (by omega), fi_sq (by omega), fi_sq (by omega), fi_sp (fi_s_ln _ _)]; exact s1.1
    · rw [fi_sq (by omega), fi_sq (by omega), fi_sp (fi_s_ln _ _), fi_sq (by omega)]; exact s1.2
  unfold wpY_raise
  rcases hn with e | ⟨e, hq1⟩
  · subst e
    have p0 : (0 : Int32) ≤ nI q := nI_pos' (by omega)
    refine br_t p0 ?_
    unfold wY_raise_19 wY_raise_28
    exact br_t p0 (br_t p0 (r38 g (fun _ _ _ _ => rfl) sm))
  · subst e
    have t : (-nI q).toInt = -(q : Int) := by
      rw [Int32.toInt_neg, nI_toInt (by omega)]
      exact Int.bmod_eq_of_le (by omega) (by omega)
    have p0 : ¬ (0 : Int32) ≤ -nI q := by
      rw [Int32.le_iff_toInt_le, t, fi_00]; omega
    have nn : -(-nI q) = nI q := Int32.neg_neg
    refine br_f p0 ?_
    refine yc_isZero v (by omega) (fun nz => ?_) (fun z => ?_)
    · refine br_t rfl ?_
      unfold wY_raise_19
      refine br_f p0 (yc_flip v hv (fun g' fr hf => ?_))
      unfold wY_raise_28
      refine br_f p0 ?_
      rw [nn]
      refine r38 g' (fun s h1 h2 h3 => fr s h1 h2 (by omega)) ?_
      rcases hf with ⟨_, e0, e1⟩ | ⟨_, c, _, e0, e1⟩
      · unfold ya_sm
        rw [e0, e1]
        exact ⟨pf_ln_mono (pf_c_ln 0) (by omega), l1⟩
      · unfold ya_sm
        rw [e0, e1]
        exact ⟨pf_c_ml _ sm.2, pf_c_ml _ sm.1⟩
    · refine br_f (by decide) (br_t rfl ?_)
      exact h g f_found a_power 3 xat (fun _ _ _ _ => rfl) (fun e => absurd e (by decide))
end
