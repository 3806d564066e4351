/-! The reference's take, sum, times, flip, large, isZero, derive, slope -/
def ys_nc (A P Q : PF) : Prop := A = pf_c 0 ∨ ∀ (f : PF) (d : Nat), pf_irr f d → pf_dv f A → ¬ (pf_dv f P ∧ pf_dv f Q)
def ys_tk (P0 Q0 G H P1 Q1 : PF) : Prop :=
  (P0 = pf_c 0 → P1 = pf_c 0 ∧ Q1 = pf_c 1) ∧
  (P0 ≠ pf_c 0 → Q0 ≠ pf_c 0 → ∃ (K : PF) (e b : Nat), pf_hd K e ∧ P0 = pf_mul P1 K ∧ Q0 = pf_mul Q1 K ∧ pf_hd Q1 b ∧ Q1 b = 1 ∧ ys_nc G P1 Q1 ∧ ys_nc H P1 Q1)
def ys_tf (v : Nat) (g g' : Nat → Fin 5) : Prop := ∀ s, s ≠ 2 * v → s ≠ 2 * v + 1 → s < 70 ∨ 84 ≤ s → fi_s g' s = fi_s g s
theorem ys_nc_ok {g1 : Nat → Fin 5} {A P Q : PF} {m : Nat} {pw : Nat → Int32} (ok : ys_ok g1 A m pw) (h : ∀ i, i < m → ¬ (pf_dv (fi_s g1 (72 + i)) P ∧ pf_dv (fi_s g1 (72 + i)) Q)) : ys_nc A P Q := by
  rcases ok with ⟨z, _⟩ | ⟨N, r, D, n, hA, S, hr⟩
  · exact Or.inl z
  · right
    intro f d hf dA dd
    obtain ⟨⟨s1, s2, s3, s4, s5, s6, G, hG, ea, cG⟩, _⟩ := S
    have ff := pf_hd_fin hf.1
    have ex : ¬ ∀ i, i < m → pf_cp f (fi_s g1 (72 + i)) := by
      intro all
      have c1 := cG f ff all
      obtain ⟨c, hc, ec⟩ := pf_hd0 hr
      have d1 : pf_dv f (pf_mul G r) := by rw [pf_mul_comm, ← ea]; exact dA
      have d2 := pf_cp_dv c1 (pf_hd_fin hr) d1
      exact pf_nd_lt hf.1 hr hf.2.1 d2
    have ex2 : ∃ i, i < m ∧ ¬ pf_cp f (fi_s g1 (72 + i)) := by
      apply Classical.byContradiction
      intro no
      apply ex
      intro i hi
      exact Classical.byContradiction fun c => no ⟨i, hi, c⟩
    obtain ⟨i, hi, nc⟩ := ex2
    have dv : pf_dv (fi_s g1 (72 + i)) f := by
      apply Classical.byContradiction
      intro nd
      exact nc (pf_cp_s (pf_irr_cp (s1 i hi) ff nd))
    exact h i hi ⟨pf_dv_t dv dd.1, pf_dv_t dv dd.2⟩
theorem ys_nc_dv {A P Q P' Q' : PF} (h : ys_nc A P Q) (h1 : pf_dv P' P) (h2 : pf_dv Q' Q) : ys_nc A P' Q' := by
  rcases h with z | h
  · exact Or.inl z
  · exact Or.inr (fun f d hf dA dd => h f d hf dA ⟨pf_dv_t dd.1 h1, pf_dv_t dd.2 h2⟩)
theorem pf_0or (f : PF) : f = pf_c 0 ∨ f ≠ pf_c 0 := Classical.em _
theorem pf_mul_e0 {a K : PF} {e : Nat} (fa : pf_fin a) (hK : pf_hd K e) (h : pf_mul a K = pf_c 0) : a = pf_c 0 :=
  pf_cancel hK fa (pf_fin_c 0) (by rw [h, pf_zero_mul])
theorem pf_dv_c {c : Fin 5} (hc : c ≠ 0) (f : PF) : pf_dv (pf_mul (pf_c c) f) f := ⟨pf_c (c * c * c), pf_fin_c _, (pf_c_inv' hc f).symm⟩
theorem pf_mul_n0 {a b : PF} (h : pf_mul a b ≠ pf_c 0) : a ≠ pf_c 0 := by
  intro z; apply h; rw [z, pf_zero_mul]
section
variable {f_count f_place f_opens f_top f_fault f_faultAt f_dry f_found : Int32} {a_c a_there a_kind a_num a_open a_openAt a_power a_table : Nat → Int32}
theorem yc_take {post : SY → Prop} {g : Nat → Fin 5} {xv xs xt : Int32} (v s t : Nat) (hv : 2 * v + 1 < 52) (hs : s < 90) (ht : t < 90) (hs2 : s < 70 ∨ 84 ≤ s) (ht2 : t < 70 ∨ 84 ≤ t)
    (sv : s ≠ 2 * v) (sv1 : s ≠ 2 * v + 1) (tv : t ≠ 2 * v) (tv1 : t ≠ 2 * v + 1) (ls : pf_ln (fi_s g s) 9) (lt : pf_ln (fi_s g t) 9)
    (h : ∀ (g' : Nat → Fin 5) (m : Nat) (pw : Nat → Int32), ys_tf v g g' → ys_tk (fi_s g 84) (fi_s g 86) (fi_s g s) (fi_s g t) (fi_s g' (2 * v)) (fi_s g' (2 * v + 1)) → post (f_count, f_place, f_opens, f_top, f_fault, f_faultAt, f_dry, nI m, fi_m g', a_there, a_kind, a_num, a_open, a_openAt, pw, a_table))
    (ev : xv = nI v := by rfl) (es : xs = nI s := by rfl) (et : xt = nI t := by rfl) : wpY_take post (f_count, f_place, f_opens, f_top, f_fault, f_faultAt, f_dry, f_found, fi_m g, a_there, a_kind, a_num, a_open, a_openAt, a_power, a_table) xv xs xt := by
  subst ev es et
  unfold wpY_take
  refine yc_copy 84 (2 * v) (by omega) (by omega) ?_ rfl (fi_2 v)
  refine yc_copy 86 (2 * v + 1) (by omega) (by omega) ?_ rfl (fi_21 v)
  rw [fi_sq (by omega)]
  generalize eg : fi_p (fi_p g (2 * v) (fi_s g 84)) (2 * v + 1) (fi_s g 86) = ga
  have a0 : fi_s ga (2 * v) = fi_s g 84 := by rw [← eg, fi_sq (by omega), fi_sp (fi_s_ln _ _)]
  have a1 : fi_s ga (2 * v + 1) = fi_s g 86 := by rw [← eg, fi_sp (fi_s_ln _ _)]
  have ao : ∀ q, q ≠ 2 * v → q ≠ 2 * v + 1 → fi_s ga q = fi_s g q := fun q h1 h2 => by rw [← eg, fi_sq h2, fi_sq h1]
  refine yc_reduce v s (by omega) hs (by omega) (by rw [ao s sv sv1]; exact ls) (fun g1 gb m pw H e hm ok fr1 r1 l1 hH n1 => ?_)
  have bo : ∀ q, q ≠ 2 * v → q ≠ 2 * v + 1 → q < 70 ∨ 84 ≤ q → fi_s gb q = fi_s g q := fun q h1 h2 h3 => by
    rw [r1 q h1 h2 (by omega) (by omega) (by omega), fr1 q (by omega), ao q h1 h2]
  refine yc_reduce v t (by omega) ht (by omega) (by rw [bo t tv tv1 ht2]; exact lt) (fun g2 gc m2 pw2 H2 e2 hm2 ok2 fr2 r2 l2 hH2 n2 => ?_)
  have co : ∀ q, q ≠ 2 * v → q ≠ 2 * v + 1 → q < 70 ∨ 84 ≤ q → fi_s gc q = fi_s g q := fun q h1 h2 h3 => by
    rw [r2 q h1 h2 (by omega) (by omega) (by omega), fr2 q (by omega), bo q h1 h2 h3]
  have l3 := ys_lost_t l1 l2
  have hK := pf_mul_hd hH2 hH
  rw [ao s sv sv1] at ok
  rw [bo t tv tv1 ht2] at ok2
  unfold ys_lost at l3
  rw [a0, a1] at l3
  refine yc_settle v (by omega) (fun z => ?_) (fun c nzP hc => ?_)
  · refine h _ m2 pw2 (fun q h1 h2 h3 => ?_) ⟨fun _ => ⟨?_, ?_⟩, fun nz => ?_⟩
    · rw [fi_sq h2]; exact co q h1 h2 h3
    · rw [fi_sq (by omega)]; exact z
    · exact fi_sp (pf_ln_mono (pf_c_ln 1) (by omega))
    · exfalso; apply nz; rw [l3.1, z, pf_zero_mul]
  · have lc0 : pf_ln (pf_mul (pf_c c) (fi_s gc (2 * v))) 20 := pf_c_ml _ (fi_s_ln _ _)
    have lc1 : pf_ln (pf_mul (pf_c c) (fi_s gc (2 * v + 1))) 20 := pf_c_ml _ (fi_s_ln _ _)
    refine h _ m2 pw2 (fun q h1 h2 h3 => ?_) ?_
    · rw [fi_sq h2, fi_sq h1]; exact co q h1 h2 h3
    · rw [fi_sq (by omega), fi_sp lc0, fi_sp lc1]
      refine ⟨fun z => absurd ?_ nzP, fun nP nQ => ?_⟩
      · rw [l3.1] at z
        exact pf_mul_e0 ⟨_, fi_s_ln _ _⟩ hK z
      · have nQ' : fi_s gc (2 * v + 1) ≠ pf_c 0 := by rw [l3.2] at nQ; exact pf_mul_n0 nQ
        rcases pf_fin_hd ⟨_, fi_s_ln gc (2 * v + 1)⟩ with z | ⟨b, hb⟩
        · exact absurd z nQ'
        · have ec := hc b hb
          have cz : c ≠ 0 := by rw [ec]; exact pf_nz _ _ (pf_nz _ _ hb.2 hb.2) hb.2
          have ecy : c * fi_s gc (2 * v + 1) b = 1 := by rw [ec]; exact pf_inv _ hb.2
          refine ⟨pf_mul (pf_c (fi_s gc (2 * v + 1) b)) (pf_mul H2 H), 0 + (e2 + e), b, pf_mul_hd (pf_hd_c hb.2) hK, ?_, ?_, pf_c_hd cz hb, ?_, ?_, ?_⟩
          · rw [l3.1]
            have e1 : pf_mul (pf_c c) (pf_c (fi_s gc (2 * v + 1) b)) = pf_c 1 := by rw [pf_c_mul, ecy]
            generalize pf_c (fi_s gc (2 * v + 1) b) = y at e1
            generalize pf_c c = x at e1
            generalize fi_s gc (2 * v) = P
            generalize pf_mul H2 H = K
            letI := pf_ring
            have e2 : x * y = 1 := e1
            show P * K = (x * P) * (y * K)
            grind
          · rw [l3.2]
            have e1 : pf_mul (pf_c c) (pf_c (fi_s gc (2 * v + 1) b)) = pf_c 1 := by rw [pf_c_mul, ecy]
            generalize pf_c (fi_s gc (2 * v + 1) b) = y at e1
            generalize pf_c c = x at e1
            generalize fi_s gc (2 * v + 1) = P
            generalize pf_mul H2 H = K
            letI := pf_ring
            have e2 : x * y = 1 := e1
            show P * K = (x * P) * (y * K)
            grind
          · rw [pf_mul_cl]; exact ecy
          · have q1 : ys_nc (fi_s g s) (fi_s gb (2 * v)) (fi_s gb (2 * v + 1)) := by
              rcases n1 with z | n1
              · rw [a0] at z; exact absurd z nP
              · exact ys_nc_ok ok n1
            refine ys_nc_dv q1 (pf_dv_t (pf_dv_c cz _) ⟨H2, pf_hd_fin hH2, ?_⟩) (pf_dv_t (pf_dv_c cz _) ⟨H2, pf_hd_fin hH2, ?_⟩)
            · rw [l2.1, pf_mul_comm]
            · rw [l2.2, pf_mul_comm]
          · have q2 : ys_nc (fi_s g t) (fi_s gc (2 * v)) (fi_s gc (2 * v + 1)) := by
              rcases n2 with z | n2
              · exfalso; apply nP; rw [← a0, l1.1, z, pf_zero_mul]
              · exact ys_nc_ok ok2 n2
            exact ys_nc_dv q2 (pf_dv_c cz _) (pf_dv_c cz _)
/-- a sum or difference: by is 1 or -1, as y -/
theorem yc_sum {post : SY → Prop} {g : Nat → Fin 5} {xv xw x : Int32} (v w : Nat) (y : Fin 5) (hv : 2 * v + 1 < 52) (hw : 2 * w + 1 < 70) (vw : v ≠ w) (hy : ∀ a b : Fin 5, fi_z (fi_I a + x * fi_I b) = a + y * b)
    (lv : pf_ln (fi_s g (2 * v)) 9) (lv1 : pf_ln (fi_s g (2 * v + 1)) 9) (lw : pf_ln (fi_s g (2 * w)) 9) (lw1 : pf_ln (fi_s g (2 * w + 1)) 9)
    (h : ∀ (g' : Nat → Fin 5) (m : Nat) (pw : Nat → Int32), (∀ s, s ≠ 2 * v → s ≠ 2 * v + 1 → s < 70 → fi_s g' s = fi_s g s) →
      ys_tk (pf_add (pf_mul (fi_s g (2 * v)) (fi_s g (2 * w + 1))) (pf_mul (pf_c y) (pf_mul (fi_s g (2 * w)) (fi_s g (2 * v + 1))))) (pf_mul (fi_s g (2 * v + 1)) (fi_s g (2 * w + 1))) (fi_s g (2 * v + 1)) (fi_s g (2 * w + 1)) (fi_s g' (2 * v)) (fi_s g' (2 * v + 1)) → post (f_count, f_place, f_opens, f_top, f_fault, f_faultAt, f_dry, nI m, fi_m g', a_there, a_kind, a_num, a_open, a_openAt, pw, a_table))
    (ev : xv = nI v := by rfl) (ew : xw = nI w := by rfl) : wpY_sum post (f_count, f_place, f_opens, f_top, f_fault, f_faultAt, f_dry, f_found, fi_m g, a_there, a_kind, a_num, a_open, a_openAt, a_power, a_table) xv xw x := by
  subst ev ew
  have l17 : ∀ {a b : PF}, pf_ln a 9 → pf_ln b 9 → pf_ln (pf_mul a b) 20 := fun ha hb => pf_ln_mono (pf_mul_ln (a := 8) (b := 8) ha hb) (by omega)
  unfold wpY_sum
  refine yc_product (2 * v) (2 * w + 1) 84 (by omega) (by omega) (by omega) (by omega) (by omega) ?_ (fi_2 v) (fi_21 w)
  refine yc_product (2 * w) (2 * v + 1) 85 (by omega) (by omega) (by omega) (by omega) (by omega) ?_ (fi_2 w) (fi_21 v)
  rw [fi_sq (by omega), fi_sq (by omega)]
  refine yc_add 84 85 y (by omega) (by omega) (by omega) hy ?_
  rw [fi_sq (by omega), fi_sp (l17 lv lw1), fi_sp (l17 lw lv1)]
  refine yc_product (2 * v + 1) (2 * w + 1) 86 (by omega) (by omega) (by omega) (by omega) (by omega) ?_ (fi_21 v) (fi_21 w)
  refine yc_copy (2 * v + 1) 87 (by omega) (by omega) ?_ (fi_21 v)
  have ea : (fun k => pf_mul (fi_s g (2 * v)) (fi_s g (2 * w + 1)) k + y * pf_mul (fi_s g (2 * w)) (fi_s g (2 * v + 1)) k) = pf_add (pf_mul (fi_s g (2 * v)) (fi_s g (2 * w + 1))) (pf_mul (pf_c y) (pf_mul (fi_s g (2 * w)) (fi_s g (2 * v + 1)))) := by
    rw [pf_mul_cl]; rfl
  have la : pf_ln (pf_add (pf_mul (fi_s g (2 * v)) (fi_s g (2 * w + 1))) (pf_mul (pf_c y) (pf_mul (fi_s g (2 * w)) (fi_s g (2 * v + 1))))) 20 := pf_add_ln (l17 lv lw1) (pf_c_ml _ (l17 lw lv1))
  generalize eg : fi_p _ 87 _ = gg
  have o : ∀ s, s < 70 → fi_s gg s = fi_s g s := fun s hs => by
    rw [← eg, fi_sq (by omega), fi_sq (by omega), fi_sq (by omega), fi_sq (by omega), fi_sq (by omega)]
  have o87 : fi_s gg 87 = fi_s g (2 * v + 1) := by
    rw [← eg, fi_sp (fi_s_ln _ _), fi_sq (by omega), fi_sq (by omega), fi_sq (by omega), fi_sq (by omega)]
  have o86 : fi_s gg 86 = pf_mul (fi_s g (2 * v + 1)) (fi_s g (2 * w + 1)) := by
    rw [← eg, fi_sq (by omega)]
    rw [fi_sq (s := 84) (t := 2 * v + 1) (by omega), fi_sq (s := 85) (t := 2 * v + 1) (by omega), fi_sq (s := 84) (t := 2 * v + 1) (by omega), fi_sq (s := 84) (t := 2 * w + 1) (by omega), fi_sq (s := 85) (t := 2 * w + 1) (by omega), fi_sq (s := 84) (t := 2 * w + 1) (by omega)]
    exact fi_sp (l17 lv1 lw1)
  have o84 : fi_s gg 84 = pf_add (pf_mul (fi_s g (2 * v)) (fi_s g (2 * w + 1))) (pf_mul (pf_c y) (pf_mul (fi_s g (2 * w)) (fi_s g (2 * v + 1)))) := by
    rw [← eg, fi_sq (by omega), fi_sq (by omega), ea, fi_sp la]
  refine yc_take v 87 (2 * w + 1) hv (by omega) (by omega) (by omega) (by omega) (by omega) (by omega) (by omega) (by omega) (by rw [o87]; exact lv1) (by rw [o _ (by omega)]; exact lw1) (fun g' m pw fr tk => ?_) rfl rfl (fi_21 w)
  refine h g' m pw (fun s h1 h2 h3 => ?_) ?_
  · rw [fr s h1 h2 (by omega)]; exact o s h3
  · rw [o84, o86, o87, o _ (by omega)] at tk; exact tk
theorem yc_times {post : SY → Prop} {g : Nat → Fin 5} {xv xw : Int32} (v w : Nat) (hv : 2 * v + 1 < 52) (hw : 2 * w + 1 < 70) (vw : v ≠ w)
    (lv : pf_ln (fi_s g (2 * v)) 9) (lv1 : pf_ln (fi_s g (2 * v + 1)) 9) (lw : pf_ln (fi_s g (2 * w)) 9) (lw1 : pf_ln (fi_s g (2 * w + 1)) 9)
    (h : ∀ (g' : Nat → Fin 5) (m : Nat) (pw : Nat → Int32), (∀ s, s ≠ 2 * v → s ≠ 2 * v + 1 → s < 70 → fi_s g' s = fi_s g s) →
      ys_tk (pf_mul (fi_s g (2 * v)) (fi_s g (2 * w))) (pf_mul (fi_s g (2 * v + 1)) (fi_s g (2 * w + 1))) (fi_s g (2 * v + 1)) (fi_s g (2 * w + 1)) (fi_s g' (2 * v)) (fi_s g' (2 * v + 1)) → post (f_count, f_place, f_opens, f_top, f_fault, f_faultAt, f_dry, nI m, fi_m g', a_there, a_kind, a_num, a_open, a_openAt, pw, a_table))
    (ev : xv = nI v := by rfl) (ew : xw = nI w := by rfl) : wpY_times post (f_count, f_place, f_opens, f_top, f_fault, f_faultAt, f_dry, f_found, fi_m g, a_there, a_kind, a_num, a_open, a_openAt, a_power, a_table) xv xw := by
  subst ev ew
  have l17 : ∀ {a b : PF}, pf_ln a 9 → pf_ln b 9 → pf_ln (pf_mul a b) 20 := fun ha hb => pf_ln_mono (pf_mul_ln (a := 8) (b := 8) ha hb) (by omega)
  unfold wpY_times
  refine yc_product (2 * v) (2 * w) 84 (by omega) (by omega) (by omega) (by omega) (by omega) ?_ (fi_2 v) (fi_2 w)
  refine yc_product (2 * v + 1) (2 * w + 1) 86 (by omega) (by omega) (by omega) (by omega) (by omega) ?_ (fi_21 v) (fi_21 w)
  refine yc_copy (2 * v + 1) 87 (by omega) (by omega) ?_ (fi_21 v)
  generalize eg : fi_p _ 87 _ = gg
  have o : ∀ s, s < 70 → fi_s gg s = fi_s g s := fun s hs => by
    rw [← eg, fi_sq (by omega), fi_sq (by omega), fi_sq (by omega)]
  have o87 : fi_s gg 87 = fi_s g (2 * v + 1) := by
    rw [← eg, fi_sp (fi_s_ln _ _), fi_sq (by omega), fi_sq (by omega)]
  have o86 : fi_s gg 86 = pf_mul (fi_s g (2 * v + 1)) (fi_s g (2 * w + 1)) := by
    rw [← eg, fi_sq (by omega), fi_sq (s := 84) (t := 2 * v + 1) (by omega), fi_sq (s := 84) (t := 2 * w + 1) (by omega)]
    exact fi_sp (l17 lv1 lw1)
  have o84 : fi_s gg 84 = pf_mul (fi_s g (2 * v)) (fi_s g (2 * w)) := by
    rw [← eg, fi_sq (by omega), fi_sq (by omega), fi_sp (l17 lv lw)]
  refine yc_take v 87 (2 * w + 1) hv (by omega) (by omega) (by omega) (by omega) (by omega) (by omega) (by omega) (by omega) (by rw [o87]; exact lv1) (by rw [o _ (by omega)]; exact lw1) (fun g' m pw fr tk => ?_) rfl rfl (fi_21 w)
  refine h g' m pw (fun s h1 h2 h3 => ?_) ?_
  · rw [fr s h1 h2 (by omega)]; exact o s h3
  · rw [o84, o86, o87, o _ (by omega)] at tk; exact tk
end
