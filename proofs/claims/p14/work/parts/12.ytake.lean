/-! The reference's reduce, settle, size, take, sum, times, flip -/
section
variable {f_count f_place f_opens f_top f_fault f_faultAt f_dry f_found : Int32} {a_c a_there a_kind a_num a_open a_openAt a_power a_table : Nat → Int32}
theorem yc_red7 {post : SY → Prop} {g0 : Nat → Fin 5} {A : PF} {v m : Nat} (hv : 2 * v + 1 < 70) (hm : m ≤ 8) (ok : ∀ i, i < m → ∃ d, pf_irr (fi_s g0 (72 + i)) d)
    (h : ∀ (g' : Nat → Fin 5) (H : PF) (e : Nat), ys_r2 v g0 g' → ys_lost v g0 g' H → pf_hd H e → (fi_s g0 (2 * v) = pf_c 0 ∨ ∀ i, i < m → ¬ (pf_dv (fi_s g0 (72 + i)) (fi_s g' (2 * v)) ∧ pf_dv (fi_s g0 (72 + i)) (fi_s g' (2 * v + 1)))) → post (f_count, f_place, f_opens, f_top, f_fault, f_faultAt, f_dry, nI m, fi_m g', a_there, a_kind, a_num, a_open, a_openAt, a_power, a_table)) :
    ∀ (k i : Nat) (g : Nat → Fin 5) (H : PF) (e : Nat), i + k = m → ys_r2 v g0 g → ys_lost v g0 g H → pf_hd H e → (fi_s g0 (2 * v) = pf_c 0 ∨ ∀ j, j < i → ¬ (pf_dv (fi_s g0 (72 + j)) (fi_s g (2 * v)) ∧ pf_dv (fi_s g0 (72 + j)) (fi_s g (2 * v + 1)))) →
      wY_reduce_7 post (nI v) (k + 1) (nI i) f_count f_place f_opens f_top f_fault f_faultAt f_dry (nI m) (fi_m g) a_there a_kind a_num a_open a_openAt a_power a_table := by
  intro k
  induction k with
  | zero =>
    intro i g H e hi fr ls hH hn
    obtain rfl : i = m := by omega
    exact br_t (nI_le (Nat.le_refl _) (by omega)) (h g H e fr ls hH hn)
  | succ k ih =>
    intro i g H e hi fr ls hH hn
    obtain ⟨d, hirr⟩ := ok i (by omega)
    have eF : fi_s g (72 + i) = fi_s g0 (72 + i) := fr _ (by omega) (by omega) (by omega) (by omega) (by omega)
    refine br_f (nI_ge (by omega) (by omega)) ⟨22, ?_⟩
    refine yc_red18 (g0 := g) (d := d) hv (by omega) (by rw [eF]; exact hirr.1) hirr.2.1 _ (fun g' K fr' ls' hK hno => ?_) 20 g (pf_c 1) 0 (fun _ _ _ _ _ _ => rfl) ⟨(pf_mul1 _).symm, (pf_mul1 _).symm⟩ (pf_hd_c (by decide)) (fi_s_ln _ _)
    obtain ⟨e2, hK2⟩ : ∃ e, pf_hd K e := by
      rcases hK with hK | hK
      · exact ⟨0, hK⟩
      · exact hK
    refine ih (i + 1) g' (pf_mul K H) (e2 + e) (by omega) ?_ (ys_lost_t ls ls') (pf_mul_hd hK2 hH) ?_
    · intro s h1 h2 h3 h4 h5
      rw [fr' s h1 h2 h3 h4 h5]; exact fr s h1 h2 h3 h4 h5
    · rcases hn with z | hn
      · exact Or.inl z
      · rcases hno with z | hno
        · left; rw [ls.1, z, pf_zero_mul]
        · right
          intro j hj
          by_cases c : j = i
          · subst c; rw [eF] at hno; exact hno
          · intro dv
            have d1 : pf_dv (fi_s g0 (72 + j)) (fi_s g (2 * v)) := by rw [ls'.1]; exact pf_dv_mr dv.1 (pf_hd_fin hK2)
            have d2 : pf_dv (fi_s g0 (72 + j)) (fi_s g (2 * v + 1)) := by rw [ls'.2]; exact pf_dv_mr dv.2 (pf_hd_fin hK2)
            exact hn j (by omega) ⟨d1, d2⟩
/-- every irreducible divisor of A divides a factor: kept abstract here as what reduce leaves -/
theorem yc_reduce {post : SY → Prop} {g : Nat → Fin 5} {xv xs : Int32} (v s : Nat) (hv : 2 * v + 1 < 70) (hs : s < 90) (hs2 : s < 70 ∨ 82 ≤ s) (hl : pf_ln (fi_s g s) 9)
    (h : ∀ (g1 g' : Nat → Fin 5) (m : Nat) (pw : Nat → Int32) (H : PF) (e : Nat), m ≤ 8 → ys_ok g1 (fi_s g s) m pw → ys_fr g g1 → ys_r2 v g1 g' → ys_lost v g g' H → pf_hd H e →
      (fi_s g (2 * v) = pf_c 0 ∨ ∀ i, i < m → ¬ (pf_dv (fi_s g1 (72 + i)) (fi_s g' (2 * v)) ∧ pf_dv (fi_s g1 (72 + i)) (fi_s g' (2 * v + 1)))) → post (f_count, f_place, f_opens, f_top, f_fault, f_faultAt, f_dry, nI m, fi_m g', a_there, a_kind, a_num, a_open, a_openAt, pw, a_table))
    (ev : xv = nI v := by rfl) (es : xs = nI s := by rfl) : wpY_reduce post (f_count, f_place, f_opens, f_top, f_fault, f_faultAt, f_dry, f_found, fi_m g, a_there, a_kind, a_num, a_open, a_openAt, a_power, a_table) xv xs := by
  subst ev es
  unfold wpY_reduce
  refine yc_split s hs hs2 hl (fun g1 m pw hm fr ok => ⟨m + 1, ?_⟩)
  have irr : ∀ i, i < m → ∃ d, pf_irr (fi_s g1 (72 + i)) d := by
    intro i hi
    rcases ok with ⟨_, z⟩ | ⟨N, r, D, n, _, S, _⟩
    · omega
    · exact ⟨D i, S.1.1 i hi⟩
  have e0 : fi_s g1 (2 * v) = fi_s g (2 * v) := fr _ (by omega)
  have e1 : fi_s g1 (2 * v + 1) = fi_s g (2 * v + 1) := fr _ (by omega)
  refine yc_red7 (g0 := g1) (A := fi_s g s) hv hm irr (fun g' H e fr' ls hH hno => h g1 g' m pw H e hm ok fr fr' ?_ hH ?_) m 0 g1 (pf_c 1) 0 (by omega) (fun _ _ _ _ _ _ => rfl) ⟨(pf_mul1 _).symm, (pf_mul1 _).symm⟩ (pf_hd_c (by decide)) (Or.inr (fun j hj => by omega))
  · exact ⟨by rw [← e0]; exact ls.1, by rw [← e1]; exact ls.2⟩
  · rw [← e0]; exact hno
/-- the size: the greater degree, at least 0 -/
theorem yc_size {post : Int32 → Prop} {g : Nat → Fin 5} {xv : Int32} (v : Nat) (hv : 2 * v + 1 < 90)
    (h : ∀ z : Nat, z < 20 → pf_ln (fi_s g (2 * v)) (z + 1) → pf_ln (fi_s g (2 * v + 1)) (z + 1) → (z = 0 ∨ pf_hd (fi_s g (2 * v)) z ∨ pf_hd (fi_s g (2 * v + 1)) z) → post (nI z)) (ev : xv = nI v := by rfl) : wpY_size post (f_count, f_place, f_opens, f_top, f_fault, f_faultAt, f_dry, f_found, fi_m g, a_there, a_kind, a_num, a_open, a_openAt, a_power, a_table) xv := by
  subst ev
  have cz : ∀ n, pf_ln (pf_c 0) n := fun n k _ => by rw [pf_c0]
  unfold wpY_size
  refine yc_deg (2 * v) (by omega) (fun z1 => ?_) (fun a ha hA => ?_) (fi_2 v)
  · refine yc_deg (2 * v + 1) (by omega) (fun z2 => ?_) (fun b hb hB => ?_) (fi_21 v)
    · exact br_t (by decide) (br_f (by decide) (h 0 (by omega) (by rw [z1]; exact cz _) (by rw [z2]; exact cz _) (Or.inl rfl)))
    · refine br_t ?_ (br_t (nI_pos' (by omega)) (h b hb (by rw [z1]; exact cz _) hB.1 (Or.inr (Or.inr hB))))
      have := fi_nm1 (n := b) (by omega)
      exact Int32.le_of_lt this
  · refine yc_deg (2 * v + 1) (by omega) (fun z2 => ?_) (fun b hb hB => ?_) (fi_21 v)
    · refine br_f ?_ (h a ha hA.1 (by rw [z2]; exact cz _) (Or.inr (Or.inl hA)))
      have := fi_nm1 (n := a) (by omega)
      rw [Int32.not_le]; exact this
    · by_cases c : a ≤ b
      · exact br_t (nI_le c (by omega)) (br_t (nI_pos' (by omega)) (h b hb (pf_ln_mono hA.1 (by omega)) hB.1 (Or.inr (Or.inr hB))))
      · exact br_f (nI_ge (by omega) (by omega)) (h a ha hA.1 (pf_ln_mono hB.1 (by omega)) (Or.inr (Or.inl hA)))
/-- settle: q is made monic, or 0 / 1 -/
theorem yc_settle {post : SY → Prop} {g : Nat → Fin 5} {xv : Int32} (v : Nat) (hv : 2 * v + 1 < 70)
    (h0 : fi_s g (2 * v) = pf_c 0 → post (f_count, f_place, f_opens, f_top, f_fault, f_faultAt, f_dry, f_found, fi_m (fi_p g (2 * v + 1) (pf_c 1)), a_there, a_kind, a_num, a_open, a_openAt, a_power, a_table))
    (h1 : ∀ c : Fin 5, fi_s g (2 * v) ≠ pf_c 0 → (∀ d, pf_hd (fi_s g (2 * v + 1)) d → c = fi_s g (2 * v + 1) d * fi_s g (2 * v + 1) d * fi_s g (2 * v + 1) d) → post (f_count, f_place, f_opens, f_top, f_fault, f_faultAt, f_dry, f_found, fi_m (fi_p (fi_p g (2 * v) (pf_mul (pf_c c) (fi_s g (2 * v)))) (2 * v + 1) (pf_mul (pf_c c) (fi_s g (2 * v + 1)))), a_there, a_kind, a_num, a_open, a_openAt, a_power, a_table))
    (ev : xv = nI v := by rfl) : wpY_settle post (f_count, f_place, f_opens, f_top, f_fault, f_faultAt, f_dry, f_found, fi_m g, a_there, a_kind, a_num, a_open, a_openAt, a_power, a_table) xv := by
  subst ev
  have fin : ∀ (y : Fin 5), fi_s g (2 * v) ≠ pf_c 0 → (∀ d, pf_hd (fi_s g (2 * v + 1)) d → y = fi_s g (2 * v + 1) d * fi_s g (2 * v + 1) d * fi_s g (2 * v + 1) d) →
      post (f_count, f_place, f_opens, f_top, f_fault, f_faultAt, f_dry, f_found, fi_m (fi_p (fi_p g (2 * v) (fun k => fi_s g (2 * v) k * y)) (2 * v + 1) (fun k => fi_s (fi_p g (2 * v) (fun k => fi_s g (2 * v) k * y)) (2 * v + 1) k * y)), a_there, a_kind, a_num, a_open, a_openAt, a_power, a_table) := by
    intro y nz hy
    rw [fi_sq (by omega), pf_sc, pf_sc]
    exact h1 y nz hy
  unfold wpY_settle
  refine yc_deg (2 * v) (by omega) (fun z => ?_) (fun a ha hA => ?_) (fi_2 v)
  · refine br_f (by decide) (yc_become (2 * v + 1) (by omega) ?_ (fi_21 v))
    have e1 : fi_z 1 = 1 := by decide
    rw [e1]; exact h0 z
  · refine br_t (nI_pos' (by omega)) ?_
    refine yc_deg (2 * v + 1) (by omega) (fun z => ?_) (fun b hb hB => ?_) (fi_21 v)
    · have ex : (20 : Int32) * ((2 : Int32) * nI v + 1) + (-1) = nI (40 * v + 19) := by
        rw [fi_21, fi_ix0]
        have e2 : 20 * (2 * v + 1) = (40 * v + 19) + 1 := by omega
        rw [e2, pk_m1]
      refine ⟨pk_in (40 * v + 19) 1800 (by omega) ex, yc_inv' (y := g (40 * v + 19)) (by rw [ex, nI_clamp (by omega)]; rfl) ?_⟩
      refine yc_scale (2 * v) _ (by omega) ?_ (fi_2 v)
      refine yc_scale (2 * v + 1) _ (by omega) ?_ (fi_21 v)
      exact fin _ (pf_hd_n0 hA) (fun d hd => absurd z (pf_hd_n0 hd))
    · have ex : (20 : Int32) * ((2 : Int32) * nI v + 1) + nI b = nI (20 * (2 * v + 1) + b) := by rw [fi_21, fi_ix]
      refine ⟨pk_in (20 * (2 * v + 1) + b) 1800 (by omega) ex, yc_inv' (y := fi_s g (2 * v + 1) b) (by rw [ex, nI_clamp (by omega), fi_s_at hb]; rfl) ?_⟩
      refine yc_scale (2 * v) _ (by omega) ?_ (fi_2 v)
      refine yc_scale (2 * v + 1) _ (by omega) ?_ (fi_21 v)
      refine fin _ (pf_hd_n0 hA) (fun d hd => ?_)
      obtain rfl := pf_hd_u hd hB
      rfl
end
