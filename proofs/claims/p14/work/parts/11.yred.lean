/-! The reference's reduce: common factors of the slots 2v and 2v+1 among the factors of a third slot go -/
def ys_r2 (v : Nat) (g g' : Nat → Fin 5) : Prop := ∀ s, s ≠ 2 * v → s ≠ 2 * v + 1 → s ≠ 81 → s ≠ 82 → s ≠ 83 → fi_s g' s = fi_s g s
/-- the quotient of the slots stays: both lost the factor H -/
def ys_lost (v : Nat) (g g' : Nat → Fin 5) (H : PF) : Prop := fi_s g (2 * v) = pf_mul (fi_s g' (2 * v)) H ∧ fi_s g (2 * v + 1) = pf_mul (fi_s g' (2 * v + 1)) H
theorem ys_lost_t {v : Nat} {g g1 g2 : Nat → Fin 5} {H K : PF} (h1 : ys_lost v g g1 H) (h2 : ys_lost v g1 g2 K) : ys_lost v g g2 (pf_mul K H) := by
  refine ⟨?_, ?_⟩
  · rw [h1.1, h2.1, pf_mul_assoc]
  · rw [h1.2, h2.2, pf_mul_assoc]
theorem fi_2 (v : Nat) : (2 : Int32) * nI v = nI (2 * v) := pk_mul 2 v
theorem fi_21 (v : Nat) : (2 : Int32) * nI v + 1 = nI (2 * v + 1) := by rw [fi_2, nI_1]
theorem fi_72 (i : Nat) : (72 : Int32) + nI i = nI (72 + i) := nI_add 72 i
theorem pf_mul1 (f : PF) : pf_mul f (pf_c 1) = f := by rw [pf_mul_comm, pf_one_mul]
section
variable {f_count f_place f_opens f_top f_fault f_faultAt f_dry f_found : Int32} {a_c a_there a_kind a_num a_open a_openAt a_power a_table : Nat → Int32}
/-- the turns of one factor F -/
theorem yc_red18 {post : SY → Prop} {g0 : Nat → Fin 5} {v i d : Nat} (hv : 2 * v + 1 < 70) (hi : i < 8) (hF : pf_hd (fi_s g0 (72 + i)) d) (hd : 1 ≤ d)
    (J : Int32 → Int32 → Int32 → Int32 → Int32 → Int32 → Int32 → Int32 → Int32 → (Nat → Int32) → (Nat → Int32) → (Nat → Int32) → (Nat → Int32) → (Nat → Int32) → (Nat → Int32) → (Nat → Int32) → (Nat → Int32) → Prop)
    (hJ : ∀ (g' : Nat → Fin 5) (H : PF), ys_r2 v g0 g' → ys_lost v g0 g' H → pf_hd H 0 ∨ (∃ e, pf_hd H e) → (fi_s g0 (2 * v) = pf_c 0 ∨ ¬ (pf_dv (fi_s g0 (72 + i)) (fi_s g' (2 * v)) ∧ pf_dv (fi_s g0 (72 + i)) (fi_s g' (2 * v + 1)))) → J (nI (i + 1)) f_count f_place f_opens f_top f_fault f_faultAt f_dry f_found (fi_m g') a_there a_kind a_num a_open a_openAt a_power a_table) :
    ∀ (k : Nat) (g : Nat → Fin 5) (H : PF) (e : Nat), ys_r2 v g0 g → ys_lost v g0 g H → pf_hd H e → pf_ln (fi_s g (2 * v)) k → wY_reduce_18 post J (nI v) (nI i) (k + 2) 1 f_count f_place f_opens f_top f_fault f_faultAt f_dry f_found (fi_m g) a_there a_kind a_num a_open a_openAt a_power a_table := by
  intro k
  induction k using Nat.strongRecOn with
  | ind k ih =>
    intro g H e fr ls hH hk
    have eF : fi_s g (72 + i) = fi_s g0 (72 + i) := fr _ (by omega) (by omega) (by omega) (by omega) (by omega)
    have hF' : pf_hd (fi_s g (72 + i)) d := by rw [eF]; exact hF
    have hd20 : d < 20 := pf_hd_lt hF' (fi_s_ln _ _)
    refine br_f (by decide) ?_
    refine yc_divide (2 * v) (72 + i) 82 81 (by omega) (by omega) (by omega) (by omega) (by omega) (by omega) (by omega) hF' (fun Qp Rp hQp hRp eP => ?_) (fi_2 v) (fi_72 i)
    have hRp20 : pf_ln Rp 20 := pf_ln_mono hRp (by omega)
    -- the branch that ends: no common factor, or nothing there
    have stop : ∀ x1 : Prop, x1 → (fi_s g0 (2 * v) = pf_c 0 ∨ ¬ (pf_dv (fi_s g0 (72 + i)) (fi_s g (2 * v)) ∧ pf_dv (fi_s g0 (72 + i)) (fi_s g (2 * v + 1)))) → wY_reduce_61 post J (wY_reduce_18 post J (nI v) (nI i) (k + 1)) (nI v) (nI i) f_count f_place f_opens f_top f_fault f_faultAt f_dry f_found (fi_m (fi_p (fi_p g 81 Rp) 82 Qp)) a_there a_kind a_num a_open a_openAt a_power a_table := by
      intro _ _ hno
      unfold wY_reduce_61 wY_reduce_62
      have eF2 : fi_s (fi_p (fi_p g 81 Rp) 82 Qp) (72 + i) = fi_s g (72 + i) := by rw [fi_sq (by omega), fi_sq (by omega)]
      refine yc_divide (2 * v + 1) (72 + i) 83 81 (by omega) (by omega) (by omega) (by omega) (by omega) (by omega) (by omega) (by rw [eF2]; exact hF') (fun Q2 R2 hQ2 hR2 _ => ?_) (fi_21 v) (fi_72 i)
      refine br_t rfl ?_
      refine br_t rfl ?_
      refine br_t rfl (nm_r (nI_1 i) (hJ _ H ?_ ?_ (Or.inr ⟨e, hH⟩) ?_))
      · intro s h1 h2 h3 h4 h5
        rw [fi_sq h5, fi_sq h3, fi_sq h4, fi_sq h3]; exact fr s h1 h2 h3 h4 h5
      · refine ⟨?_, ?_⟩
        · rw [fi_sq (by omega), fi_sq (by omega), fi_sq (by omega), fi_sq (by omega)]; exact ls.1
        · rw [fi_sq (by omega), fi_sq (by omega), fi_sq (by omega), fi_sq (by omega)]; exact ls.2
      · rw [fi_sq (by omega), fi_sq (by omega), fi_sq (by omega), fi_sq (by omega), fi_sq (by omega), fi_sq (by omega), fi_sq (by omega), fi_sq (by omega)]; exact hno
    refine yc_deg 81 (by omega) (fun z => ?_) (fun e1 he1 hE => ?_)
    · rw [fi_sq (by omega), fi_sp hRp20] at z
      refine br_f (by decide) ?_
      refine yc_deg (2 * v) (by omega) (fun zP => ?_) (fun D hD hP => ?_) (fi_2 v)
      · rw [fi_sq (by omega), fi_sq (by omega)] at zP
        refine br_t (by decide) (stop True trivial (Or.inl ?_))
        rw [ls.1, zP, pf_zero_mul]
      · rw [fi_sq (by omega), fi_sq (by omega)] at hP
        refine br_f (nI_pos (by omega)) ?_
        unfold wY_reduce_62
        have eF2 : fi_s (fi_p (fi_p g 81 Rp) 82 Qp) (72 + i) = fi_s g (72 + i) := by rw [fi_sq (by omega), fi_sq (by omega)]
        have eQ2 : fi_s (fi_p (fi_p g 81 Rp) 82 Qp) (2 * v + 1) = fi_s g (2 * v + 1) := by rw [fi_sq (by omega), fi_sq (by omega)]
        refine yc_divide (2 * v + 1) (72 + i) 83 81 (by omega) (by omega) (by omega) (by omega) (by omega) (by omega) (by omega) (by rw [eF2]; exact hF') (fun Q2 R2 hQ2 hR2 eQ => ?_) (fi_21 v) (fi_72 i)
        rw [eF2, eQ2] at eQ
        have hR220 : pf_ln R2 20 := pf_ln_mono hR2 (by omega)
        refine br_f (by decide) ?_
        refine yc_deg 81 (by omega) (fun z2 => ?_) (fun e2 he2 hE2 => ?_)
        · rw [fi_sq (by omega), fi_sp hR220] at z2
          refine br_f (by decide) ?_
          unfold wY_reduce_100
          refine br_f (by decide) ?_
          refine yc_copy 82 (2 * v) (by omega) (by omega) ?_ rfl (fi_2 v)
          refine yc_copy 83 (2 * v + 1) (by omega) (by omega) ?_ rfl (fi_21 v)
          rw [z, pf_add_0] at eP
          rw [z2, pf_add_0] at eQ
          have hq := pf_hd_q hF' ⟨_, hQp⟩ (eP ▸ hP)
          have hDk := pf_hd_lt hP hk
          generalize eg : fi_p (fi_p (fi_p (fi_p g 81 Rp) 82 Qp) 81 R2) 83 Q2 = gg
          have e82 : fi_s gg 82 = Qp := by rw [← eg, fi_sq (by omega), fi_sq (by omega), fi_sp hQp]
          have e83 : fi_s (fi_p gg (2 * v) (fi_s gg 82)) 83 = Q2 := by rw [fi_sq (by omega), ← eg, fi_sp hQ2]
          obtain ⟨k', rfl⟩ : ∃ k', k = k' + 1 := ⟨k - 1, by omega⟩
          have u := ih k' (by omega) (fi_p (fi_p gg (2 * v) (fi_s gg 82)) (2 * v + 1) (fi_s (fi_p gg (2 * v) (fi_s gg 82)) 83)) (pf_mul (fi_s g (72 + i)) H) (d + e) ?_ ?_ (pf_mul_hd hF' hH) ?_
          · exact u
          · intro s h1 h2 h3 h4 h5
            rw [fi_sq h2, fi_sq h1, ← eg, fi_sq h5, fi_sq h3, fi_sq h4, fi_sq h3]; exact fr s h1 h2 h3 h4 h5
          · refine ys_lost_t ls ⟨?_, ?_⟩
            · rw [fi_sq (by omega), fi_sp (fi_s_ln _ _), e82]; exact eP
            · rw [fi_sp (fi_s_ln _ _), e83]; exact eQ
          · rw [fi_sq (by omega), fi_sp (fi_s_ln _ _), e82]
            exact pf_ln_mono hq.1.1 (by omega)
        · rw [fi_sq (by omega), fi_sp hR220] at hE2
          refine br_t (nI_pos' (by omega)) ?_
          unfold wY_reduce_99 wY_reduce_100
          refine br_t rfl ?_
          refine br_t rfl (nm_r (nI_1 i) (hJ _ H ?_ ?_ (Or.inr ⟨e, hH⟩) (Or.inr ?_)))
          · intro s h1 h2 h3 h4 h5
            rw [fi_sq h5, fi_sq h3, fi_sq h4, fi_sq h3]; exact fr s h1 h2 h3 h4 h5
          · refine ⟨?_, ?_⟩
            · rw [fi_sq (by omega), fi_sq (by omega), fi_sq (by omega), fi_sq (by omega)]; exact ls.1
            · rw [fi_sq (by omega), fi_sq (by omega), fi_sq (by omega), fi_sq (by omega)]; exact ls.2
          · rw [fi_sq (by omega), fi_sq (by omega), fi_sq (by omega), fi_sq (by omega), fi_sq (by omega), fi_sq (by omega), fi_sq (by omega), fi_sq (by omega), ← eF]
            intro dv
            have d2 := dv.2
            rw [eQ] at d2
            exact pf_hd_n0 hE2 (pf_dv_rem hF' ⟨_, hQ2⟩ hR2 d2)
    · rw [fi_sq (by omega), fi_sp hRp20] at hE
      refine br_t (nI_pos' (by omega)) (stop True trivial (Or.inr ?_))
      rw [← eF]
      intro dv
      have d1 := dv.1
      rw [eP] at d1
      exact pf_hd_n0 hE (pf_dv_rem hF' ⟨_, hQp⟩ hRp d1)
end
