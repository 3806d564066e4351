/-! The reference's flip, large, isZero, derive, put -/
theorem pf_pow_ln {P : PF} {z : Nat} (h : pf_ln P (z + 1)) (n : Nat) : pf_ln (pf_pow P n) (n * z + 1) := by
  induction n with
  | zero => rw [Nat.zero_mul]; exact pf_c_ln 1
  | succ n ih => rw [Nat.succ_mul]; exact pf_mul_ln ih h
def pf_dr (f : PF) : PF := fun k => Fin.ofNat 5 (k + 1) * f (k + 1)
def pf_T (S P Q : PF) (k j : Nat) : PF := pf_mul (pf_c (S k)) (pf_mul (pf_pow P (if j ≤ k then j else k)) (pf_pow Q (j - k)))
theorem pf_T_ln {S P Q : PF} {z : Nat} (hP : pf_ln P (z + 1)) (hQ : pf_ln Q (z + 1)) (k j : Nat) : pf_ln (pf_T S P Q k j) (j * z + 1) := by
  apply pf_c_ml
  have h := pf_mul_ln (pf_pow_ln hP (if j ≤ k then j else k)) (pf_pow_ln hQ (j - k))
  rw [← Nat.add_mul] at h
  have e : (if j ≤ k then j else k) + (j - k) = j := by
    by_cases c : j ≤ k
    · rw [if_pos c]; omega
    · rw [if_neg c]; omega
  rw [e] at h
  exact h
theorem pf_T_s1 {S P Q : PF} {k j : Nat} (h : j < k) : pf_T S P Q k (j + 1) = pf_mul (pf_T S P Q k j) P := by
  unfold pf_T
  have e1 : j + 1 - k = 0 := by omega
  have e2 : j - k = 0 := by omega
  rw [if_pos (by omega), if_pos (by omega), e1, e2]
  show pf_mul _ (pf_mul (pf_mul (pf_pow P j) P) _) = _
  generalize pf_pow P j = p
  generalize pf_pow Q 0 = q
  generalize pf_c (S k) = c
  letI := pf_ring
  show c * ((p * P) * q) = c * (p * q) * P
  grind
theorem pf_T_s2 {S P Q : PF} {k j : Nat} (h : ¬ j < k) : pf_T S P Q k (j + 1) = pf_mul (pf_T S P Q k j) Q := by
  unfold pf_T
  have e1 : j + 1 - k = (j - k) + 1 := by omega
  have e3 : (if j ≤ k then j else k) = k := by
    by_cases c : j ≤ k
    · rw [if_pos c]; omega
    · rw [if_neg c]
  rw [if_neg (by omega), e1, e3]
  show pf_mul _ (pf_mul _ (pf_mul (pf_pow Q (j - k)) Q)) = _
  generalize pf_pow P k = p
  generalize pf_pow Q (j - k) = q
  generalize pf_c (S k) = c
  letI := pf_ring
  show c * (p * (q * Q)) = c * (p * q) * Q
  grind
theorem pf_sP_ln {h : Nat → PF} {n N : Nat} (hh : ∀ i, i < n → pf_ln (h i) N) : pf_ln (pf_sP h n) N := by
  induction n with
  | zero => intro k _; show pf_c 0 k = 0; rw [pf_c0]
  | succ n ih => exact pf_add_ln (ih (fun i hi => hh i (by omega))) (hh n (by omega))
section
variable {f_count f_place f_opens f_top f_fault f_faultAt f_dry f_found : Int32} {a_c a_there a_kind a_num a_open a_openAt a_power a_table : Nat → Int32}
theorem yc_flip {post : SY → Prop} {g : Nat → Fin 5} {xv : Int32} (v : Nat) (hv : 2 * v + 1 < 52)
    (h : ∀ g' : Nat → Fin 5, (∀ s, s ≠ 2 * v → s ≠ 2 * v + 1 → s < 70 → fi_s g' s = fi_s g s) →
      ((fi_s g (2 * v + 1) = pf_c 0 ∧ fi_s g' (2 * v) = pf_c 0 ∧ fi_s g' (2 * v + 1) = pf_c 1) ∨
       (fi_s g (2 * v + 1) ≠ pf_c 0 ∧ ∃ c : Fin 5, (∀ d, pf_hd (fi_s g (2 * v)) d → c = fi_s g (2 * v) d * fi_s g (2 * v) d * fi_s g (2 * v) d) ∧ fi_s g' (2 * v) = pf_mul (pf_c c) (fi_s g (2 * v + 1)) ∧ fi_s g' (2 * v + 1) = pf_mul (pf_c c) (fi_s g (2 * v)))) → post (f_count, f_place, f_opens, f_top, f_fault, f_faultAt, f_dry, f_found, fi_m g', a_there, a_kind, a_num, a_open, a_openAt, a_power, a_table))
    (ev : xv = nI v := by rfl) : wpY_flip post (f_count, f_place, f_opens, f_top, f_fault, f_faultAt, f_dry, f_found, fi_m g, a_there, a_kind, a_num, a_open, a_openAt, a_power, a_table) xv := by
  subst ev
  unfold wpY_flip
  refine yc_copy (2 * v) 88 (by omega) (by omega) ?_ (fi_2 v)
  refine yc_copy (2 * v + 1) (2 * v) (by omega) (by omega) ?_ (fi_21 v) (fi_2 v)
  refine yc_copy 88 (2 * v + 1) (by omega) (by omega) ?_ rfl (fi_21 v)
  generalize eg : fi_p _ (2 * v + 1) _ = gg
  have o : ∀ s, s ≠ 2 * v → s ≠ 2 * v + 1 → s < 70 → fi_s gg s = fi_s g s := fun s h1 h2 h3 => by
    rw [← eg, fi_sq h2, fi_sq h1, fi_sq (by omega)]
  have o0 : fi_s gg (2 * v) = fi_s g (2 * v + 1) := by
    rw [← eg, fi_sq (by omega), fi_sp (fi_s_ln _ _), fi_sq (by omega)]
  have o1 : fi_s gg (2 * v + 1) = fi_s g (2 * v) := by
    rw [← eg, fi_sp (fi_s_ln _ _), fi_sq (by omega), fi_sp (fi_s_ln _ _)]
  refine yc_settle v (by omega) (fun z => ?_) (fun c nz hc => ?_)
  · refine h _ (fun s h1 h2 h3 => ?_) (Or.inl ⟨?_, ?_, ?_⟩)
    · rw [fi_sq h2]; exact o s h1 h2 h3
    · rw [← o0]; exact z
    · rw [fi_sq (by omega)]; exact z
    · exact fi_sp (pf_ln_mono (pf_c_ln 1) (by omega))
  · refine h _ (fun s h1 h2 h3 => ?_) (Or.inr ⟨?_, c, ?_, ?_, ?_⟩)
    · rw [fi_sq h2, fi_sq h1]; exact o s h1 h2 h3
    · rw [← o0]; exact nz
    · rw [o1] at hc; exact hc
    · rw [fi_sq (by omega), fi_sp (pf_c_ml _ (fi_s_ln _ _)), o0]
    · rw [fi_sp (pf_c_ml _ (fi_s_ln _ _)), o1]
theorem yc_large {post : SY → Prop} {g : Nat → Fin 5} {xv xat : Int32} (v : Nat) (hv : 2 * v + 1 < 90)
    (h1 : pf_ln (fi_s g (2 * v)) 9 → pf_ln (fi_s g (2 * v + 1)) 9 → post (f_count, f_place, f_opens, f_top, 0, f_faultAt, f_dry, f_found, fi_m g, a_there, a_kind, a_num, a_open, a_openAt, a_power, a_table))
    (h2 : ¬ (pf_ln (fi_s g (2 * v)) 9 ∧ pf_ln (fi_s g (2 * v + 1)) 9) → post (f_count, f_place, f_opens, f_top, 4, xat, f_dry, f_found, fi_m g, a_there, a_kind, a_num, a_open, a_openAt, a_power, a_table)) (ev : xv = nI v := by rfl) : wpY_large post (f_count, f_place, f_opens, f_top, 0, f_faultAt, f_dry, f_found, fi_m g, a_there, a_kind, a_num, a_open, a_openAt, a_power, a_table) xv xat := by
  subst ev
  unfold wpY_large
  refine yc_size v hv (fun z hz la lb hx => ?_)
  by_cases c : z ≤ 8
  · exact br_t (nI_le (b := 8) c (by decide)) (h1 (pf_ln_mono la (by omega)) (pf_ln_mono lb (by omega)))
  · refine br_f (nI_ge (a := 8) (by omega) (by omega)) (br_t rfl (h2 (fun l => ?_)))
    rcases hx with h | h | h
    · omega
    · have := pf_hd_lt h l.1; omega
    · have := pf_hd_lt h l.2; omega
theorem yc_isZero {post : Int32 → Prop} {g : Nat → Fin 5} {xv : Int32} (v : Nat) (hv : 2 * v + 1 < 90) (h0 : fi_s g (2 * v) ≠ pf_c 0 → post 0) (h1 : fi_s g (2 * v) = pf_c 0 → post 1) (ev : xv = nI v := by rfl) : wpY_isZero post (f_count, f_place, f_opens, f_top, f_fault, f_faultAt, f_dry, f_found, fi_m g, a_there, a_kind, a_num, a_open, a_openAt, a_power, a_table) xv := by
  subst ev
  unfold wpY_isZero
  exact yc_deg (2 * v) (by omega) (fun z => br_f (by decide) (h1 z)) (fun d hd hD => br_t (nI_pos' (by omega)) (h0 (pf_hd_n0 hD))) (fi_2 v)
theorem yc_derive {post : SY → Prop} {g : Nat → Fin 5} {xa xt : Int32} (a t : Nat) (ha : a < 90) (ht : t < 90) (hat : a ≠ t)
    (h : post (f_count, f_place, f_opens, f_top, f_fault, f_faultAt, f_dry, f_found, fi_m (fi_p g t (pf_dr (fi_s g a))), a_there, a_kind, a_num, a_open, a_openAt, a_power, a_table)) (ea : xa = nI a := by rfl) (et : xt = nI t := by rfl) : wpY_derive post (f_count, f_place, f_opens, f_top, f_fault, f_faultAt, f_dry, f_found, fi_m g, a_there, a_kind, a_num, a_open, a_openAt, a_power, a_table) xa xt := by
  subst ea et
  have key : ∀ d j, j + d = 19 → wY_derive_8 post (nI a) (nI t) f_count f_place f_opens f_top f_fault f_faultAt f_dry f_found (d + 1) (nI (j + 1)) (fi_m (fi_p g t (fun k => if k < j then pf_dr (fi_s g a) k else 0))) a_there a_kind a_num a_open a_openAt a_power a_table := by
    intro d
    induction d with
    | zero =>
      intro j hj
      obtain rfl : j = 19 := by omega
      refine br_t (by decide) ?_
      have e : fi_p g t (fun k => if k < 19 then pf_dr (fi_s g a) k else 0) = fi_p g t (pf_dr (fi_s g a)) := by
        apply fi_pc
        intro k hk
        by_cases c : k < 19
        · rw [if_pos c]
        · obtain rfl : k = 19 := by omega
          rw [if_neg c]
          show 0 = Fin.ofNat 5 20 * fi_s g a 20
          rw [fi_s_ln g a 20 (by omega)]; decide
      rw [e]; exact h
    | succ d ih =>
      intro j hj
      have ex : (20 : Int32) * nI t + nI (j + 1) - 1 = nI (20 * t + j) := by rw [fi_ix]; exact nI_pred (20 * t + j)
      refine br_f (fi_n20 (by omega)) ⟨fi_in ha (by omega), yc_mod (x := pf_dr (fi_s g a) j) ?_ ⟨pk_in (20 * t + j) 1800 (by omega) ex, nm_r ?_ (nm_r (nI_1 (j + 1)) (ih (j + 1) (by omega)))⟩⟩
      · rw [fi_rd ha (by omega), fi_sq hat]
        exact fi_mk ⟨j + 1, by omega⟩ (fi_s g a (j + 1))
      · rw [ex, nI_clamp (by omega)]
        apply fi_pu (by omega)
        intro k hk
        by_cases c : k = j
        · rw [if_pos (by omega), if_pos c, c]
        · rw [if_neg c]
          by_cases c2 : k < j
          · rw [if_pos c2, if_pos (by omega)]
          · rw [if_neg c2, if_neg (by omega)]
  unfold wpY_derive
  refine yc_become t ht ?_
  have u := key 19 0 rfl
  have e : fi_p g t (pf_c (fi_z 0)) = fi_p g t (fun k => if k < 0 then pf_dr (fi_s g a) k else 0) := by
    apply fi_pc
    intro k hk
    have : fi_z 0 = 0 := by decide
    rw [this, pf_c0, if_neg (by omega)]
  rw [← e] at u
  exact ⟨20, u⟩
end
