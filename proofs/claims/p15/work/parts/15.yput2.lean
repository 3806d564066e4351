/-! The reference's put -/
section
variable {f_count f_place f_opens f_top f_fault f_faultAt f_dry f_found : Int32} {a_c a_there a_kind a_num a_open a_openAt a_power a_table : Nat → Int32}
theorem yc_put {post : SY → Prop} {g : Nat → Fin 5} {xs xw xm xt : Int32} (s w m t z : Nat) (hs : s < 68) (hw : 2 * w + 1 < 68) (hm : m ≤ 8) (ht : 84 ≤ t) (ht2 : t < 90)
    (lP : pf_ln (fi_s g (2 * w)) (z + 1)) (lQ : pf_ln (fi_s g (2 * w + 1)) (z + 1)) (hz : m * z ≤ 8)
    (h : ∀ g' : Nat → Fin 5, (∀ q, q ≠ 68 → q ≠ 69 → q ≠ t → fi_s g' q = fi_s g q) → fi_s g' t = pf_sP (fun k => pf_T (fi_s g s) (fi_s g (2 * w)) (fi_s g (2 * w + 1)) k m) (m + 1) → post (f_count, f_place, f_opens, f_top, f_fault, f_faultAt, f_dry, f_found, fi_m g', a_there, a_kind, a_num, a_open, a_openAt, a_power, a_table))
    (es : xs = nI s := by rfl) (ew : xw = nI w := by rfl) (em : xm = nI m := by rfl) (et : xt = nI t := by rfl) : wpY_put post (f_count, f_place, f_opens, f_top, f_fault, f_faultAt, f_dry, f_found, fi_m g, a_there, a_kind, a_num, a_open, a_openAt, a_power, a_table) xs xw xm xt := by
  subst es ew em et
  generalize eS : fi_s g s = S
  generalize eP : fi_s g (2 * w) = P at lP
  generalize eQ : fi_s g (2 * w + 1) = Q at lQ
  rw [eS, eP, eQ] at h
  have lT : ∀ k j, j ≤ m → pf_ln (pf_T S P Q k j) 9 := fun k j hj => pf_ln_mono (pf_T_ln lP lQ k j) (by have := Nat.mul_le_mul_right z hj; omega)
  have lT20 : ∀ k j, j ≤ m → pf_ln (pf_T S P Q k j) 20 := fun k j hj => pf_ln_mono (lT k j hj) (by omega)
  have inner : ∀ (J : Int32 → Int32 → Int32 → Int32 → Int32 → Int32 → Int32 → Int32 → Int32 → (Nat → Int32) → (Nat → Int32) → (Nat → Int32) → (Nat → Int32) → (Nat → Int32) → (Nat → Int32) → (Nat → Int32) → (Nat → Int32) → Prop) (k : Nat) (U : PF), k ≤ m →
      (∀ g' : Nat → Fin 5, (∀ q, q ≠ 68 → q ≠ 69 → q ≠ t → fi_s g' q = fi_s g q) → fi_s g' t = pf_add U (pf_T S P Q k m) → J (nI (k + 1)) f_count f_place f_opens f_top f_fault f_faultAt f_dry f_found (fi_m g') a_there a_kind a_num a_open a_openAt a_power a_table) →
      ∀ d j (g1 : Nat → Fin 5), j + d = m → (∀ q, q ≠ 68 → q ≠ 69 → q ≠ t → fi_s g1 q = fi_s g q) → fi_s g1 t = U → pf_ln U 20 → fi_s g1 68 = pf_T S P Q k j →
      wY_put_37 post J (nI s) (nI w) (nI m) (nI t) (nI k) (d + 1) (nI j) f_count f_place f_opens f_top f_fault f_faultAt f_dry f_found (fi_m g1) a_there a_kind a_num a_open a_openAt a_power a_table := by
    intro J k U hk hJ d
    induction d with
    | zero =>
      intro j g1 hj fr eU lU e68
      obtain rfl : j = m := by omega
      refine br_t (nI_le (Nat.le_refl _) (by omega)) ?_
      refine yc_add t 68 1 (by omega) (by omega) (by omega) (fun a b => by rw [fi_m1]; grind) ?_
      rw [eU, e68]
      refine nm_r (nI_1 k) (hJ _ (fun q h1 h2 h3 => ?_) ?_)
      · rw [fi_sq h3]; exact fr q h1 h2 h3
      · have e : (fun k_1 => U k_1 + 1 * pf_T S P Q k j k_1) = pf_add U (pf_T S P Q k j) := by
          funext x; show U x + 1 * pf_T S P Q k j x = U x + pf_T S P Q k j x; grind
        rw [e, fi_sp (pf_add_ln lU (lT20 k j (by omega)))]
    | succ d ih =>
      intro j g1 hj fr eU lU e68
      refine br_f (nI_ge (by omega) (by omega)) ?_
      by_cases c : j < k
      · refine br_f (nI_ge c (by omega)) ?_
        unfold wY_put_64
        refine yc_product 68 (2 * w) 69 (by omega) (by omega) (by omega) (by omega) (by omega) ?_ rfl (fi_2 w)
        refine yc_copy 69 68 (by omega) (by omega) (nm_r (nI_1 j) ?_)
        have lp : pf_ln (pf_mul (fi_s g1 68) (fi_s g1 (2 * w))) 20 := by
          rw [e68, fr _ (by omega) (by omega) (by omega), eP, ← pf_T_s1 c]; exact lT20 k (j + 1) (by omega)
        refine ih (j + 1) _ (by omega) (fun q h1 h2 h3 => ?_) ?_ lU ?_
        · rw [fi_sq h1, fi_sq h2]; exact fr q h1 h2 h3
        · rw [fi_sq (by omega), fi_sq (by omega)]; exact eU
        · rw [fi_sp (fi_s_ln _ _), fi_sp lp, e68, fr _ (by omega) (by omega) (by omega), eP, ← pf_T_s1 c]
      · refine br_t (nI_le (by omega) (by omega)) ?_
        unfold wY_put_64
        refine yc_product 68 (2 * w + 1) 69 (by omega) (by omega) (by omega) (by omega) (by omega) ?_ rfl (fi_21 w)
        refine yc_copy 69 68 (by omega) (by omega) (nm_r (nI_1 j) ?_)
        have lp : pf_ln (pf_mul (fi_s g1 68) (fi_s g1 (2 * w + 1))) 20 := by
          rw [e68, fr _ (by omega) (by omega) (by omega), eQ, ← pf_T_s2 c]; exact lT20 k (j + 1) (by omega)
        refine ih (j + 1) _ (by omega) (fun q h1 h2 h3 => ?_) ?_ lU ?_
        · rw [fi_sq h1, fi_sq h2]; exact fr q h1 h2 h3
        · rw [fi_sq (by omega), fi_sq (by omega)]; exact eU
        · rw [fi_sp (fi_s_ln _ _), fi_sp lp, e68, fr _ (by omega) (by omega) (by omega), eQ, ← pf_T_s2 c]
  have outer : ∀ d k (g1 : Nat → Fin 5), k + d = m + 1 → (∀ q, q ≠ 68 → q ≠ 69 → q ≠ t → fi_s g1 q = fi_s g q) → fi_s g1 t = pf_sP (fun k => pf_T S P Q k m) k →
      wY_put_10 post (nI s) (nI w) (nI m) (nI t) (d + 1) (nI k) f_count f_place f_opens f_top f_fault f_faultAt f_dry f_found (fi_m g1) a_there a_kind a_num a_open a_openAt a_power a_table := by
    intro d
    induction d with
    | zero =>
      intro k g1 hk fr eU
      obtain rfl : k = m + 1 := by omega
      exact br_t (nI_lt (by omega) (by omega)) (h g1 fr eU)
    | succ d ih =>
      intro k g1 hk fr eU
      refine br_f (nI_nlt (by omega) (by omega)) ⟨fi_in (by omega) (by omega), ?_⟩
      rw [fi_rd (by omega) (by omega), fr s (by omega) (by omega) (by omega), eS]
      refine yc_become 68 (by omega) ⟨m + 1, ?_⟩
      rw [fi_zi]
      have lU : pf_ln (pf_sP (fun k => pf_T S P Q k m) k) 20 := pf_sP_ln (fun i _ => lT20 i m (by omega))
      refine inner _ k (pf_sP (fun k => pf_T S P Q k m) k) (by omega) (fun g' fr' e' => ih (k + 1) g' (by omega) fr' e') m 0 _ (by omega) (fun q h1 h2 h3 => ?_) ?_ lU ?_
      · rw [fi_sq h1]; exact fr q h1 h2 h3
      · rw [fi_sq (by omega)]; exact eU
      · rw [fi_sp (pf_ln_mono (pf_c_ln _) (by omega))]
        unfold pf_T
        rw [if_pos (Nat.zero_le _), Nat.zero_sub]
        show _ = pf_mul (pf_c (S k)) (pf_mul (pf_c 1) (pf_c 1))
        rw [pf_one_mul, pf_mul1]
  unfold wpY_put
  refine yc_become t (by omega) ⟨m + 2, ?_⟩
  have z0 : fi_z 0 = 0 := by decide
  rw [z0]
  refine outer (m + 1) 0 _ (by omega) (fun q h1 h2 h3 => fi_sq h3) ?_
  rw [fi_sp (pf_ln_mono (pf_c_ln _) (by omega))]
  rfl
end
