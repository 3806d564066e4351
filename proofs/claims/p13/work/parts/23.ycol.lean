/-! The reference's column -/
def ya_cw (T : Nat → Fin 5) (col e : Nat) (Q : PF) (k : Nat) : Nat → Fin 5 := fun x => if x % 9 = col ∧ x / 9 < k then (if e ≤ x / 9 then Q (x / 9 - e) else 0) else T x
theorem ya_cw0 (T : Nat → Fin 5) (col e : Nat) (Q : PF) : ya_cw T col e Q 0 = T := by
  funext x
  show (if x % 9 = col ∧ x / 9 < 0 then (if e ≤ x / 9 then Q (x / 9 - e) else 0) else T x) = T x
  rw [if_neg (by omega)]
theorem ya_cws (T : Nat → Fin 5) {col e k : Nat} (Q : PF) (hc : col < 9) : fi_u (ya_cw T col e Q k) (9 * k + col) (if e ≤ k then Q (k - e) else 0) = ya_cw T col e Q (k + 1) := by
  funext x
  show (if x = 9 * k + col then (if e ≤ k then Q (k - e) else 0) else (if x % 9 = col ∧ x / 9 < k then (if e ≤ x / 9 then Q (x / 9 - e) else 0) else T x)) = (if x % 9 = col ∧ x / 9 < k + 1 then (if e ≤ x / 9 then Q (x / 9 - e) else 0) else T x)
  by_cases c : x = 9 * k + col
  · have e1 : x / 9 = k := by omega
    rw [if_pos c, if_pos (show x % 9 = col ∧ x / 9 < k + 1 by omega), e1]
  · rw [if_neg c]
    by_cases c2 : x % 9 = col ∧ x / 9 < k
    · rw [if_pos c2, if_pos (show x % 9 = col ∧ x / 9 < k + 1 by omega)]
    · rw [if_neg c2, if_neg (show ¬ (x % 9 = col ∧ x / 9 < k + 1) by omega)]
section
variable {f_count f_place f_opens f_top f_fault f_faultAt f_dry f_found : Int32} {a_c a_there a_kind a_num a_open a_openAt a_power a_table : Nat → Int32}
theorem yc_column {post : SY → Prop} {g T : Nat → Fin 5} {xq xa xl xe xc : Int32} (q a lev e col : Nat) {d : Nat} (hq : q < 70) (ha : a < 8) (hl : lev < 20) (he : e < 20) (hc : col < 9) (hF : pf_hd (fi_s g (72 + a)) d) (qs : Nat → PF) (h0 : fi_s g q = qs 0)
    (hs : ∀ t, t < lev → qs t = pf_mul (fi_s g (72 + a)) (qs (t + 1))) (lq : ∀ t, t ≤ lev → pf_ln (qs t) 20)
    (h : ∀ g' : Nat → Fin 5, (∀ s, s ≠ 81 → s ≠ 84 → s ≠ 85 → fi_s g' s = fi_s g s) → post (f_count, f_place, f_opens, f_top, f_fault, f_faultAt, f_dry, f_found, fi_m g', a_there, a_kind, a_num, a_open, a_openAt, a_power, fi_m (ya_cw T col e (qs lev) 9)))
    (eq : xq = nI q := by rfl) (ea : xa = nI a := by rfl) (el : xl = nI lev := by rfl) (ee : xe = nI e := by rfl) (ec : xc = nI col := by rfl) : wpY_column post (f_count, f_place, f_opens, f_top, f_fault, f_faultAt, f_dry, f_found, fi_m g, a_there, a_kind, a_num, a_open, a_openAt, a_power, fi_m T) xq xa xl xe xc := by
  subst eq ea el ee ec
  have c47 : ∀ g1 : Nat → Fin 5, fi_s g1 84 = qs lev → (∀ s, s ≠ 81 → s ≠ 84 → s ≠ 85 → fi_s g1 s = fi_s g s) → ∀ m k, k + m = 9 → wY_column_47 post (nI e) (nI col) f_count f_place f_opens f_top f_fault f_faultAt f_dry f_found (m + 1) (nI k) (fi_m g1) a_there a_kind a_num a_open a_openAt a_power (fi_m (ya_cw T col e (qs lev) k)) := by
    intro g1 e84 fr m
    induction m with
    | zero =>
      intro k hk
      obtain rfl : k = 9 := by omega
      exact br_t (by decide) (h g1 fr)
    | succ m ih =>
      intro k hk
      refine br_f (nI_ge (b := 9) (by omega) (by decide)) ?_
      by_cases c : e ≤ k
      · have ex : (1680 : Int32) + nI k - nI e = nI (20 * 84 + (k - e)) := by
          have e1 : (1680 : Int32) + nI k = nI (1680 + k) := nI_add 1680 k
          rw [e1, pk_sub (by omega)]; congr 1; omega
        refine br_t (nI_le c (by omega)) ⟨pk_in _ 1800 (by omega) ex, fi_i9 (by omega) hc, nm_r ?_ (nm_r (nI_1 k) (ih (k + 1) (by omega)))⟩
        rw [← ya_cws T (qs lev) hc, if_pos c, ← fi_upd, ex, fi_9, nI_clamp (by omega), nI_clamp (by omega), ← e84, fi_s_at (by omega)]; rfl
      · refine br_f (nI_ge (by omega) (by omega)) ⟨fi_i9 (by omega) hc, nm_r ?_ (nm_r (nI_1 k) (ih (k + 1) (by omega)))⟩
        rw [← ya_cws T (qs lev) hc, if_neg c, ← fi_upd, fi_9, nI_clamp (by omega)]; rfl
  have c10 : ∀ m k (g1 : Nat → Fin 5), k + m = lev → fi_s g1 84 = qs k → (∀ s, s ≠ 81 → s ≠ 84 → s ≠ 85 → fi_s g1 s = fi_s g s) → wY_column_10 post (nI a) (nI lev) (nI e) (nI col) (m + 1) (nI k) f_count f_place f_opens f_top f_fault f_faultAt f_dry f_found (fi_m g1) a_there a_kind a_num a_open a_openAt a_power (fi_m T) := by
    intro m
    induction m with
    | zero =>
      intro k g1 hk e84 fr
      obtain rfl : k = lev := by omega
      have t := c47 g1 e84 fr 9 0 rfl
      rw [ya_cw0] at t
      exact br_t (nI_le (Nat.le_refl _) (by omega)) ⟨10, t⟩
    | succ m ih =>
      intro k g1 hk e84 fr
      have eF : fi_s g1 (72 + a) = fi_s g (72 + a) := fr _ (by omega) (by omega) (by omega)
      refine br_f (nI_ge (by omega) (by omega)) ?_
      refine yc_divide 84 (72 + a) 85 81 (by omega) (by omega) (by omega) (by omega) (by omega) (by omega) (by omega) (by rw [eF]; exact hF) (fun Q R hQ hR eQ => ?_) rfl (fi_72 a)
      rw [e84, eF] at eQ
      have hdv : pf_dv (fi_s g (72 + a)) (pf_add (pf_mul Q (fi_s g (72 + a))) R) := by
        rw [← eQ, hs k (by omega)]
        exact pf_dv_mr (pf_dv_r _) ⟨_, lq (k + 1) (by omega)⟩
      have hR0 := pf_dv_rem hF ⟨_, hQ⟩ hR hdv
      rw [hR0, pf_add_0, hs k (by omega), pf_mul_comm] at eQ
      have hQq : Q = qs (k + 1) := pf_cancel hF ⟨_, hQ⟩ ⟨_, lq (k + 1) (by omega)⟩ eQ.symm
      refine yc_copy 85 84 (by omega) (by omega) (nm_r (nI_1 k) (ih (k + 1) _ (by omega) ?_ (fun s h1 h2 h3 => ?_)))
      · rw [fi_sp (fi_s_ln _ _), fi_sp hQ]; exact hQq
      · rw [fi_sq h2, fi_sq h3, fi_sq h1]; exact fr s h1 h2 h3
  unfold wpY_column
  refine yc_copy q 84 (by omega) (by omega) ⟨lev + 1, c10 lev 0 _ (by omega) ?_ (fun s h1 h2 h3 => fi_sq h2)⟩
  rw [fi_sp (fi_s_ln _ _)]; exact h0
end
