/-! Factors of a multiple by a number; what is left of a monic polynomial is monic -/
theorem pf_dv_cm {c : Fin 5} (hc : c ≠ 0) {f a : PF} (h : pf_dv f (pf_mul (pf_c c) a)) : pf_dv f a := by
  have h2 := pf_dv_ml h (pf_fin_c (c * c * c))
  rw [pf_c_inv' hc] at h2
  exact h2
theorem pf_Sp_c {a r : PF} {m : Nat} {F : Nat → PF} {D n : Nat → Nat} {c : Fin 5} (hc : c ≠ 0) (S : pf_Sp a r m F D n) : pf_Sp (pf_mul (pf_c c) a) (pf_mul (pf_c c) r) m F D n := by
  obtain ⟨s1, s2, s3, s4, s5, s6, G, hG, ea, cG⟩ := S
  refine ⟨s1, s2, fun i hi h => s3 i hi (pf_dv_cm hc h), s4, fun i hi => pf_dv_ml (s5 i hi) (pf_fin_c c), fun i hi h => s6 i hi (pf_dv_cm hc h), G, hG, ?_, cG⟩
  rw [ea, pf_mul_assoc]
theorem pf_so_c {r : PF} {m : Nat} {F : Nat → PF} {D : Nat → Nat} {c : Fin 5} (hc : c ≠ 0) (S : pf_so r m F D) : pf_so (pf_mul (pf_c c) r) m F D :=
  pf_so_dv S ⟨pf_c (c * c * c), pf_fin_c _, (pf_c_inv' hc r).symm⟩
theorem pf_pow_top {F : PF} {d : Nat} (hF : pf_hd F d) (h1 : F d = 1) (k : Nat) : pf_pow F k (k * d) = 1 := by
  induction k with
  | zero => rw [Nat.zero_mul]; rfl
  | succ k ih =>
    show pf_cm ((k + 1) * d) (pf_pow F k) F = 1
    rw [Nat.succ_mul, pf_cm_top (k * d) _ _ d (pf_pow_hd hF k).1 hF.1, ih, h1]
    decide
theorem pf_mon_q {R R' F : PF} {d e e' k : Nat} (hF : pf_hd F d) (h1 : F d = 1) (hR : pf_hd R e) (hR1 : R e = 1) (hR' : pf_hd R' e') (er : R = pf_mul R' (pf_pow F k)) : R' e' = 1 := by
  have h2 := pf_mul_hd hR' (pf_pow_hd hF k)
  rw [← er] at h2
  have h3 := pf_hd_u hR h2
  have h4 : R (e' + k * d) = R' e' * pf_pow F k (k * d) := by
    rw [er]; exact pf_cm_top e' _ _ (k * d) hR'.1 (pf_pow_hd hF k).1
  rw [← h3, hR1, pf_pow_top hF h1] at h4
  grind
def xk_ap {α : Type} (f : Nat → α) (m : Nat) (x : α) : Nat → α := fun i => if i = m then x else f i
theorem xk_ap_m {α : Type} (f : Nat → α) (m : Nat) (x : α) : xk_ap f m x m = x := if_pos rfl
theorem xk_ap_n {α : Type} {f : Nat → α} {m i : Nat} {x : α} (h : i < m) : xk_ap f m x i = f i := if_neg (by omega)
theorem pf_keep {A r r' : PF} {m k d t : Nat} {F : Nat → PF} {D n : Nat → Nat} (S : pf_Sp A r m F D n) (so : pf_so r m F D)
    (hf : pf_irr (pf_mk d t) d) (hk : 1 ≤ k) (er : r = pf_mul r' (pf_pow (pf_mk d t) k)) (nd : ¬ pf_dv (pf_mk d t) r') (fr : pf_fin r') (ht : t < 5 ^ d)
    (hs : ∀ e s, 1 ≤ e → s < 5 ^ e → pf_dv (pf_mk e s) r' → 5 ^ d + t < 5 ^ e + s) :
    pf_Sp A r' (m + 1) (xk_ap F m (pf_mk d t)) (xk_ap D m d) (xk_ap n m k) ∧ pf_so r' (m + 1) (xk_ap F m (pf_mk d t)) (xk_ap D m d) := by
  have ff := pf_hd_fin hf.1
  have dv : pf_dv (pf_mk d t) r := by
    rw [er]
    obtain ⟨k', rfl⟩ : ∃ k', k = k' + 1 := ⟨k - 1, by omega⟩
    exact pf_dv_ml (pf_dv_ml (pf_dv_r _) (pf_fin_pow ff k')) fr
  have dr : pf_dv r' r := ⟨pf_pow (pf_mk d t) k, pf_fin_pow ff k, by rw [er, pf_mul_comm]⟩
  exact ⟨pf_Sp_step S hf hk er nd fr (fun i hi => xk_ap_n hi) (fun i hi => xk_ap_n hi) (fun i hi => xk_ap_n hi) (xk_ap_m _ _ _) (xk_ap_m _ _ _) (xk_ap_m _ _ _),
    pf_so_step so hf.2.1 ht dv dr hs (fun i hi => xk_ap_n hi) (fun i hi => xk_ap_n hi) (xk_ap_m _ _ _) (xk_ap_m _ _ _)⟩
