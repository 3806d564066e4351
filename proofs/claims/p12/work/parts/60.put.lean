/-! A composition's denominator isn't 0 -/
theorem pf_pow_add (f : PF) (a b : Nat) : pf_pow f (a + b) = pf_mul (pf_pow f a) (pf_pow f b) := by
  induction b with
  | zero => exact (pf_mul1 _).symm
  | succ b ih =>
    show pf_mul (pf_pow f (a + b)) f = pf_mul (pf_pow f a) (pf_mul (pf_pow f b) f)
    rw [ih, pf_mul_assoc]
theorem pf_sP_mr (h : Nat → PF) (C : PF) (n : Nat) : pf_sP (fun k => pf_mul (h k) C) n = pf_mul (pf_sP h n) C := by
  induction n with
  | zero => exact (pf_zero_mul C).symm
  | succ n ih =>
    show pf_add (pf_sP (fun k => pf_mul (h k) C) n) (pf_mul (h n) C) = pf_mul (pf_add (pf_sP h n) (h n)) C
    rw [ih, pf_mul_addl]
theorem pf_sP_z {h : Nat → PF} {n : Nat} (e : ∀ i, i < n → h i = pf_c 0) : pf_sP h n = pf_c 0 := by
  induction n with
  | zero => rfl
  | succ n ih =>
    show pf_add (pf_sP h n) (h n) = pf_c 0
    rw [ih (fun i hi => e i (by omega)), e n (by omega), pf_add_0]
theorem pr_put_cut {S P Q : PF} {e m : Nat} (he : e ≤ m) (hS : pf_ln S (e + 1)) : pr_put S P Q m = pf_mul (pr_put S P Q e) (pf_pow Q (m - e)) := by
  unfold pr_put
  have e1 : m + 1 = (e + 1) + (m - e) := by omega
  rw [e1, pf_sP_split]
  have z : pf_sP (fun i => pf_T S P Q (e + 1 + i) m) (m - e) = pf_c 0 := by
    apply pf_sP_z
    intro i hi
    rw [pr_T_top (by omega), hS (e + 1 + i) (by omega), pf_zero_mul]
  rw [z, pf_add_0, ← pf_sP_mr]
  apply pf_sP_congr
  intro k hk
  rw [pr_T_top (by omega), pr_T_top (by omega)]
  have e2 : m - k = (e - k) + (m - e) := by omega
  rw [e2, pf_pow_add]
  generalize pf_c (S k) = c
  generalize pf_pow P k = p
  generalize pf_pow Q (e - k) = a
  generalize pf_pow Q (m - e) = b
  letI := pf_ring
  show c * (p * (a * b)) = c * (p * a) * b
  grind
theorem pr_put_s {S P Q : PF} {e : Nat} : pr_put S P Q (e + 1) = pf_add (pf_mul (pf_sP (fun k => pf_T S P Q k e) (e + 1)) Q) (pf_mul (pf_c (S (e + 1))) (pf_pow P (e + 1))) := by
  unfold pr_put
  show pf_add (pf_sP (fun k => pf_T S P Q k (e + 1)) (e + 1)) (pf_T S P Q (e + 1) (e + 1)) = _
  have t : pf_T S P Q (e + 1) (e + 1) = pf_mul (pf_c (S (e + 1))) (pf_pow P (e + 1)) := by
    rw [pr_T_top (Nat.le_refl _)]
    have z : e + 1 - (e + 1) = 0 := by omega
    rw [z]
    show pf_mul (pf_c (S (e + 1))) (pf_mul (pf_pow P (e + 1)) (pf_c 1)) = _
    rw [pf_mul1]
  rw [t, ← pf_sP_mr]
  congr 1
  apply pf_sP_congr
  intro k hk
  rw [pr_T_top (by omega), pr_T_top (by omega)]
  have e2 : e + 1 - k = (e - k) + 1 := by omega
  rw [e2]
  show pf_mul _ (pf_mul _ (pf_mul (pf_pow Q (e - k)) Q)) = _
  generalize pf_c (S k) = c
  generalize pf_pow P k = p
  generalize pf_pow Q (e - k) = a
  letI := pf_ring
  show c * (p * (a * Q)) = c * (p * a) * Q
  grind
theorem pr_put_hd1 {S P : PF} {e z : Nat} (hS : pf_hd S e) (hP : pf_hd P z) (hz : 1 ≤ z) : ∃ d, pf_hd (pr_put S P (pf_c 1) e) d := by
  cases e with
  | zero =>
    refine ⟨0, ?_⟩
    show pf_hd (pf_add (pf_c 0) (pf_T S P (pf_c 1) 0 0)) 0
    have t : pf_add (pf_c 0) (pf_T S P (pf_c 1) 0 0) = pf_c (S 0) := by
      rw [pr_T_top (Nat.le_refl _)]
      show pf_add (pf_c 0) (pf_mul (pf_c (S 0)) (pf_mul (pf_c 1) (pf_c 1))) = _
      rw [pf_one_mul, pf_mul1]
      generalize pf_c (S 0) = c
      letI := pf_ring
      show 0 + c = c
      grind
    rw [t]; exact pf_hd_c hS.2
  | succ e =>
    rw [pr_put_s]
    have h1 : pf_hd (pf_mul (pf_c (S (e + 1))) (pf_pow P (e + 1))) (0 + (e + 1) * z) := pf_mul_hd (pf_hd_c hS.2) (pf_pow_hd hP (e + 1))
    have l1 : pf_ln (pf_mul (pf_sP (fun k => pf_T S P (pf_c 1) k e) (e + 1)) (pf_c 1)) (e * z + 1) := by
      rw [pf_mul1]
      exact pf_sP_ln (fun i _ => pf_T_ln hP.1 (pf_ln_mono (pf_c_ln 1) (by omega)) i e)
    have e1 : (e + 1) * z = e * z + z := Nat.succ_mul e z
    refine ⟨0 + (e + 1) * z, ?_, ?_⟩
    · exact pf_add_ln (pf_ln_mono l1 (by omega)) h1.1
    · show pf_mul _ _ (0 + (e + 1) * z) + pf_mul _ _ (0 + (e + 1) * z) ≠ 0
      rw [l1 (0 + (e + 1) * z) (by omega)]
      intro h
      apply h1.2
      grind
/-- the denominator of a composition with something that is no number -/
theorem pr_put_nz {S P Q : PF} {e m b z : Nat} (hS : pf_hd S e) (he : e ≤ m) (fP : pf_fin P) (hQ : pf_hd Q b) (mQ : Q b = 1) (c : pf_cp P Q) (hz : 1 ≤ z) (sz : pf_hd P z ∨ pf_hd Q z) : ∃ d, pf_hd (pr_put S P Q m) d := by
  rw [pr_put_cut he hS.1]
  have main : ∃ d, pf_hd (pr_put S P Q e) d := by
    by_cases cb : b = 0
    · subst cb
      obtain ⟨c1, _, ec⟩ := pf_hd0 hQ
      have c11 : c1 = 1 := by rw [ec] at mQ; exact mQ
      subst c11
      subst ec
      refine pr_put_hd1 hS ?_ hz
      rcases sz with h | h
      · exact h
      · have := pf_hd_u h hQ; omega
    · cases e with
      | zero =>
        have t : pr_put S P Q 0 = pf_c (S 0) := by
          show pf_add (pf_c 0) (pf_T S P Q 0 0) = pf_c (S 0)
          rw [pr_T_top (Nat.le_refl _)]
          show pf_add (pf_c 0) (pf_mul (pf_c (S 0)) (pf_mul (pf_c 1) (pf_c 1))) = _
          rw [pf_one_mul, pf_mul1]
          generalize pf_c (S 0) = c
          letI := pf_ring
          show 0 + c = c
          grind
        rw [t]; exact ⟨0, pf_hd_c hS.2⟩
      | succ e =>
        have fT : pf_fin (pf_sP (fun k => pf_T S P Q k e) (e + 1)) := by
          obtain ⟨n1, h1⟩ := fP
          exact ⟨e * (n1 + b) + 1, pf_sP_ln (fun i _ => pf_T_ln (z := n1 + b) (pf_ln_mono h1 (by omega)) (pf_ln_mono hQ.1 (by omega)) i e)⟩
        have ff : pf_fin (pr_put S P Q (e + 1)) := by
          rw [pr_put_s]
          exact pf_fin_add (pf_fin_mul fT (pf_hd_fin hQ)) (pf_fin_mul (pf_fin_c _) (pf_fin_pow fP _))
        rcases pf_fin_hd ff with zz | hd
        · exfalso
          rw [pr_put_s] at zz
          -- Q divides the last term, so it divides a number
          have d1 : pf_dv Q (pf_mul (pf_c (S (e + 1))) (pf_pow P (e + 1))) := by
            have d2 : pf_dv Q (pf_sub (pf_c 0) (pf_mul (pf_sP (fun k => pf_T S P Q k e) (e + 1)) Q)) := pf_dv_sub (pf_dv_0 Q) (pf_dv_ml (pf_dv_r Q) fT)
            have e3 : pf_mul (pf_c (S (e + 1))) (pf_pow P (e + 1)) = pf_sub (pf_c 0) (pf_mul (pf_sP (fun k => pf_T S P Q k e) (e + 1)) Q) := by
              generalize pf_mul (pf_c (S (e + 1))) (pf_pow P (e + 1)) = u at zz
              generalize pf_mul (pf_sP (fun k => pf_T S P Q k e) (e + 1)) Q = v at zz
              letI := pf_ring
              have z1 : v + u = 0 := zz
              show u = 0 - v
              grind
            rw [e3]; exact d2
          have cq : pf_cp Q (pf_pow P (e + 1)) := pf_cp_pow (pf_hd_fin hQ) fP (pf_cp_s c) _
          rw [pf_mul_comm] at d1
          have d4 := pf_cp_dv cq (pf_fin_c _) d1
          exact pf_nd_lt hQ (pf_hd_c hS.2) (by omega) d4
        · exact hd
  obtain ⟨d, hd⟩ := main
  exact ⟨_, pf_mul_hd hd (pf_pow_hd hQ (m - e))⟩
theorem pf_hn_sh {P : PF} {x : Fin 5} {t : Nat} (h : P (t + 1) = 0) : ∀ m, pf_hn P x (t + 1) (m + 1) = pf_hn P x t m := by
  intro m
  induction m with
  | zero =>
    show 0 * x + P (t + 1 - 0) = 0
    rw [Nat.sub_zero, h]; grind
  | succ m ih =>
    show pf_hn P x (t + 1) (m + 1) * x + P (t + 1 - (m + 1)) = pf_hn P x t m * x + P (t - m)
    have e : t + 1 - (m + 1) = t - m := by omega
    rw [ih, e]
/-- at a number the composition is the value -/
theorem pr_put_num {S : PF} {c : Fin 5} {m : Nat} : pr_put S (pf_c c) (pf_c 1) m = pf_c (pf_hn S c m (m + 1)) := by
  have one : ∀ n, pf_pow (pf_c 1) n = pf_c 1 := by
    intro n
    induction n with
    | zero => rfl
    | succ n ih => show pf_mul (pf_pow (pf_c 1) n) (pf_c 1) = pf_c 1; rw [ih, pf_mul1]
  have key : ∀ r, r ≤ m + 1 → pr_put S (pf_c c) (pf_c 1) m = pf_add (pf_mul (pf_c (pf_hn S c m r)) (pf_pow (pf_c c) (m + 1 - r))) (pf_sP (fun k => pf_T S (pf_c c) (pf_c 1) k m) (m + 1 - r)) := by
    intro r
    induction r with
    | zero =>
      intro _
      show pf_sP _ (m + 1) = pf_add (pf_mul (pf_c 0) _) (pf_sP _ (m + 1))
      rw [pf_zero_mul]
      generalize pf_sP (fun k => pf_T S (pf_c c) (pf_c 1) k m) (m + 1) = T
      letI := pf_ring
      show T = 0 + T
      grind
    | succ r ih =>
      intro hr
      rw [ih (by omega)]
      have e1 : m + 1 - r = (m - r) + 1 := by omega
      have e2 : m + 1 - (r + 1) = m - r := by omega
      rw [e1, e2]
      show pf_add (pf_mul _ (pf_mul (pf_pow (pf_c c) (m - r)) (pf_c c))) (pf_add (pf_sP (fun k => pf_T S (pf_c c) (pf_c 1) k m) (m - r)) (pf_T S (pf_c c) (pf_c 1) (m - r) m)) = _
      rw [pr_T_top (by omega), one]
      have e3 : pf_c (pf_hn S c m (r + 1)) = pf_add (pf_mul (pf_c (pf_hn S c m r)) (pf_c c)) (pf_c (S (m - r))) := by
        rw [pf_c_mul]
        show pf_c (pf_hn S c m r * c + S (m - r)) = _
        funext k
        show (if k = 0 then _ else 0) = (if k = 0 then _ else 0) + (if k = 0 then _ else 0)
        by_cases hk : k = 0
        · rw [if_pos hk, if_pos hk, if_pos hk]
        · rw [if_neg hk, if_neg hk, if_neg hk]; decide
      rw [e3]
      generalize pf_sP (fun k => pf_T S (pf_c c) (pf_c 1) k m) (m - r) = T
      generalize pf_pow (pf_c c) (m - r) = p
      generalize pf_c (pf_hn S c m r) = u
      generalize pf_c (S (m - r)) = s
      generalize pf_c c = x
      letI := pf_ring
      show u * (p * x) + (T + s * (p * 1)) = (u * x + s) * p + T
      grind
  have t := key (m + 1) (Nat.le_refl _)
  have z : m + 1 - (m + 1) = 0 := by omega
  rw [z] at t
  rw [t]
  show pf_add (pf_mul _ (pf_c 1)) (pf_c 0) = _
  rw [pf_mul1, pf_add_0]
