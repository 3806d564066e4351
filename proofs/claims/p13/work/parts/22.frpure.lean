/-! The system of partial fractions has no kernel -/
theorem pf_chain {A r : PF} {m N : Nat} {F : Nat → PF} {D n : Nat → Nat} (S : pf_Sp A r m F D n) (hA : pf_hd A N) :
    ∃ q : Nat → Nat → PF, (∀ i, i < m → q i 0 = A) ∧ (∀ i, i < m → ∀ j, j < n i → q i j = pf_mul (F i) (q i (j + 1))) ∧ (∀ i, i < m → ∀ j, j ≤ n i → pf_hd (q i j) (N - j * D i) ∧ j * D i ≤ N) ∧ (∀ i, i < m → pf_cp (F i) (q i (n i))) := by
  obtain ⟨s1, s2, s3, s4, s5, s6, _⟩ := S
  have ex : ∀ i : Nat, ∃ q : PF, i < m → pf_fin q ∧ A = pf_mul q (pf_pow (F i) (n i)) := by
    intro i
    by_cases c : i < m
    · obtain ⟨q, h1, h2⟩ := s5 i c
      exact ⟨q, fun _ => ⟨h1, h2⟩⟩
    · exact ⟨pf_c 0, fun h => absurd h c⟩
  obtain ⟨Q, hQ⟩ := Classical.axiomOfChoice ex
  have h0 : ∀ i, i < m → pf_mul (Q i) (pf_pow (F i) (n i - 0)) = A := fun i hi => by rw [Nat.sub_zero]; exact (hQ i hi).2.symm
  have h1 : ∀ i, i < m → ∀ j, j < n i → pf_mul (Q i) (pf_pow (F i) (n i - j)) = pf_mul (F i) (pf_mul (Q i) (pf_pow (F i) (n i - (j + 1)))) := by
    intro i hi j hj
    have e : n i - j = (n i - (j + 1)) + 1 := by omega
    rw [e]
    show pf_mul (Q i) (pf_mul (pf_pow (F i) (n i - (j + 1))) (F i)) = _
    generalize pf_pow (F i) (n i - (j + 1)) = p
    generalize Q i = u
    generalize F i = f
    letI := pf_ring
    show u * (p * f) = f * (u * p)
    grind
  refine ⟨fun i j => pf_mul (Q i) (pf_pow (F i) (n i - j)), h0, h1, ?_, ?_⟩
  · intro i hi j hj
    have hF := (s1 i hi).1
    have e := pf_q_pow (q := fun j => pf_mul (Q i) (pf_pow (F i) (n i - j))) (h1 i hi) j hj
    have e2 : A = pf_mul (pf_mul (Q i) (pf_pow (F i) (n i - j))) (pf_pow (F i) j) := by
      rw [← h0 i hi]
      have e3 : pf_mul (Q i) (pf_pow (F i) (n i - 0)) = pf_mul (pf_pow (F i) j) (pf_mul (Q i) (pf_pow (F i) (n i - j))) := e
      rw [e3, pf_mul_comm]
    rw [e2] at hA
    exact pf_hd_q (pf_pow_hd hF j) (pf_fin_mul (hQ i hi).1 (pf_fin_pow (pf_hd_fin hF) _)) hA
  · intro i hi
    show pf_cp (F i) (pf_mul (Q i) (pf_pow (F i) (n i - n i)))
    have e : n i - n i = 0 := by omega
    rw [e]
    show pf_cp (F i) (pf_mul (Q i) (pf_c 1))
    rw [pf_mul1]
    apply pf_irr_cp (s1 i hi) (hQ i hi).1
    intro dv
    apply s6 i hi
    obtain ⟨u, fu, eu⟩ := dv
    refine ⟨u, fu, ?_⟩
    rw [(hQ i hi).2, eu]
    show pf_mul (pf_mul u (F i)) (pf_pow (F i) (n i)) = pf_mul u (pf_mul (pf_pow (F i) (n i)) (F i))
    generalize pf_pow (F i) (n i) = p
    generalize F i = f
    letI := pf_ring
    show u * f * p = u * (p * f)
    grind
theorem pf_regroup (h : Nat → Fin 5) (n D : Nat → Nat) (m : Nat) : pf_sm h (pf_ns n D m) = pf_sm (fun i => pf_sm (fun b => h (pf_ns n D i + b)) (n i * D i)) m := by
  induction m with
  | zero => rfl
  | succ m ih =>
    show pf_sm h (pf_ns n D m + n m * D m) = pf_sm (fun i => pf_sm (fun b => h (pf_ns n D i + b)) (n i * D i)) m + pf_sm (fun b => h (pf_ns n D m + b)) (n m * D m)
    rw [pf_sm_split, ih]
theorem pf_ns_find {n D : Nat → Nat} {m c : Nat} (h : c < pf_ns n D m) : ∃ i b, i < m ∧ b < n i * D i ∧ c = pf_ns n D i + b := by
  induction m with
  | zero => exact absurd h (Nat.not_lt_zero _)
  | succ m ih =>
    have h2 : c < pf_ns n D m + n m * D m := h
    by_cases c1 : c < pf_ns n D m
    · obtain ⟨i, b, h3, h4, h5⟩ := ih c1
      exact ⟨i, b, by omega, h4, h5⟩
    · exact ⟨m, c - pf_ns n D m, by omega, by omega, by omega⟩
theorem pf_mn_sc (y : Fin 5) (e : Nat) (Q : PF) (k : Nat) : pf_mul (pf_mn y e) Q k = y * pf_mul (pf_mn 1 e) Q k := by
  show pf_cm k (pf_mn y e) Q = y * pf_cm k (pf_mn 1 e) Q
  rw [pf_mn_cm, pf_mn_cm]
  by_cases c : e ≤ k
  · rw [if_pos c, if_pos c]; grind
  · rw [if_neg c, if_neg c]; grind
theorem pf_frinj {A r : PF} {m N : Nat} {F : Nat → PF} {D n : Nat → Nat} {q : Nat → Nat → PF} {T : Nat → Nat → Fin 5} (S : pf_Sp A r m F D n) (hN : pf_ns n D m = N)
    (q0 : ∀ i, i < m → q i 0 = A) (qs : ∀ i, i < m → ∀ j, j < n i → q i j = pf_mul (F i) (q i (j + 1))) (qh : ∀ i, i < m → ∀ j, j ≤ n i → pf_hd (q i j) (N - j * D i) ∧ j * D i ≤ N) (qc : ∀ i, i < m → pf_cp (F i) (q i (n i)))
    (hT : ∀ i, i < m → ∀ b, b < n i * D i → ∀ k, k < N → T k (pf_ns n D i + b) = pf_mul (pf_mn 1 (b % D i)) (q i (1 + b / D i)) k) : pf_inj T N := by
  intro x hx c hc
  have lev : ∀ i, i < m → ∀ b, b < n i * D i → b % D i < D i ∧ 1 + b / D i ≤ n i := by
    intro i hi b hb
    have hD := (S.1 i hi).2.1
    have h1 := Nat.mod_lt b (show D i > 0 by omega)
    have h2 : b / D i < n i := (Nat.div_lt_iff_lt_mul (by omega)).mpr hb
    exact ⟨h1, by omega⟩
  have hs : pf_sP (fun i => pf_sP (fun b => pf_mul (pf_mn (x (pf_ns n D i + b)) (b % D i)) (q i (1 + b / D i))) (n i * D i)) m = pf_c 0 := by
    rw [pf_c0]
    funext k
    rw [pf_sP_at]
    by_cases ck : k < N
    · rw [← hx k ck, ← hN, pf_regroup]
      apply pf_sm_congr
      intro i hi
      rw [pf_sP_at]
      apply pf_sm_congr
      intro b hb
      rw [pf_mn_sc, hT i hi b hb k (by omega)]; grind
    · apply pf_sm_0
      intro i hi
      rw [pf_sP_at]
      apply pf_sm_0
      intro b hb
      obtain ⟨h1, h2⟩ := lev i hi b hb
      obtain ⟨h3, h4⟩ := qh i hi (1 + b / D i) h2
      have h5 : D i ≤ (1 + b / D i) * D i := Nat.le_mul_of_pos_left _ (Nat.lt_of_lt_of_le Nat.zero_lt_one (Nat.le_add_right 1 _))
      generalize (1 + b / D i) * D i = z at h3 h4 h5
      show pf_cm k (pf_mn _ _) _ = 0
      exact pf_cm_ln k _ _ _ _ (pf_mn_ln _ _) h3.1 (by omega)
  obtain ⟨i, b, hi, hb, ec⟩ := pf_ns_find (n := n) (D := D) (m := m) (c := c) (by omega)
  rw [ec]
  exact pf_indep (fun i hi => ⟨(S.1 i hi).1, (S.1 i hi).2.1⟩) S.2.2.2.1 q0 qs (fun i hi => pf_hd_fin (qh i hi (n i) (Nat.le_refl _)).1) qc hs i hi b hb
