/-! Partial fractions: what the top level of a factor is, from a solution of the whole system -/
theorem pf_sP_dv' {P : PF} {h : Nat → PF} {i : Nat} : ∀ m, i < m → (∀ j, j < m → j ≠ i → pf_dv P (h j)) → pf_dv P (pf_sub (pf_sP h m) (h i)) := by
  intro m
  induction m with
  | zero => intro hi; omega
  | succ m ih =>
    intro hi e
    by_cases c : i = m
    · subst c
      have d1 := pf_sP_dv0 (P := P) (h := h) (m := i) (fun j hj => e j (by omega) (by omega))
      show pf_dv P (pf_sub (pf_add (pf_sP h i) (h i)) (h i))
      rw [pf_add_sub']; exact d1
    · have d2 := pf_dv_add (ih (by omega) (fun j hj => e j (by omega))) (e m (by omega) (by omega))
      have e2 : pf_sub (pf_sP h (m + 1)) (h i) = pf_add (pf_sub (pf_sP h m) (h i)) (h m) := by
        show pf_sub (pf_add (pf_sP h m) (h m)) (h i) = _
        generalize pf_sP h m = a
        generalize h m = b
        generalize h i = c
        letI := pf_ring
        show a + b - c = a - c + b
        grind
      rw [e2]; exact d2
theorem pf_frdec {A r R : PF} {m N : Nat} {F : Nat → PF} {D n : Nat → Nat} {q : Nat → Nat → PF} {T : Nat → Nat → Fin 5} {x : Nat → Fin 5} (S : pf_Sp A r m F D n) (hN : pf_ns n D m = N)
    (q0 : ∀ i, i < m → q i 0 = A) (qs : ∀ i, i < m → ∀ j, j < n i → q i j = pf_mul (F i) (q i (j + 1))) (qh : ∀ i, i < m → ∀ j, j ≤ n i → pf_hd (q i j) (N - j * D i) ∧ j * D i ≤ N)
    (hT : ∀ i, i < m → ∀ b, b < n i * D i → ∀ k, k < N → T k (pf_ns n D i + b) = pf_mul (pf_mn 1 (b % D i)) (q i (1 + b / D i)) k) (lR : pf_ln R N)
    (hx : ∀ k, k < N → pf_sm (fun c => T k c * x c) N = R k) : ∀ i, i < m → pf_dv (pf_pow (F i) (n i)) (pf_sub R (pf_mul (q i (n i)) (pf_S x (pf_ns n D i) (F i) (D i) (n i)))) := by
  have lev : ∀ i, i < m → ∀ b, b < n i * D i → b % D i < D i ∧ 1 + b / D i ≤ n i := by
    intro i hi b hb
    have hD := (S.1 i hi).2.1
    have h1 := Nat.mod_lt b (show D i > 0 by omega)
    have h2 : b / D i < n i := (Nat.div_lt_iff_lt_mul (by omega)).mpr hb
    exact ⟨h1, by omega⟩
  have hs : pf_sP (fun i => pf_sP (fun b => pf_mul (pf_mn (x (pf_ns n D i + b)) (b % D i)) (q i (1 + b / D i))) (n i * D i)) m = R := by
    funext k
    rw [pf_sP_at]
    by_cases ck : k < N
    · rw [← hx k ck, ← hN, pf_regroup]
      apply pf_sm_congr
      intro i hi
      rw [pf_sP_at]
      apply pf_sm_congr
      intro b hb
      rw [pf_mn_sc, hT i hi b hb k (by omega)]; grind
    · rw [lR k (by omega)]
      apply pf_sm_0
      intro i hi
      rw [pf_sP_at]
      apply pf_sm_0
      intro b hb
      obtain ⟨h1, h2⟩ := lev i hi b hb
      obtain ⟨h3, h4⟩ := qh i hi (1 + b / D i) h2
      have h5 : D i ≤ (1 + b / D i) * D i := Nat.le_mul_of_pos_left _ (Nat.lt_of_lt_of_le Nat.zero_lt_one (Nat.le_add_right 1 _))
      generalize (1 + b / D i) * D i = z at h3 h4 h5
      show pf_cm k (pf_mn _ _) _ = 0
      exact pf_cm_ln k _ _ _ _ (pf_mn_ln _ _) h3.1 (by omega)
  intro i hi
  have fF : ∀ j, j < m → pf_fin (F j) := fun j hj => pf_hd_fin (S.1 j hj).1
  have fS : ∀ j, j < m → pf_fin (pf_S x (pf_ns n D j) (F j) (D j) (n j)) := fun j hj => ⟨_, pf_S_ln (S.1 j hj).1.1 _⟩
  have hfq : ∀ j, j < m → pf_fin (q j (n j)) := fun j hj => pf_hd_fin (qh j hj (n j) (Nat.le_refl _)).1
  have e1 : pf_sP (fun i => pf_mul (q i (n i)) (pf_S x (pf_ns n D i) (F i) (D i) (n i))) m = R := by
    rw [← hs]; apply pf_sP_congr
    intro j hj
    exact (pf_blk (S.1 j hj).2.1 (qs j hj) (n j) (Nat.le_refl _)).symm
  rw [← e1]
  refine pf_sP_dv' (h := fun i => pf_mul (q i (n i)) (pf_S x (pf_ns n D i) (F i) (D i) (n i))) m hi (fun j hj hji => ?_)
  apply pf_dv_mr _ (fS j hj)
  have c1 : pf_cp (F j) (pf_pow (F i) (n i)) := pf_cp_pow (fF j hj) (fF i hi) (S.2.2.2.1 j hj i hi hji) _
  have c2 : pf_cp (pf_pow (F i) (n i)) (pf_pow (F j) (n j)) := pf_cp_pow (pf_fin_pow (fF i hi) _) (fF j hj) (pf_cp_s c1) _
  apply pf_cp_dv c2 (hfq j hj)
  rw [← pf_q_pow (qs j hj) (n j) (Nat.le_refl _), q0 j hj, ← q0 i hi, pf_q_pow (qs i hi) (n i) (Nat.le_refl _)]
  exact pf_dv_mr (pf_dv_r _) (hfq i hi)
def fr_rec (F : PF) (d : Nat) (S C : Nat → PF) : Prop := (∀ l, S (l + 1) = pf_add (pf_mul F (S l)) (C l)) ∧ (∀ l, pf_ln (C l) d) ∧ ∀ l, pf_fin (S l)
theorem fr_rec_S {x : Nat → Fin 5} {o : Nat} {F : PF} {d : Nat} (hF : pf_hd F d) : fr_rec F d (pf_S x o F d) (fun l => pf_C x (o + l * d) d) :=
  ⟨fun _ => rfl, fun l => pf_C_ln x _ d, fun l => ⟨_, pf_S_ln hF.1 l⟩⟩
theorem pf_cp_nd {F B : PF} {d : Nat} (hF : pf_hd F d) (hd : 1 ≤ d) (h : pf_cp F B) : ¬ pf_dv F B := by
  intro dv
  obtain ⟨s, t, fs, ft, e⟩ := h
  have d1 : pf_dv F (pf_c 1) := by rw [← e]; exact pf_dv_add (pf_dv_ml (pf_dv_r F) fs) (pf_dv_ml dv ft)
  obtain ⟨d', _, h1, _, h2, _⟩ := pf_dv_hd d1 (pf_hd_c (by decide)) (pf_hd_fin hF)
  have := pf_hd_u hF h1
  omega
/-- one turn: the numerator at this level -/
theorem fr_step1 {F B I L S0 S1 C Q1 M : PF} {d l : Nat} (hF : pf_hd F d) (fB : pf_fin B) (fI : pf_fin I) (fL : pf_fin L) (hI : pf_cg F (pf_mul I B) (pf_c 1)) (eS : S1 = pf_add (pf_mul F S0) C) (lC : pf_ln C d) (fS : pf_fin S0)
    (P : pf_dv (pf_pow F (l + 1)) (pf_sub L (pf_mul B S1))) (fQ : pf_fin Q1) (lM : pf_ln M d) (eM : pf_mul L I = pf_add (pf_mul Q1 F) M) : M = C := by
  have ff := pf_hd_fin hF
  have fC : pf_fin C := ⟨d, lC⟩
  apply pf_cg_u hF lM lC
  have h1 : pf_cg F (pf_mul L I) M := ⟨Q1, fQ, by
    rw [eM]
    letI := pf_ring
    show Q1 * F + M - M = Q1 * F
    grind⟩
  have h2 : pf_dv F (pf_sub L (pf_mul B S1)) := pf_dv_t (pf_dv_ml (pf_dv_r F) (pf_fin_pow ff l)) P
  have h3 : pf_cg F L (pf_mul B C) := by
    have h4 : pf_dv F (pf_mul (pf_mul B S0) F) := pf_dv_ml (pf_dv_r F) (pf_fin_mul fB fS)
    have h5 := pf_dv_add h2 h4
    have e : pf_add (pf_sub L (pf_mul B S1)) (pf_mul (pf_mul B S0) F) = pf_sub L (pf_mul B C) := by
      rw [eS]
      letI := pf_ring
      show L - B * (F * S0 + C) + B * S0 * F = L - B * C
      grind
    rw [e] at h5
    exact h5
  have h6 := pf_cg_m h3 (pf_cg_r F I) fI (pf_fin_mul fB fC)
  have h7 := pf_cg_m hI (pf_cg_r F C) fC (pf_fin_c 1)
  rw [pf_one_mul] at h7
  have e : pf_mul (pf_mul B C) I = pf_mul (pf_mul I B) C := by
    letI := pf_ring
    show B * C * I = I * B * C
    grind
  rw [e] at h6
  exact pf_cg_t (pf_cg_s h1) (pf_cg_t h6 h7)
/-- one turn: what is left -/
theorem fr_step2 {F B L S0 S1 C Q R : PF} {d l : Nat} (hF : pf_hd F d) (fB : pf_fin B) (eS : S1 = pf_add (pf_mul F S0) C) (fS : pf_fin S0)
    (P : pf_dv (pf_pow F (l + 1)) (pf_sub L (pf_mul B S1))) (fQ : pf_fin Q) (lR : pf_ln R d) (eQ : pf_sub L (pf_mul C B) = pf_add (pf_mul Q F) R) : pf_dv (pf_pow F l) (pf_sub Q (pf_mul B S0)) := by
  have ff := pf_hd_fin hF
  obtain ⟨z, fz, ez⟩ := P
  have e1 : pf_sub L (pf_mul C B) = pf_add (pf_mul (pf_add (pf_mul z (pf_pow F l)) (pf_mul B S0)) F) (pf_c 0) := by
    rw [eS] at ez
    have ez2 : pf_sub L (pf_mul B (pf_add (pf_mul F S0) C)) = pf_mul z (pf_mul (pf_pow F l) F) := ez
    generalize pf_pow F l = p at ez2
    letI := pf_ring
    have ez3 : L - B * (F * S0 + C) = z * (p * F) := ez2
    show L - C * B = (z * p + B * S0) * F + 0
    grind
  have hR : R = pf_c 0 := by
    apply pf_dv_rem hF fQ lR
    rw [← eQ, e1, pf_add_0]
    exact pf_dv_ml (pf_dv_r F) (pf_fin_add (pf_fin_mul fz (pf_fin_pow ff l)) (pf_fin_mul fB fS))
  rw [hR, pf_add_0] at eQ
  rw [pf_add_0] at e1
  have e2 := pf_cancel hF fQ (pf_fin_add (pf_fin_mul fz (pf_fin_pow ff l)) (pf_fin_mul fB fS)) (eQ.symm.trans e1)
  refine ⟨z, fz, ?_⟩
  rw [e2, pf_add_sub']
theorem pf_am4 (L P : PF) : (fun k => L k + 4 * P k) = pf_sub L P := by
  funext k
  show L k + 4 * P k = L k + - P k
  generalize L k = a
  generalize P k = b
  revert a b
  decide
/-- exact division finds the quotient -/
theorem pf_exq {F A B Q R : PF} {d : Nat} (hF : pf_hd F d) (fB : pf_fin B) (eA : A = pf_mul F B) (fQ : pf_fin Q) (lR : pf_ln R d) (eQ : A = pf_add (pf_mul Q F) R) : Q = B := by
  have hR : R = pf_c 0 := by
    apply pf_dv_rem hF fQ lR
    rw [← eQ, eA]; exact pf_dv_mr (pf_dv_r F) fB
  rw [hR, pf_add_0, eA, pf_mul_comm] at eQ
  exact (pf_cancel hF fB fQ eQ).symm
theorem pf_divu {A B Q Q' R R' : PF} {d : Nat} (hB : pf_hd B d) (fQ : pf_fin Q) (fQ' : pf_fin Q') (lR : pf_ln R d) (lR' : pf_ln R' d) (e : A = pf_add (pf_mul Q B) R) (e' : A = pf_add (pf_mul Q' B) R') : Q = Q' ∧ R = R' := by
  have h1 : pf_cg B R R' := ⟨pf_sub Q' Q, pf_fin_sub fQ' fQ, by
    rw [e] at e'
    letI := pf_ring
    have e2 : Q * B + R = Q' * B + R' := e'
    show R - R' = (Q' - Q) * B
    grind⟩
  have h2 := pf_cg_u hB lR lR' h1
  refine ⟨?_, h2⟩
  apply pf_cancel hB fQ fQ'
  rw [e, h2] at e'
  letI := pf_ring
  have e2 : Q * B + R' = Q' * B + R' := e'
  show Q * B = Q' * B
  grind
theorem pf_quo_ln {F Q R L : PF} {d : Nat} (hF : pf_hd F d) (hd : 1 ≤ d) (lL : pf_ln L 9) (fQ : pf_fin Q) (lR : pf_ln R d) (e : L = pf_add (pf_mul Q F) R) : pf_ln Q 8 := by
  rcases pf_fin_hd fQ with z | ⟨t, ht⟩
  · rw [z, pf_c0]; exact fun _ _ => rfl
  · have h1 := pf_mul_hd ht hF
    have h2 : t + d < 9 := by
      by_cases c : t + d < 9
      · exact c
      · exfalso
        have h3 := lL (t + d) (by omega)
        rw [e] at h3
        have h4 : pf_mul Q F (t + d) + R (t + d) = 0 := h3
        rw [lR (t + d) (by omega)] at h4
        apply h1.2
        grind
    exact pf_ln_mono ht.1 (by omega)
