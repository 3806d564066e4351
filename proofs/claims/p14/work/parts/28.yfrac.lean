/-! The reference's fraction ends -/
def ys_4 (g g' : Nat → Fin 5) : Prop := ∀ s, s ≠ 81 → s ≠ 84 → s ≠ 85 → fi_s g' s = fi_s g s
theorem pf_ns_mono (n D : Nat → Nat) {i j : Nat} (h : i ≤ j) : pf_ns n D i ≤ pf_ns n D j := by
  induction j with
  | zero =>
    obtain rfl : i = 0 := by omega
    exact Nat.le_refl _
  | succ j ih =>
    by_cases c : i = j + 1
    · rw [c]; exact Nat.le_refl _
    · have h1 := ih (by omega)
      have h2 : pf_ns n D (j + 1) = pf_ns n D j + n j * D j := rfl
      omega
theorem pf_ns_lt {n D : Nat → Nat} {i b m : Nat} (hi : i < m) (hb : b < n i * D i) : pf_ns n D i + b < pf_ns n D m := by
  have h1 := pf_ns_mono n D (i := i + 1) (j := m) hi
  have h2 : pf_ns n D (i + 1) = pf_ns n D i + n i * D i := rfl
  omega
def ya_cl (m : Nat) (D n : Nat → Nat) (q : Nat → Nat → PF) (T : Nat → Fin 5) (i b : Nat) : Prop :=
  ∀ i' b' k, i' < m → b' < n i' * D i' → (i' < i ∨ (i' = i ∧ b' < b)) → k < 9 → T (9 * k + (pf_ns n D i' + b')) = pf_mul (pf_mn 1 (b' % D i')) (q i' (1 + b' / D i')) k
theorem ya_cw_o {T : Nat → Fin 5} {col e c k n : Nat} {Q : PF} (h : c ≠ col) (hc : c < 9) : ya_cw T col e Q n (9 * k + c) = T (9 * k + c) := by
  show (if (9 * k + c) % 9 = col ∧ (9 * k + c) / 9 < n then _ else T (9 * k + c)) = _
  rw [if_neg (by omega)]
theorem ya_cw_i {T : Nat → Fin 5} {col e k n : Nat} {Q : PF} (hc : col < 9) (hk : k < n) : ya_cw T col e Q n (9 * k + col) = pf_mul (pf_mn 1 e) Q k := by
  have e1 : (9 * k + col) / 9 = k := by omega
  show (if (9 * k + col) % 9 = col ∧ (9 * k + col) / 9 < n then (if e ≤ (9 * k + col) / 9 then Q ((9 * k + col) / 9 - e) else 0) else T (9 * k + col)) = pf_cm k (pf_mn 1 e) Q
  rw [if_pos (by omega), e1, pf_mn_cm]
  by_cases c : e ≤ k
  · rw [if_pos c, if_pos c]; grind
  · rw [if_neg c, if_neg c]
theorem ya_cl_s {m i b : Nat} {D n : Nat → Nat} {q : Nat → Nat → PF} {T : Nat → Fin 5} (hi : i < m) (hb : b < n i * D i) (hN : pf_ns n D m ≤ 8) (h : ya_cl m D n q T i b) : ya_cl m D n q (ya_cw T (pf_ns n D i + b) (b % D i) (q i (1 + b / D i)) 9) i (b + 1) := by
  intro i' b' k hi' hb' ho hk
  have l0 := pf_ns_lt hi hb
  have l1 := pf_ns_lt hi' hb'
  by_cases c : i' = i ∧ b' = b
  · obtain ⟨rfl, rfl⟩ := c
    exact ya_cw_i (by omega) hk
  · rw [ya_cw_o ?_ (by omega)]
    · exact h i' b' k hi' hb' (by omega) hk
    · rcases ho with ho | ⟨ho, ho2⟩
      · have := pf_ns_lt (n := n) (D := D) ho hb'
        omega
      · subst ho; omega
theorem ya_cl_n {m i : Nat} {D n : Nat → Nat} {q : Nat → Nat → PF} {T : Nat → Fin 5} (h : ya_cl m D n q T i (n i * D i)) : ya_cl m D n q T (i + 1) 0 := by
  intro i' b' k hi' hb' ho hk
  refine h i' b' k hi' hb' ?_ hk
  by_cases c : i' = i
  · subst c; exact Or.inr ⟨rfl, hb'⟩
  · left; omega
/-- wanted is set once its column has been passed -/
def ya_wt (n D : Nat → Nat) (ii j1 kk : Nat) (x7 : Int32) (i b : Nat) (_ : Nat) : Prop := (ii < i ∨ (ii = i ∧ j1 * D ii + kk < b)) → x7 = nI (pf_ns n D ii + (j1 * D ii + kk))
section
variable {f_count f_place f_opens f_top f_fault f_faultAt f_dry f_found : Int32} {a_c a_there a_kind a_num a_open a_openAt a_power a_table : Nat → Int32}
theorem yc_frac236 {post : Int32 → SY → Prop} {g T : Nat → Fin 5} (N w : Nat) (hN : N ≤ 8) (hw : w < N) (inj : pf_inj (fun i c => T (9 * i + c)) N) (h : ∀ T' : Nat → Fin 5, (∀ r, r < N → pf_sm (fun c => T (9 * r + c) * T' (9 * c + N)) N = fi_s g 83 r) → post (fi_I (T' (9 * w + N))) (f_count, f_place, f_opens, f_top, f_fault, f_faultAt, f_dry, f_found, fi_m g, a_there, a_kind, a_num, a_open, a_openAt, a_power, fi_m T')) :
    ∃ k, wY_fraction_236 post (nI w) (nI N) f_count f_place f_opens f_top f_fault f_faultAt f_dry f_found k 0 (fi_m g) a_there a_kind a_num a_open a_openAt a_power (fi_m T) := by
  have key : ∀ m k, k + m = N → wY_fraction_236 post (nI w) (nI N) f_count f_place f_opens f_top f_fault f_faultAt f_dry f_found (m + 1) (nI k) (fi_m g) a_there a_kind a_num a_open a_openAt a_power (fi_m (ya_cw T N 0 (fi_s g 83) k)) := by
    intro m
    induction m with
    | zero =>
      intro k hk
      obtain rfl : k = N := by omega
      have eo : ∀ r c, c < k → ya_cw T k 0 (fi_s g 83) k (9 * r + c) = T (9 * r + c) := fun r c hc => ya_cw_o (by omega) (by omega)
      refine br_t (nI_le (Nat.le_refl _) (by omega)) (yc_solve k hN ?_ (fun T' hT' => ⟨fi_i9 (by omega) (by omega), ?_⟩))
      rotate_left
      · rw [fi_r9 (by omega) (by omega)]
        refine h T' (fun r hr => ?_)
        have h1 := hT' r hr
        rw [ya_cw_i (by omega) hr] at h1
        have e1 : pf_mn 1 0 = pf_c 1 := rfl
        rw [e1, pf_one_mul] at h1
        rw [← h1]
        apply pf_sm_congr
        intro c hc
        rw [eo r c hc]
      intro x hx
      apply inj x
      intro r hr
      rw [← hx r hr]
      apply pf_sm_congr
      intro c hc
      show T (9 * r + c) * x c = ya_cw T k 0 (fi_s g 83) k (9 * r + c) * x c
      rw [ya_cw_o (by omega) (by omega)]
    | succ m ih =>
      intro k hk
      have ex : (1660 : Int32) + nI k = nI (20 * 83 + k) := nI_add 1660 k
      refine br_f (nI_ge (by omega) (by omega)) ⟨pk_in _ 1800 (by omega) ex, fi_i9 (by omega) (by omega), nm_r ?_ (nm_r (nI_1 k) (ih (k + 1) (by omega)))⟩
      rw [← ya_cws T (fi_s g 83) (show N < 9 by omega), if_pos (Nat.zero_le _), Nat.sub_zero, ← fi_upd, ex, fi_9, nI_clamp (by omega), nI_clamp (by omega), fi_s_at (by omega)]; rfl
  have t := key N 0 (by omega)
  rw [ya_cw0] at t
  exact ⟨N + 1, t⟩
theorem yc_frac119 {post : Int32 → SY → Prop} {g0 : Nat → Fin 5} {A r : PF} {a m N ii j1 kk : Nat} {D n : Nat → Nat} {q : Nat → Nat → PF} (ha : a < 7) (hm : m ≤ 8) (hN : N ≤ 8) (eN : pf_ns n D m = N) (eA : fi_s g0 (53 + 2 * a) = A)
    (S : pf_Sp A r m (fun i => fi_s g0 (72 + i)) D n) (hp : ∀ i, i < m → a_power i = nI (n i))
    (q0 : ∀ i, i < m → q i 0 = A) (qs : ∀ i, i < m → ∀ j, j < n i → q i j = pf_mul (fi_s g0 (72 + i)) (q i (j + 1))) (qh : ∀ i, i < m → ∀ j, j ≤ n i → pf_hd (q i j) (N - j * D i) ∧ j * D i ≤ N) (qc : ∀ i, i < m → pf_cp (fi_s g0 (72 + i)) (q i (n i)))
    (hii : ii < m) (hj1 : j1 < n ii) (hkk : kk < D ii)
    (lR : pf_ln (fi_s g0 83) N)
    (h : ∀ (x g' T' : Nat → Fin 5), ys_4 g0 g' → pf_dv (pf_pow (fi_s g0 (72 + ii)) (n ii)) (pf_sub (fi_s g0 83) (pf_mul (q ii (n ii)) (pf_S x (pf_ns n D ii) (fi_s g0 (72 + ii)) (D ii) (n ii)))) → post (fi_I (x (pf_ns n D ii + (j1 * D ii + kk)))) (f_count, f_place, f_opens, f_top, f_fault, f_faultAt, f_dry, f_found, fi_m g', a_there, a_kind, a_num, a_open, a_openAt, a_power, fi_m T')) :
    ∀ (f i : Nat) (x7 : Int32) (g T : Nat → Fin 5), i + f = m → ys_4 g0 g → ya_cl m D n q T i 0 → ya_wt n D ii j1 kk x7 i 0 (pf_ns n D i) →
      wY_fraction_119 post (nI ii) (nI (j1 + 1)) (nI kk) (nI m) (nI (53 + 2 * a)) (f + 1) x7 (nI (pf_ns n D i)) (nI i) f_count f_place f_opens f_top f_fault f_faultAt f_dry f_found (fi_m g) a_there a_kind a_num a_open a_openAt a_power (fi_m T) := by
  intro f
  induction f with
  | zero =>
    intro i x7 g T hi fr cl wt
    obtain rfl : i = m := by omega
    have ew := wt (Or.inl hii)
    subst ew
    have hb : j1 * D ii + kk < n ii * D ii := by
      have h1 := Nat.mul_le_mul_right (D ii) (show j1 + 1 ≤ n ii from hj1)
      rw [Nat.succ_mul] at h1
      omega
    have hw := pf_ns_lt (n := n) (D := D) hii hb
    rw [eN] at hw ⊢
    have hT : ∀ i', i' < i → ∀ b', b' < n i' * D i' → ∀ k, k < N → T (9 * k + (pf_ns n D i' + b')) = pf_mul (pf_mn 1 (b' % D i')) (q i' (1 + b' / D i')) k := fun i' hi' b' hb' k hk => cl i' b' k hi' hb' (Or.inl hi') (by omega)
    refine br_t (nI_le (Nat.le_refl _) (by omega)) (yc_frac236 N _ hN hw ?_ (fun T' hT' => h (fun c => T' (9 * c + N)) g T' fr ?_))
    · exact pf_frinj (q := q) (T := fun k c => T (9 * k + c)) S eN q0 qs qh qc hT
    · refine pf_frdec (q := q) (T := fun k c => T (9 * k + c)) S eN q0 qs qh hT lR (fun k hk => ?_) ii hii
      rw [← fr 83 (by omega) (by omega) (by omega)]
      exact hT' k hk
  | succ f ih =>
    intro i x7 g T hi fr cl wt
    have him : i < m := by omega
    have hD1 := (S.1 i him).2.1
    have hni : n i * D i ≤ N := by
      have h1 := pf_ns_mono n D (i := i + 1) (j := m) him
      have h2 : pf_ns n D (i + 1) = pf_ns n D i + n i * D i := rfl
      omega
    have hnn := S.2.1 i him
    have hn8 : n i ≤ 8 := by
      have := Nat.le_mul_of_pos_right (n i) (show 0 < D i by omega)
      omega
    have hD8 : D i ≤ 8 := by
      have := Nat.le_mul_of_pos_left (D i) (show 0 < n i by omega)
      omega
    refine br_f (nI_ge (by omega) (by omega)) ⟨n i * D i + 1, ?_⟩
    have l129 : ∀ (k b : Nat) (x7 : Int32) (g T : Nat → Fin 5), b + k = n i * D i → ys_4 g0 g → ya_cl m D n q T i b → ya_wt n D ii j1 kk x7 i b (pf_ns n D i + b) →
        wY_fraction_129 post (wY_fraction_119 post (nI ii) (nI (j1 + 1)) (nI kk) (nI m) (nI (53 + 2 * a)) (f + 1)) (nI ii) (nI (j1 + 1)) (nI kk) (nI m) (nI (53 + 2 * a)) (nI i) (k + 1) x7 (nI (pf_ns n D i + b)) (nI b) f_count f_place f_opens f_top f_fault f_faultAt f_dry f_found (fi_m g) a_there a_kind a_num a_open a_openAt a_power (fi_m T) := by
      intro k
      induction k with
      | zero =>
        intro b x7 g T hb fr cl wt
        have eF : fi_s g (72 + i) = fi_s g0 (72 + i) := fr _ (by omega) (by omega) (by omega)
        have hF : pf_hd (fi_s g (72 + i)) (D i) := by rw [eF]; exact (S.1 i him).1
        refine ⟨vp_in_nI (by omega) (by omega), ?_⟩
        refine yc_deg (72 + i) (by omega) (fun z => absurd z (pf_hd_n0 hF)) (fun d hd hd2 => ?_) (fi_72 i)
        obtain rfl := pf_hd_u hd2 hF
        rw [nI_clamp (by omega), hp i him, pk_mul]
        refine br_t (nI_le (by omega) (by omega)) (nm_r (nI_1 i) ?_)
        obtain rfl : b = n i * D i := by omega
        refine ih (i + 1) x7 g T (by omega) fr (ya_cl_n cl) ?_
        intro ho
        refine wt ?_
        by_cases c : ii = i
        · right
          refine ⟨c, ?_⟩
          subst c
          have h1 := Nat.mul_le_mul_right (D ii) (show j1 + 1 ≤ n ii from hj1)
          rw [Nat.succ_mul] at h1
          omega
        · left; omega
      | succ k ihk =>
        intro b x7 g T hb fr cl wt
        have hbn : b < n i * D i := by omega
        have eF : fi_s g (72 + i) = fi_s g0 (72 + i) := fr _ (by omega) (by omega) (by omega)
        have hF : pf_hd (fi_s g (72 + i)) (D i) := by rw [eF]; exact (S.1 i him).1
        have hcol := pf_ns_lt (n := n) (D := D) him hbn
        have hmod := Nat.mod_lt b (show D i > 0 by omega)
        have hdiv : b / D i < n i := (Nat.div_lt_iff_lt_mul (by omega)).mpr hbn
        have e11 : nI b - nI b / nI (D i) * nI (D i) = nI (b % D i) := pk_rem (by omega) (by omega) (by omega)
        have e12 : (1 : Int32) + nI b / nI (D i) = nI (1 + b / D i) := by
          rw [pk_div (by omega) (by omega) (by omega)]; exact nI_add 1 (b / D i)
        refine ⟨vp_in_nI (by omega) (by omega), ?_⟩
        refine yc_deg (72 + i) (by omega) (fun z => absurd z (pf_hd_n0 hF)) (fun d hd hd2 => ?_) (fi_72 i)
        obtain rfl := pf_hd_u hd2 hF
        rw [nI_clamp (by omega), hp i him, pk_mul]
        refine br_f (nI_ge (by omega) (by omega)) ?_
        refine yc_deg (72 + i) (by omega) (fun z => absurd z (pf_hd_n0 hF)) (fun d hd hd2 => ?_) (fi_72 i)
        obtain rfl := pf_hd_u hd2 hF
        refine ⟨nI_ne0 (by omega) (by omega), nm_r e11 ?_⟩
        refine yc_deg (72 + i) (by omega) (fun z => absurd z (pf_hd_n0 hF)) (fun d hd hd2 => ?_) (fi_72 i)
        obtain rfl := pf_hd_u hd2 hF
        refine ⟨nI_ne0 (by omega) (by omega), nm_r e12 ?_⟩
        have col : ∀ x7' : Int32, ya_wt n D ii j1 kk x7' i (b + 1) (pf_ns n D i + (b + 1)) → wY_fraction_204 post (wY_fraction_119 post (nI ii) (nI (j1 + 1)) (nI kk) (nI m) (nI (53 + 2 * a)) (f + 1)) (wY_fraction_129 post (wY_fraction_119 post (nI ii) (nI (j1 + 1)) (nI kk) (nI m) (nI (53 + 2 * a)) (f + 1)) (nI ii) (nI (j1 + 1)) (nI kk) (nI m) (nI (53 + 2 * a)) (nI i) (k + 1)) (nI ii) (nI (j1 + 1)) (nI kk) (nI m) (nI (53 + 2 * a)) x7' (nI (pf_ns n D i + b)) (nI i) (nI b) (nI (b % D i)) (nI (1 + b / D i)) f_count f_place f_opens f_top f_fault f_faultAt f_dry f_found (fi_m g) a_there a_kind a_num a_open a_openAt a_power (fi_m T) := by
          intro x7' wt'
          unfold wY_fraction_204
          refine yc_column (53 + 2 * a) i (1 + b / D i) (b % D i) (pf_ns n D i + b) (by omega) (by omega) (by omega) (by omega) (by omega) hF (q i) ?_ (fun t ht => ?_) (fun t ht => ?_) (fun g' fr' => nm_r (nI_1 _) (nm_r (nI_1 b) ?_))
          · rw [fr _ (by omega) (by omega) (by omega), eA, q0 i him]
          · rw [eF]; exact qs i him t (by omega)
          · have h1 := (qh i him t (by omega)).1.1
            exact pf_ln_mono h1 (by omega)
          · refine ihk (b + 1) x7' g' _ (by omega) (fun s h1 h2 h3 => by rw [fr' s h1 h2 h3]; exact fr s h1 h2 h3) (ya_cl_s him hbn (by omega) cl) wt'
        have hbpos : 0 ≤ b / D i := Nat.zero_le _
        have old : ¬ (i = ii ∧ 1 + b / D i = j1 + 1 ∧ b % D i = kk) → ya_wt n D ii j1 kk x7 i (b + 1) (pf_ns n D i + (b + 1)) := by
          intro no ho
          refine wt ?_
          rcases ho with ho | ⟨ho, ho2⟩
          · exact Or.inl ho
          · right
            refine ⟨ho, ?_⟩
            by_cases c : j1 * D ii + kk = b
            · exfalso; apply no
              subst ho
              have e1 : b / D ii = j1 := by
                rw [← c, Nat.add_comm, Nat.add_mul_div_right _ _ (by omega), Nat.div_eq_of_lt hkk]; omega
              have e2 : b % D ii = kk := by
                rw [← c, Nat.add_comm, Nat.add_mul_mod_self_right]; exact Nat.mod_eq_of_lt hkk
              exact ⟨rfl, by rw [e1]; omega, e2⟩
            · omega
        have hj8 : j1 < 8 ∨ 8 ≤ j1 := by omega
        have hni2 : n ii ≤ 8 := by
          have hDii := (S.1 ii hii).2.1
          have h1 := pf_ns_mono n D (i := ii + 1) (j := m) hii
          have h2 : pf_ns n D (ii + 1) = pf_ns n D ii + n ii * D ii := rfl
          have := Nat.le_mul_of_pos_right (n ii) (show 0 < D ii by omega)
          omega
        have hDii8 : D ii ≤ 8 := by
          have hnii := S.2.1 ii hii
          have h1 := pf_ns_mono n D (i := ii + 1) (j := m) hii
          have h2 : pf_ns n D (ii + 1) = pf_ns n D ii + n ii * D ii := rfl
          have := Nat.le_mul_of_pos_left (D ii) (show 0 < n ii by omega)
          omega
        by_cases c1 : i = ii
        · refine br_t (by rw [c1]) ?_
          by_cases c2 : 1 + b / D i = j1 + 1
          · refine br_t (by rw [c2]) ?_
            by_cases c3 : b % D i = kk
            · refine br_t (by rw [c3]) (col _ (fun _ => ?_))
              have e1 : b / D i = j1 := by omega
              have e2 : b = j1 * D i + kk := by
                have h1 := Nat.div_add_mod' b (D i)
                rw [e1, c3] at h1
                exact h1.symm
              rw [← c1, ← e2]
            · exact br_f (fun z => c3 ((nI_eq (by omega) (by omega)).mp z)) (col _ (old (fun z => c3 z.2.2)))
          · exact br_f (fun z => c2 ((nI_eq (by omega) (by omega)).mp z)) (col _ (old (fun z => c2 z.2.1)))
        · exact br_f (fun z => c1 ((nI_eq (by omega) (by omega)).mp z)) (col _ (old (fun z => c1 z.1)))
    refine l129 (n i * D i) 0 x7 g T (by omega) fr cl wt
end
