/-! Sums; the columns of partial fractions are independent; pivots of a system without a kernel -/
def pf_sm (h : Nat → Fin 5) : Nat → Fin 5
  | 0 => 0
  | n + 1 => pf_sm h n + h n
def pf_sP (h : Nat → PF) : Nat → PF
  | 0 => pf_c 0
  | n + 1 => pf_add (pf_sP h n) (h n)
theorem pf_sP_at (h : Nat → PF) (k n : Nat) : pf_sP h n k = pf_sm (fun i => h i k) n := by
  induction n with
  | zero => show pf_c 0 k = 0; rw [pf_c0]
  | succ n ih => show pf_sP h n k + h n k = pf_sm (fun i => h i k) n + h n k; rw [ih]
theorem pf_sm_split (h : Nat → Fin 5) (a b : Nat) : pf_sm h (a + b) = pf_sm h a + pf_sm (fun i => h (a + i)) b := by
  induction b with
  | zero => show pf_sm h a = pf_sm h a + 0; grind
  | succ b ih =>
    show pf_sm h (a + b) + h (a + b) = pf_sm h a + (pf_sm (fun i => h (a + i)) b + h (a + b))
    rw [ih]; grind
theorem pf_sP_split (h : Nat → PF) (a b : Nat) : pf_sP h (a + b) = pf_add (pf_sP h a) (pf_sP (fun i => h (a + i)) b) := by
  funext k
  show pf_sP h (a + b) k = pf_sP h a k + pf_sP (fun i => h (a + i)) b k
  rw [pf_sP_at, pf_sP_at, pf_sP_at, pf_sm_split]
theorem pf_sm_congr {h h' : Nat → Fin 5} {n : Nat} (e : ∀ i, i < n → h i = h' i) : pf_sm h n = pf_sm h' n := by
  induction n with
  | zero => rfl
  | succ n ih =>
    show pf_sm h n + h n = pf_sm h' n + h' n
    rw [ih (fun i hi => e i (by omega)), e n (by omega)]
theorem pf_sP_congr {h h' : Nat → PF} {n : Nat} (e : ∀ i, i < n → h i = h' i) : pf_sP h n = pf_sP h' n := by
  induction n with
  | zero => rfl
  | succ n ih =>
    show pf_add (pf_sP h n) (h n) = pf_add (pf_sP h' n) (h' n)
    rw [ih (fun i hi => e i (by omega)), e n (by omega)]
theorem pf_sm_0 {h : Nat → Fin 5} {n : Nat} (e : ∀ i, i < n → h i = 0) : pf_sm h n = 0 := by
  induction n with
  | zero => rfl
  | succ n ih =>
    show pf_sm h n + h n = 0
    rw [ih (fun i hi => e i (by omega)), e n (by omega)]; decide
def pf_C (x : Nat → Fin 5) (o e : Nat) : PF := fun k => if k < e then x (o + k) else 0
theorem pf_C_s (x : Nat → Fin 5) (o e : Nat) : pf_C x o (e + 1) = pf_add (pf_C x o e) (pf_mn (x (o + e)) e) := by
  funext k
  show (if k < e + 1 then x (o + k) else 0) = (if k < e then x (o + k) else 0) + (if k = e then x (o + e) else 0)
  by_cases h1 : k < e
  · rw [if_pos h1, if_pos (by omega), if_neg (by omega)]; grind
  · by_cases h2 : k = e
    · subst h2; rw [if_neg h1, if_pos (by omega), if_pos rfl]; grind
    · rw [if_neg h1, if_neg (by omega), if_neg h2]; decide
theorem pf_C_ln (x : Nat → Fin 5) (o e : Nat) : pf_ln (pf_C x o e) e := fun k hk => by
  show (if k < e then x (o + k) else 0) = 0
  rw [if_neg (by omega)]
theorem pf_blk_in (q1 : PF) (x : Nat → Fin 5) (o e : Nat) : pf_sP (fun i => pf_mul (pf_mn (x (o + i)) i) q1) e = pf_mul (pf_C x o e) q1 := by
  induction e with
  | zero =>
    have z : pf_C x o 0 = pf_c 0 := by rw [pf_c0]; exact pf_ln_0 (pf_C_ln x o 0)
    rw [z, pf_zero_mul]; rfl
  | succ e ih =>
    show pf_add (pf_sP (fun i => pf_mul (pf_mn (x (o + i)) i) q1) e) (pf_mul (pf_mn (x (o + e)) e) q1) = _
    rw [ih, pf_C_s, pf_mul_addl]
def pf_S (x : Nat → Fin 5) (o : Nat) (F : PF) (D : Nat) : Nat → PF
  | 0 => pf_c 0
  | l + 1 => pf_add (pf_mul F (pf_S x o F D l)) (pf_C x (o + l * D) D)
theorem pf_blk {x : Nat → Fin 5} {o : Nat} {F : PF} {D n : Nat} {q : Nat → PF} (hD : 0 < D) (hq : ∀ j, j < n → q j = pf_mul F (q (j + 1))) :
    ∀ l, l ≤ n → pf_sP (fun b => pf_mul (pf_mn (x (o + b)) (b % D)) (q (1 + b / D))) (l * D) = pf_mul (q l) (pf_S x o F D l) := by
  intro l
  induction l with
  | zero =>
    intro _
    rw [Nat.zero_mul]
    show pf_c 0 = pf_mul (q 0) (pf_c 0)
    rw [pf_mul_comm, pf_zero_mul]
  | succ l ih =>
    intro hl
    rw [Nat.succ_mul, pf_sP_split, ih (by omega)]
    have e : pf_sP (fun i => pf_mul (pf_mn (x (o + (l * D + i))) ((l * D + i) % D)) (q (1 + (l * D + i) / D))) D = pf_sP (fun i => pf_mul (pf_mn (x (o + l * D + i)) i) (q (l + 1))) D := by
      apply pf_sP_congr
      intro i hi
      have e1 : (l * D + i) % D = i := by rw [Nat.add_comm, Nat.add_mul_mod_self_right]; exact Nat.mod_eq_of_lt hi
      have e2 : (l * D + i) / D = l := by
        rw [Nat.add_comm, Nat.add_mul_div_right _ _ hD, Nat.div_eq_of_lt hi]; omega
      have e3 : o + (l * D + i) = o + l * D + i := by omega
      have e4 : 1 + l = l + 1 := by omega
      rw [e1, e2, e3, e4]
    rw [e, pf_blk_in, hq l (by omega)]
    generalize q (l + 1) = Q
    show pf_add (pf_mul (pf_mul F Q) (pf_S x o F D l)) (pf_mul (pf_C x (o + l * D) D) Q) = pf_mul Q (pf_add (pf_mul F (pf_S x o F D l)) (pf_C x (o + l * D) D))
    generalize pf_S x o F D l = S
    generalize pf_C x (o + l * D) D = C
    letI := pf_ring
    show (F * Q) * S + C * Q = Q * (F * S + C)
    grind
theorem pf_S_ln {x : Nat → Fin 5} {o : Nat} {F : PF} {D : Nat} (hF : pf_ln F (D + 1)) : ∀ l, pf_ln (pf_S x o F D l) (l * D) := by
  intro l
  induction l with
  | zero =>
    intro k _
    show pf_c 0 k = 0
    rw [pf_c0]
  | succ l ih =>
    rw [Nat.succ_mul]
    refine pf_add_ln (fun k hk => pf_cm_ln k F _ (D + 1) (l * D) hF ih (by omega)) (pf_ln_mono (pf_C_ln _ _ _) (by omega))
theorem pf_S_0 {x : Nat → Fin 5} {o : Nat} {F : PF} {D : Nat} (hF : pf_hd F D) : ∀ l, pf_S x o F D l = pf_c 0 → ∀ b, b < l * D → x (o + b) = 0 := by
  intro l
  induction l with
  | zero => intro _ b hb; omega
  | succ l ih =>
    intro h b hb
    have h : pf_add (pf_mul F (pf_S x o F D l)) (pf_C x (o + l * D) D) = pf_c 0 := h
    rcases pf_fin_hd ⟨_, pf_S_ln (x := x) (o := o) hF.1 l⟩ with z | ⟨e, he⟩
    · by_cases hb2 : b < l * D
      · exact ih z b hb2
      · rw [Nat.succ_mul] at hb
        have h2 := congrFun h (b - l * D)
        rw [z, pf_mul_comm, pf_zero_mul] at h2
        have h3 : pf_c 0 (b - l * D) + pf_C x (o + l * D) D (b - l * D) = pf_c 0 (b - l * D) := h2
        rw [pf_c0] at h3
        have h4 : pf_C x (o + l * D) D (b - l * D) = x (o + b) := by
          show (if b - l * D < D then x (o + l * D + (b - l * D)) else 0) = x (o + b)
          rw [if_pos (by omega)]
          congr 1; omega
        rw [h4] at h3
        have h5 : (0 : Fin 5) + x (o + b) = 0 := h3
        grind
    · exfalso
      have h1 := (pf_mul_hd hF he).2
      have h2 := congrFun h (D + e)
      have h3 : pf_mul F (pf_S x o F D l) (D + e) + pf_C x (o + l * D) D (D + e) = pf_c 0 (D + e) := h2
      rw [pf_C_ln _ _ _ (D + e) (by omega), pf_c0] at h3
      apply h1
      have h5 : pf_mul F (pf_S x o F D l) (D + e) + 0 = (0 : Fin 5) := h3
      grind
theorem pf_sP_dv0 {P : PF} {h : Nat → PF} {m : Nat} (e : ∀ j, j < m → pf_dv P (h j)) : pf_dv P (pf_sP h m) := by
  induction m with
  | zero => exact pf_dv_0 P
  | succ m ih => exact pf_dv_add (ih (fun j hj => e j (by omega))) (e m (by omega))
theorem pf_add_sub (f g : PF) : pf_sub (pf_add f g) f = g := by
  letI := pf_ring
  show f + g - f = g
  grind
theorem pf_add_sub' (f g : PF) : pf_sub (pf_add f g) g = f := by
  letI := pf_ring
  show f + g - g = f
  grind
theorem pf_sP_dv {P : PF} {h : Nat → PF} {i : Nat} : ∀ m, i < m → (∀ j, j < m → j ≠ i → pf_dv P (h j)) → pf_dv P (pf_sP h m) → pf_dv P (h i) := by
  intro m
  induction m with
  | zero => intro hi; omega
  | succ m ih =>
    intro hi e d
    by_cases c : i = m
    · subst c
      have d1 := pf_sP_dv0 (P := P) (h := h) (m := i) (fun j hj => e j (by omega) (by omega))
      have d2 := pf_dv_sub d d1
      have d3 : pf_dv P (pf_sub (pf_add (pf_sP h i) (h i)) (pf_sP h i)) := d2
      rw [pf_add_sub] at d3
      exact d3
    · have d2 := pf_dv_sub d (e m (by omega) (by omega))
      have d3 : pf_dv P (pf_sub (pf_add (pf_sP h m) (h m)) (h m)) := d2
      rw [pf_add_sub'] at d3
      exact ih (by omega) (fun j hj => e j (by omega)) d3
theorem pf_q_pow {F : PF} {n : Nat} {q : Nat → PF} (hq : ∀ j, j < n → q j = pf_mul F (q (j + 1))) : ∀ l, l ≤ n → q 0 = pf_mul (pf_pow F l) (q l) := by
  intro l
  induction l with
  | zero => intro _; exact (pf_one_mul _).symm
  | succ l ih =>
    intro hl
    rw [ih (by omega), hq l (by omega), ← pf_mul_assoc]
    rfl
theorem pf_hd_c {c : Fin 5} (h : c ≠ 0) : pf_hd (pf_c c) 0 := ⟨pf_c_ln c, h⟩
theorem pf_pow_hd {F : PF} {D : Nat} (h : pf_hd F D) (n : Nat) : pf_hd (pf_pow F n) (n * D) := by
  induction n with
  | zero => rw [Nat.zero_mul]; exact pf_hd_c (by decide)
  | succ n ih => rw [Nat.succ_mul]; exact pf_mul_hd ih h
theorem pf_indep {a : PF} {m : Nat} {F : Nat → PF} {D n : Nat → Nat} {q : Nat → Nat → PF} {x : Nat → Fin 5} {o : Nat → Nat}
    (hF : ∀ i, i < m → pf_hd (F i) (D i) ∧ 0 < D i)
    (hc : ∀ i, i < m → ∀ j, j < m → i ≠ j → pf_cp (F i) (F j))
    (hq0 : ∀ i, i < m → q i 0 = a)
    (hqs : ∀ i, i < m → ∀ j, j < n i → q i j = pf_mul (F i) (q i (j + 1)))
    (hfq : ∀ i, i < m → pf_fin (q i (n i)))
    (hx : ∀ i, i < m → pf_cp (F i) (q i (n i)))
    (hs : pf_sP (fun i => pf_sP (fun b => pf_mul (pf_mn (x (o i + b)) (b % D i)) (q i (1 + b / D i))) (n i * D i)) m = pf_c 0) :
    ∀ i, i < m → ∀ b, b < n i * D i → x (o i + b) = 0 := by
  intro i hi
  have e1 : pf_sP (fun i => pf_mul (q i (n i)) (pf_S x (o i) (F i) (D i) (n i))) m = pf_c 0 := by
    rw [← hs]; apply pf_sP_congr
    intro j hj
    exact (pf_blk (hF j hj).2 (hqs j hj) (n j) (Nat.le_refl _)).symm
  have fF : ∀ j, j < m → pf_fin (F j) := fun j hj => pf_hd_fin (hF j hj).1
  have fS : ∀ j, j < m → pf_fin (pf_S x (o j) (F j) (D j) (n j)) := fun j hj => ⟨_, pf_S_ln (hF j hj).1.1 _⟩
  have d1 : ∀ j, j < m → j ≠ i → pf_dv (pf_pow (F i) (n i)) (pf_mul (q j (n j)) (pf_S x (o j) (F j) (D j) (n j))) := by
    intro j hj hji
    apply pf_dv_mr _ (fS j hj)
    have c1 : pf_cp (F j) (pf_pow (F i) (n i)) := pf_cp_pow (fF j hj) (fF i hi) (hc j hj i hi hji) _
    have c2 : pf_cp (pf_pow (F i) (n i)) (pf_pow (F j) (n j)) := pf_cp_pow (pf_fin_pow (fF i hi) _) (fF j hj) (pf_cp_s c1) _
    apply pf_cp_dv c2 (hfq j hj)
    rw [← pf_q_pow (hqs j hj) (n j) (Nat.le_refl _), hq0 j hj, ← hq0 i hi, pf_q_pow (hqs i hi) (n i) (Nat.le_refl _)]
    exact pf_dv_mr (pf_dv_r _) (hfq i hi)
  have d2 : pf_dv (pf_pow (F i) (n i)) (pf_sP (fun i => pf_mul (q i (n i)) (pf_S x (o i) (F i) (D i) (n i))) m) := by
    rw [e1]; exact pf_dv_0 _
  have d3 : pf_dv (pf_pow (F i) (n i)) (pf_mul (q i (n i)) (pf_S x (o i) (F i) (D i) (n i))) := pf_sP_dv m hi d1 d2
  have c3 : pf_cp (pf_pow (F i) (n i)) (q i (n i)) := pf_cp_s (pf_cp_pow (hfq i hi) (fF i hi) (pf_cp_s (hx i hi)) _)
  have d4 := pf_cp_dv c3 (fS i hi) d3
  apply pf_S_0 (hF i hi).1
  rcases pf_hd_of _ _ (pf_S_ln (x := x) (o := o i) (hF i hi).1.1 (n i)) with z | ⟨e, he, hh⟩
  · exact z
  · exfalso
    obtain ⟨d, _, h1, _, h2, _⟩ := pf_dv_hd d4 hh (pf_fin_pow (fF i hi) _)
    have h3 := pf_hd_u h1 (pf_pow_hd (hF i hi).1 (n i))
    omega
/-- the rows of T, of length n, have no common solution but 0 -/
def pf_inj (T : Nat → Nat → Fin 5) (n : Nat) : Prop := ∀ x : Nat → Fin 5, (∀ r, r < n → pf_sm (fun c => T r c * x c) n = 0) → ∀ c, c < n → x c = 0
theorem pf_sm_lin (f g : Nat → Fin 5) (b : Fin 5) (n : Nat) : pf_sm (fun c => f c + b * g c) n = pf_sm f n + b * pf_sm g n := by
  induction n with
  | zero => show (0 : Fin 5) = 0 + b * 0; grind
  | succ n ih =>
    show pf_sm (fun c => f c + b * g c) n + (f n + b * g n) = pf_sm f n + f n + b * (pf_sm g n + g n)
    rw [ih]; grind
theorem pf_sm_sc (f : Nat → Fin 5) (b : Fin 5) (n : Nat) : pf_sm (fun c => b * f c) n = b * pf_sm f n := by
  induction n with
  | zero => show (0 : Fin 5) = b * 0; grind
  | succ n ih =>
    show pf_sm (fun c => b * f c) n + b * f n = b * (pf_sm f n + f n)
    rw [ih]; grind
theorem pf_inj_swap {T T' : Nat → Nat → Fin 5} {n p r : Nat} (h : pf_inj T n) (hp : p < n) (hr : r < n)
    (e1 : ∀ c, c < n → T' p c = T r c) (e2 : ∀ c, c < n → T' r c = T p c) (e3 : ∀ i, i < n → i ≠ p → i ≠ r → ∀ c, c < n → T' i c = T i c) : pf_inj T' n := by
  intro x hx
  apply h x
  intro i hi
  by_cases c1 : i = p
  · subst c1; rw [← hx r hr]; apply pf_sm_congr; intro c hc; rw [e2 c hc]
  · by_cases c2 : i = r
    · subst c2; rw [← hx p hp]; apply pf_sm_congr; intro c hc; rw [e1 c hc]
    · rw [← hx i hi]; apply pf_sm_congr; intro c hc; rw [e3 i hi c1 c2 c hc]
theorem pf_inj_scale {T T' : Nat → Nat → Fin 5} {n r : Nat} {b : Fin 5} (h : pf_inj T n) (hr : r < n) (hb : b ≠ 0)
    (e1 : ∀ c, c < n → T' r c = T r c * b) (e3 : ∀ i, i < n → i ≠ r → ∀ c, c < n → T' i c = T i c) : pf_inj T' n := by
  intro x hx
  apply h x
  intro i hi
  by_cases c2 : i = r
  · subst c2
    have h1 := hx i hi
    have h2 : pf_sm (fun c => T' i c * x c) n = pf_sm (fun c => b * (T i c * x c)) n := by
      apply pf_sm_congr; intro c hc; rw [e1 c hc]; grind
    rw [h2, pf_sm_sc] at h1
    have h3 := pf_inv b hb
    grind
  · rw [← hx i hi]; apply pf_sm_congr; intro c hc; rw [e3 i hi c2 c hc]
theorem pf_inj_clear {T T' : Nat → Nat → Fin 5} {n p r : Nat} {b : Fin 5} (h : pf_inj T n) (hp : p < n) (hr : r < n) (hpr : p ≠ r)
    (e1 : ∀ c, c < n → T' p c = T p c - b * T r c) (e3 : ∀ i, i < n → i ≠ p → ∀ c, c < n → T' i c = T i c) : pf_inj T' n := by
  intro x hx
  apply h x
  intro i hi
  by_cases c2 : i = p
  · subst c2
    have h1 := hx i hi
    have h2 : pf_sm (fun c => T' i c * x c) n = pf_sm (fun c => T i c * x c + (-b) * (T r c * x c)) n := by
      apply pf_sm_congr; intro c hc; rw [e1 c hc]; grind
    have h3 : pf_sm (fun c => T r c * x c) n = 0 := by
      rw [← hx r hr]; apply pf_sm_congr; intro c hc; rw [e3 r hr (by omega) c hc]
    rw [h2, pf_sm_lin, h3] at h1
    grind
  · rw [← hx i hi]; apply pf_sm_congr; intro c hc; rw [e3 i hi c2 c hc]
theorem pf_sm_d (y : Nat → Fin 5) (i n : Nat) : pf_sm (fun c => (if i = c then 1 else 0) * y c) n = if i < n then y i else 0 := by
  induction n with
  | zero => rw [if_neg (by omega)]; rfl
  | succ n ih =>
    show pf_sm (fun c => (if i = c then 1 else 0) * y c) n + (if i = n then 1 else 0) * y n = _
    rw [ih]
    by_cases h1 : i < n
    · rw [if_pos h1, if_neg (by omega), if_pos (by omega)]; grind
    · by_cases h2 : i = n
      · subst h2; rw [if_neg h1, if_pos rfl, if_pos (by omega)]; grind
      · rw [if_neg h1, if_neg h2, if_neg (by omega)]; grind
theorem pf_piv {T : Nat → Nat → Fin 5} {n r : Nat} (h : pf_inj T n) (hr : r < n)
    (hu : ∀ c, c < r → ∀ i, i < n → T i c = if i = c then 1 else 0) : ∃ p, r ≤ p ∧ p < n ∧ T p r ≠ 0 := by
  apply Classical.byContradiction
  intro no
  have z : ∀ p, r ≤ p → p < n → T p r = 0 := fun p h1 h2 => Classical.byContradiction fun h3 => no ⟨p, h1, h2, h3⟩
  have t := h (fun c => if c < r then - T c r else if c = r then 1 else 0) (by
    intro i hi
    have en : n = r + (1 + (n - r - 1)) := by omega
    rw [en, pf_sm_split, pf_sm_split]
    have s1 : pf_sm (fun c => T i c * (if c < r then - T c r else if c = r then 1 else 0)) r = if i < r then - T i r else 0 := by
      rw [← pf_sm_d (fun c => - T c r) i r]
      apply pf_sm_congr
      intro c hc
      rw [hu c hc i hi, if_pos hc]
    have s2 : pf_sm (fun i_1 => T i (r + i_1) * (if r + i_1 < r then - T (r + i_1) r else if r + i_1 = r then 1 else 0)) 1 = T i r := by
      show (0 : Fin 5) + T i (r + 0) * (if r + 0 < r then - T (r + 0) r else if r + 0 = r then 1 else 0) = T i r
      rw [if_neg (by omega), if_pos (by omega)]
      show (0 : Fin 5) + T i r * 1 = T i r
      grind
    have s3 : pf_sm (fun i_1 => T i (r + (1 + i_1)) * (if r + (1 + i_1) < r then - T (r + (1 + i_1)) r else if r + (1 + i_1) = r then 1 else 0)) (n - r - 1) = 0 := by
      apply pf_sm_0
      intro c hc
      rw [if_neg (by omega), if_neg (by omega)]; grind
    rw [s1, s2, s3]
    by_cases c1 : i < r
    · rw [if_pos c1]; grind
    · rw [if_neg c1, z i (by omega) hi]; decide) r hr
  have t2 : (if r < r then - T r r else if r = r then 1 else 0) = (0 : Fin 5) := t
  rw [if_neg (by omega), if_pos rfl] at t2
  exact absurd t2 (by decide)
