/-! Lengths, leading numbers, division with rest, greatest common divisors, coprimality -/
def pf_ln (f : PF) (n : Nat) : Prop := ∀ k, n ≤ k → f k = 0
def pf_fin (f : PF) : Prop := ∃ n, pf_ln f n
def pf_hd (f : PF) (d : Nat) : Prop := pf_ln f (d + 1) ∧ f d ≠ 0
theorem pf_ln_mono {f : PF} {n m : Nat} (h : pf_ln f n) (hm : n ≤ m) : pf_ln f m := fun k hk => h k (Nat.le_trans hm hk)
theorem pf_ln_0 {f : PF} (h : pf_ln f 0) : f = fun _ => 0 := funext fun k => h k (Nat.zero_le k)
theorem pf_ln_tl {f : PF} {n : Nat} (h : pf_ln f (n + 1)) : pf_ln (pf_tl f) n := fun k hk => h (k + 1) (Nat.succ_le_succ hk)
theorem pf_cm_ln (n : Nat) : ∀ (f g : PF) (a b : Nat), pf_ln f a → pf_ln g b → a + b ≤ n + 1 → pf_cm n f g = 0 := by
  induction n with
  | zero =>
    intro f g a b hf hg h
    show f 0 * g 0 = 0
    by_cases ha : a = 0
    · rw [hf 0 (by omega)]; grind
    · rw [hg 0 (by omega)]; grind
  | succ n ih =>
    intro f g a b hf hg h
    cases a with
    | zero => rw [pf_ln_0 hf]; exact pf_cm_z _ g
    | succ a =>
      show f 0 * g (n + 1) + pf_cm n (pf_tl f) g = 0
      rw [hg (n + 1) (by omega), ih _ g a b (pf_ln_tl hf) hg (by omega)]; grind
theorem pf_c_of {f : PF} (h : pf_ln f 1) : f = pf_c (f 0) := by
  funext k
  by_cases hk : k = 0
  · subst hk; rfl
  · simp only [pf_c, if_neg hk]; exact h k (by omega)
theorem pf_cm_top (a : Nat) : ∀ (f g : PF) (b : Nat), pf_ln f (a + 1) → pf_ln g (b + 1) → pf_cm (a + b) f g = f a * g b := by
  induction a with
  | zero =>
    intro f g b hf hg
    have e := pf_c_of hf
    have t := pf_cm_c b (f 0) g
    rw [← e] at t
    rw [Nat.zero_add]; exact t
  | succ a ih =>
    intro f g b hf hg
    have e : a + 1 + b = (a + b) + 1 := by omega
    rw [e]
    show f 0 * g (a + b + 1) + pf_cm (a + b) (pf_tl f) g = f (a + 1) * g b
    rw [hg (a + b + 1) (by omega), ih _ _ b (pf_ln_tl hf) hg]
    show f 0 * 0 + f (a + 1) * g b = f (a + 1) * g b
    grind
theorem pf_mul_ln {f g : PF} {a b : Nat} (hf : pf_ln f (a + 1)) (hg : pf_ln g (b + 1)) : pf_ln (pf_mul f g) (a + b + 1) :=
  fun k hk => pf_cm_ln k f g (a + 1) (b + 1) hf hg (by omega)
theorem pf_mul_ln' {f g : PF} {a b : Nat} (hf : pf_ln f a) (hg : pf_ln g b) : pf_ln (pf_mul f g) (a + b) :=
  fun k hk => pf_cm_ln k f g a b hf hg (by omega)
theorem pf_nz : ∀ x y : Fin 5, x ≠ 0 → y ≠ 0 → x * y ≠ 0 := by decide
theorem pf_inv : ∀ x : Fin 5, x ≠ 0 → x * x * x * x = 1 := by decide
theorem pf_mul_hd {f g : PF} {a b : Nat} (hf : pf_hd f a) (hg : pf_hd g b) : pf_hd (pf_mul f g) (a + b) :=
  ⟨pf_mul_ln hf.1 hg.1, by
    show pf_cm (a + b) f g ≠ 0
    rw [pf_cm_top a f g b hf.1 hg.1]; exact pf_nz _ _ hf.2 hg.2⟩
theorem pf_hd_of (n : Nat) : ∀ f : PF, pf_ln f n → f = pf_c 0 ∨ ∃ d, d < n ∧ pf_hd f d := by
  induction n with
  | zero => intro f h; left; rw [pf_c0]; exact pf_ln_0 h
  | succ n ih =>
    intro f h
    by_cases hn : f n = 0
    · have h' : pf_ln f n := fun k hk => by
        by_cases e : k = n
        · rw [e]; exact hn
        · exact h k (by omega)
      rcases ih f h' with h1 | ⟨d, hd, h2⟩
      · exact Or.inl h1
      · exact Or.inr ⟨d, by omega, h2⟩
    · exact Or.inr ⟨n, by omega, h, hn⟩
theorem pf_hd_lt {f : PF} {d n : Nat} (h : pf_hd f d) (hn : pf_ln f n) : d < n := by
  by_cases c : d < n
  · exact c
  · exact absurd (hn d (by omega)) h.2
theorem pf_hd_u {f : PF} {a b : Nat} (ha : pf_hd f a) (hb : pf_hd f b) : a = b := by
  have h1 := pf_hd_lt ha hb.1
  have h2 := pf_hd_lt hb ha.1
  omega
theorem pf_hd_n0 {f : PF} {d : Nat} (h : pf_hd f d) : f ≠ pf_c 0 := by
  intro e; apply h.2; rw [e, pf_c0]
theorem pf_c_ln (c : Fin 5) : pf_ln (pf_c c) 1 := fun k hk => by
  have : ¬ k = 0 := by omega
  simp only [pf_c, if_neg this]
theorem pf_mn_ln (c : Fin 5) (j : Nat) : pf_ln (pf_mn c j) (j + 1) := fun k hk => by
  have : ¬ k = j := by omega
  simp only [pf_mn, if_neg this]
theorem pf_add_ln {f g : PF} {n : Nat} (hf : pf_ln f n) (hg : pf_ln g n) : pf_ln (pf_add f g) n := fun k hk => by
  show f k + g k = 0
  rw [hf k hk, hg k hk]; decide
theorem pf_neg_ln {f : PF} {n : Nat} (hf : pf_ln f n) : pf_ln (pf_neg f) n := fun k hk => by
  show - f k = 0
  rw [hf k hk]; decide
theorem pf_sub_ln {f g : PF} {n : Nat} (hf : pf_ln f n) (hg : pf_ln g n) : pf_ln (pf_sub f g) n := pf_add_ln hf (pf_neg_ln hg)
theorem pf_fin_c (c : Fin 5) : pf_fin (pf_c c) := ⟨1, pf_c_ln c⟩
theorem pf_fin_add {f g : PF} (hf : pf_fin f) (hg : pf_fin g) : pf_fin (pf_add f g) := by
  obtain ⟨a, ha⟩ := hf
  obtain ⟨b, hb⟩ := hg
  exact ⟨a + b, pf_add_ln (pf_ln_mono ha (by omega)) (pf_ln_mono hb (by omega))⟩
theorem pf_fin_neg {f : PF} (hf : pf_fin f) : pf_fin (pf_neg f) := by
  obtain ⟨a, ha⟩ := hf
  exact ⟨a, pf_neg_ln ha⟩
theorem pf_fin_sub {f g : PF} (hf : pf_fin f) (hg : pf_fin g) : pf_fin (pf_sub f g) := pf_fin_add hf (pf_fin_neg hg)
theorem pf_fin_mul {f g : PF} (hf : pf_fin f) (hg : pf_fin g) : pf_fin (pf_mul f g) := by
  obtain ⟨a, ha⟩ := hf
  obtain ⟨b, hb⟩ := hg
  exact ⟨a + b, pf_mul_ln' ha hb⟩
theorem pf_fin_pow {f : PF} (hf : pf_fin f) (n : Nat) : pf_fin (pf_pow f n) := by
  induction n with
  | zero => exact pf_fin_c 1
  | succ n ih => exact pf_fin_mul ih hf
theorem pf_fin_hd {f : PF} (hf : pf_fin f) : f = pf_c 0 ∨ ∃ d, pf_hd f d := by
  obtain ⟨a, ha⟩ := hf
  rcases pf_hd_of a f ha with h | ⟨d, _, h⟩
  · exact Or.inl h
  · exact Or.inr ⟨d, h⟩
theorem pf_hd_fin {f : PF} {d : Nat} (h : pf_hd f d) : pf_fin f := ⟨_, h.1⟩
theorem pf_mn_cm (n : Nat) : ∀ (c : Fin 5) (j : Nat) (g : PF), pf_cm n (pf_mn c j) g = if j ≤ n then c * g (n - j) else 0 := by
  induction n with
  | zero =>
    intro c j g
    show pf_mn c j 0 * g 0 = _
    cases j with
    | zero => rfl
    | succ j =>
      have h1 : pf_mn c (j + 1) 0 = 0 := by simp [pf_mn]
      have h2 : ¬ j + 1 ≤ 0 := by omega
      rw [h1, if_neg h2]; grind
  | succ n ih =>
    intro c j g
    show pf_mn c j 0 * g (n + 1) + pf_cm n (pf_tl (pf_mn c j)) g = _
    cases j with
    | zero =>
      have e : pf_tl (pf_mn c 0) = fun _ => 0 := by funext k; simp [pf_tl, pf_mn]
      have h1 : pf_mn c 0 0 = c := rfl
      rw [e, pf_cm_z, h1, if_pos (Nat.zero_le _)]
      show c * g (n + 1) + 0 = c * g (n + 1)
      grind
    | succ j =>
      have e : pf_tl (pf_mn c (j + 1)) = pf_mn c j := by funext k; simp [pf_tl, pf_mn]
      have h1 : pf_mn c (j + 1) 0 = 0 := by simp [pf_mn]
      rw [e, ih, h1]
      by_cases h : j ≤ n
      · have h3 : j + 1 ≤ n + 1 := by omega
        have h4 : n + 1 - (j + 1) = n - j := by omega
        rw [if_pos h, if_pos h3, h4]; grind
      · have h3 : ¬ j + 1 ≤ n + 1 := by omega
        rw [if_neg h, if_neg h3]; grind
theorem pf_div {g : PF} {d : Nat} (hg : pf_hd g d) (n : Nat) : ∀ f : PF, pf_ln f n → ∃ q r : PF, pf_ln q (n - d) ∧ pf_ln r d ∧ f = pf_add (pf_mul q g) r := by
  induction n with
  | zero =>
    intro f hf
    refine ⟨pf_c 0, f, ?_, pf_ln_mono hf (by omega), ?_⟩
    · rw [pf_c0]; exact fun k _ => rfl
    · letI := pf_ring
      show f = 0 * g + f
      grind
  | succ n ih =>
    intro f hf
    by_cases h : n < d
    · refine ⟨pf_c 0, f, ?_, pf_ln_mono hf (by omega), ?_⟩
      · rw [pf_c0]; exact fun k _ => rfl
      · letI := pf_ring
        show f = 0 * g + f
        grind
    · have hl : pf_ln (pf_sub f (pf_mul (pf_mn (f n * (g d * g d * g d)) (n - d)) g)) n := by
        intro k hk
        show f k + - pf_cm k (pf_mn (f n * (g d * g d * g d)) (n - d)) g = 0
        rw [pf_mn_cm, if_pos (by omega)]
        by_cases e : k = n
        · have e1 : k - (n - d) = d := by omega
          have e2 := pf_inv (g d) hg.2
          rw [e1, e]; grind
        · rw [hf k (by omega), hg.1 (k - (n - d)) (by omega)]; grind
      obtain ⟨q, r, h1, h2, h3⟩ := ih _ hl
      refine ⟨pf_add q (pf_mn (f n * (g d * g d * g d)) (n - d)), r, ?_, h2, ?_⟩
      · refine pf_add_ln (pf_ln_mono h1 (by omega)) (pf_ln_mono (pf_mn_ln _ _) (by omega))
      · generalize pf_mn (f n * (g d * g d * g d)) (n - d) = t at h3
        letI := pf_ring
        have h4 : f - t * g = q * g + r := h3
        show f = (q + t) * g + r
        grind
def pf_dv (g f : PF) : Prop := ∃ q : PF, pf_fin q ∧ f = pf_mul q g
theorem pf_dv_r (f : PF) : pf_dv f f := ⟨pf_c 1, pf_fin_c 1, (pf_one_mul f).symm⟩
theorem pf_dv_0 (f : PF) : pf_dv f (pf_c 0) := ⟨pf_c 0, pf_fin_c 0, (pf_zero_mul f).symm⟩
theorem pf_dv_t {a b c : PF} (h : pf_dv a b) (h2 : pf_dv b c) : pf_dv a c := by
  obtain ⟨q, hq, e⟩ := h
  obtain ⟨p, hp, e2⟩ := h2
  refine ⟨pf_mul p q, pf_fin_mul hp hq, ?_⟩
  rw [e2, e, pf_mul_assoc]
theorem pf_dv_add {a b c : PF} (h : pf_dv a b) (h2 : pf_dv a c) : pf_dv a (pf_add b c) := by
  obtain ⟨q, hq, e⟩ := h
  obtain ⟨p, hp, e2⟩ := h2
  refine ⟨pf_add q p, pf_fin_add hq hp, ?_⟩
  rw [e, e2, pf_mul_addl]
theorem pf_dv_neg {a b : PF} (h : pf_dv a b) : pf_dv a (pf_neg b) := by
  obtain ⟨q, hq, e⟩ := h
  exact ⟨pf_neg q, pf_fin_neg hq, by rw [e, pf_neg_mul]⟩
theorem pf_dv_sub {a b c : PF} (h : pf_dv a b) (h2 : pf_dv a c) : pf_dv a (pf_sub b c) := pf_dv_add h (pf_dv_neg h2)
theorem pf_dv_ml {a b c : PF} (h : pf_dv a b) (hc : pf_fin c) : pf_dv a (pf_mul c b) := by
  obtain ⟨q, hq, e⟩ := h
  exact ⟨pf_mul c q, pf_fin_mul hc hq, by rw [e, pf_mul_assoc]⟩
theorem pf_dv_mr {a b c : PF} (h : pf_dv a b) (hc : pf_fin c) : pf_dv a (pf_mul b c) := by
  rw [pf_mul_comm]; exact pf_dv_ml h hc
theorem pf_bez (n : Nat) : ∀ f g : PF, pf_fin f → pf_ln g n → ∃ d s t : PF, pf_fin s ∧ pf_fin t ∧ d = pf_add (pf_mul s f) (pf_mul t g) ∧ pf_dv d f ∧ pf_dv d g := by
  induction n with
  | zero =>
    intro f g hf hg
    have e : g = pf_c 0 := by rw [pf_c0]; exact pf_ln_0 hg
    subst e
    refine ⟨f, pf_c 1, pf_c 0, pf_fin_c 1, pf_fin_c 0, ?_, pf_dv_r f, pf_dv_0 f⟩
    letI := pf_ring
    show f = 1 * f + 0 * 0
    grind
  | succ n ih =>
    intro f g hf hg
    rcases pf_hd_of _ g hg with e | ⟨e, he, hge⟩
    · subst e
      refine ⟨f, pf_c 1, pf_c 0, pf_fin_c 1, pf_fin_c 0, ?_, pf_dv_r f, pf_dv_0 f⟩
      letI := pf_ring
      show f = 1 * f + 0 * 0
      grind
    · obtain ⟨m, hm⟩ := hf
      obtain ⟨q, r, hq, hr, efr⟩ := pf_div hge m f hm
      obtain ⟨d, s, t, hs, ht, ed, d1, d2⟩ := ih g r ⟨_, hg⟩ (pf_ln_mono hr (by omega))
      refine ⟨d, t, pf_sub s (pf_mul t q), ht, pf_fin_sub hs (pf_fin_mul ht ⟨_, hq⟩), ?_, ?_, d1⟩
      · letI := pf_ring
        have e1 : f = q * g + r := efr
        have e2 : d = s * g + t * r := ed
        show d = t * f + (s - t * q) * g
        grind
      · rw [efr]; exact pf_dv_add (pf_dv_ml d1 ⟨_, hq⟩) d2
theorem pf_dv_hd {a b : PF} {e : Nat} (h : pf_dv a b) (hb : pf_hd b e) (ha : pf_fin a) : ∃ d q, pf_hd a d ∧ pf_hd q (e - d) ∧ d ≤ e ∧ b = pf_mul q a := by
  obtain ⟨q, hq, eq⟩ := h
  rcases pf_fin_hd hq with z | ⟨c, hc⟩
  · exfalso; apply pf_hd_n0 hb; rw [eq, z, pf_zero_mul]
  · rcases pf_fin_hd ha with z | ⟨d, hd⟩
    · exfalso; apply pf_hd_n0 hb; rw [eq, z, pf_mul_comm, pf_zero_mul]
    · have h1 := pf_mul_hd hc hd
      rw [← eq] at h1
      have h2 := pf_hd_u hb h1
      have h3 : e - d = c := by omega
      exact ⟨d, q, hd, h3 ▸ hc, by omega, eq⟩
def pf_cp (f g : PF) : Prop := ∃ s t : PF, pf_fin s ∧ pf_fin t ∧ pf_add (pf_mul s f) (pf_mul t g) = pf_c 1
theorem pf_cp_s {f g : PF} (h : pf_cp f g) : pf_cp g f := by
  obtain ⟨s, t, hs, ht, e⟩ := h
  refine ⟨t, s, ht, hs, ?_⟩
  letI := pf_ring
  have e1 : s * f + t * g = 1 := e
  show t * g + s * f = 1
  grind
theorem pf_cp_mul {f g h : PF} (ff : pf_fin f) (fg : pf_fin g) (h1 : pf_cp f g) (h2 : pf_cp f h) : pf_cp f (pf_mul g h) := by
  obtain ⟨s, t, hs, ht, e⟩ := h1
  obtain ⟨s', t', hs', ht', e'⟩ := h2
  refine ⟨pf_add s (pf_mul (pf_mul t g) s'), pf_mul t t', pf_fin_add hs (pf_fin_mul (pf_fin_mul ht fg) hs'), pf_fin_mul ht ht', ?_⟩
  letI := pf_ring
  have e1 : s * f + t * g = 1 := e
  have e2 : s' * f + t' * h = 1 := e'
  show (s + (t * g) * s') * f + (t * t') * (g * h) = 1
  grind
theorem pf_cp_1 (f : PF) : pf_cp f (pf_c 1) := by
  refine ⟨pf_c 0, pf_c 1, pf_fin_c 0, pf_fin_c 1, ?_⟩
  letI := pf_ring
  show 0 * f + 1 * 1 = 1
  grind
theorem pf_cp_pow {f g : PF} (ff : pf_fin f) (fg : pf_fin g) (h : pf_cp f g) (n : Nat) : pf_cp f (pf_pow g n) := by
  induction n with
  | zero => exact pf_cp_1 f
  | succ n ih => exact pf_cp_mul ff (pf_fin_pow fg n) ih h
theorem pf_cp_dv {f g h : PF} (c : pf_cp f g) (fh : pf_fin h) (d : pf_dv f (pf_mul g h)) : pf_dv f h := by
  obtain ⟨s, t, hs, ht, e⟩ := c
  obtain ⟨q, hq, eq⟩ := d
  refine ⟨pf_add (pf_mul s h) (pf_mul t q), pf_fin_add (pf_fin_mul hs fh) (pf_fin_mul ht hq), ?_⟩
  letI := pf_ring
  have e1 : s * f + t * g = 1 := e
  have e2 : g * h = q * f := eq
  show h = (s * h + t * q) * f
  grind
theorem pf_c_mul (a b : Fin 5) : pf_mul (pf_c a) (pf_c b) = pf_c (a * b) := by
  rw [pf_mul_cl]; funext k
  by_cases hk : k = 0
  · subst hk; rfl
  · simp only [pf_c, if_neg hk]; grind
theorem pf_hd0 {f : PF} (h : pf_hd f 0) : ∃ c : Fin 5, c ≠ 0 ∧ f = pf_c c := ⟨f 0, h.2, pf_c_of h.1⟩
/-- f can't be split: its divisors have degree 0 or its own -/
def pf_irr (f : PF) (d : Nat) : Prop := pf_hd f d ∧ 1 ≤ d ∧ ∀ (h : PF) (e : Nat), pf_hd h e → pf_dv h f → e = 0 ∨ e = d
theorem pf_irr_cp {f g : PF} {d : Nat} (hf : pf_irr f d) (fg : pf_fin g) (nd : ¬ pf_dv f g) : pf_cp f g := by
  obtain ⟨n, hn⟩ := fg
  obtain ⟨b, s, t, hs, ht, eb, d1, d2⟩ := pf_bez n f g (pf_hd_fin hf.1) hn
  have fb : pf_fin b := by rw [eb]; exact pf_fin_add (pf_fin_mul hs (pf_hd_fin hf.1)) (pf_fin_mul ht ⟨n, hn⟩)
  obtain ⟨e, q, he, hq, hle, efq⟩ := pf_dv_hd d1 hf.1 fb
  rcases hf.2.2 b e he d1 with e0 | ed
  · subst e0
    obtain ⟨c, hc, ec⟩ := pf_hd0 he
    refine ⟨pf_mul (pf_c (c * c * c)) s, pf_mul (pf_c (c * c * c)) t, pf_fin_mul (pf_fin_c _) hs, pf_fin_mul (pf_fin_c _) ht, ?_⟩
    have e3 : pf_mul (pf_c (c * c * c)) (pf_c c) = pf_c 1 := by rw [pf_c_mul, pf_inv c hc]
    rw [← ec] at e3
    generalize pf_c (c * c * c) = i at e3
    letI := pf_ring
    have e1 : b = s * f + t * g := eb
    have e4 : i * b = 1 := e3
    show (i * s) * f + (i * t) * g = 1
    grind
  · exfalso; apply nd
    subst ed
    have z : e - e = 0 := by omega
    rw [z] at hq
    obtain ⟨c, hc, ec⟩ := pf_hd0 hq
    refine pf_dv_t ⟨pf_c (c * c * c), pf_fin_c _, ?_⟩ d2
    rw [efq, ec, ← pf_mul_assoc, pf_c_mul, pf_inv c hc, pf_one_mul]
