section
/-! rows of kit/rows/PURE-ROWS, pasted -/
theorem pk_us {f : Nat → Int32} {k : Nat} {x : Int32} : upd f k x k = x := if_pos rfl
theorem pk_un {f : Nat → Int32} {k j : Nat} {x : Int32} (h : j ≠ k) : upd f k x j = f j := if_neg h
theorem pk_sub {a b : Nat} (h : b ≤ a) : nI a - nI b = nI (a - b) := by
  obtain ⟨c, rfl⟩ : ∃ c, a = c + b := ⟨a - b, by omega⟩
  rw [← nI_add, Int32.add_sub_cancel, Nat.add_sub_cancel]
theorem pk_m1 (n : Nat) : nI (n + 1) + (-1) = nI n := by
  rw [← nI_1, Int32.add_assoc, show (1 : Int32) + (-1) = 0 from rfl, Int32.add_zero]
theorem pk_mul (a b : Nat) : nI a * nI b = nI (a * b) := (Int32.ofNat_mul a b).symm
theorem pk_div {a d : Nat} (ha : a < 2 ^ 31) (h0 : 0 < d) (hd : d < 2 ^ 31) : nI a / nI d = nI (a / d) := by
  apply Int32.toInt_inj.mp
  rw [lg_idiv_nonneg (by rw [nI_toInt ha]; omega) (by rw [nI_toInt hd]; omega), nI_toInt ha, nI_toInt hd, nI_toInt (Nat.lt_of_le_of_lt (Nat.div_le_self a d) ha)]
  first | rfl | exact (Int.natCast_ediv _ _).symm
theorem pk_rem {a d : Nat} (ha : a < 2 ^ 31) (h0 : 0 < d) (hd : d < 2 ^ 31) : nI a - nI a / nI d * nI d = nI (a % d) := by
  rw [pk_div ha h0 hd, pk_mul, pk_sub (Nat.div_mul_le_self a d)]
  exact congrArg nI (by have := Nat.div_add_mod' a d; omega)
theorem pk_sub_toInt {a b : Nat} (ha : a < 2 ^ 30) (hb : b < 2 ^ 30) : (nI a - nI b).toInt = (a : Int) - b := by
  rw [Int32.toInt_sub, nI_toInt (by omega), nI_toInt (by omega)]
  exact Int.bmod_eq_of_le (by omega) (by omega)
theorem pk_sneg {a b : Nat} (hb : b < 2 ^ 30) (h : a < b) : nI a - nI b < 0 := by
  rw [Int32.lt_iff_toInt_lt, pk_sub_toInt (by omega) hb, show (0 : Int32).toInt = 0 from by decide]
  omega
theorem pk_ix (x : Int32) {n : Nat} (hn : n < 2 ^ 31) : x < 0 ∨ nI n ≤ x ∨ ∃ j : Nat, j < n ∧ x = nI j := by
  by_cases h : x < 0
  · exact Or.inl h
  · obtain ⟨j, hj, rfl⟩ := nI_of h
    by_cases h2 : j < n
    · exact Or.inr (Or.inr ⟨j, h2, rfl⟩)
    · exact Or.inr (Or.inl (nI_le (by omega) hj))
theorem pk_le {x y : Int32} {A B : Prop} (a b : Nat) (f : a ≤ b → A) (g : b < a → B) (hx : x = nI a := by rfl) (hy : y = nI b := by rfl) (ha : a < 2 ^ 31 := by omega) (hb : b < 2 ^ 31 := by omega) : (x ≤ y → A) ∧ (¬ x ≤ y → B) := by
  subst hx hy
  rw [nI_leI ha hb]
  exact ⟨f, fun z => g (by omega)⟩
theorem pk_lt {x y : Int32} {A B : Prop} (a b : Nat) (f : a < b → A) (g : b ≤ a → B) (hx : x = nI a := by rfl) (hy : y = nI b := by rfl) (ha : a < 2 ^ 31 := by omega) (hb : b < 2 ^ 31 := by omega) : (x < y → A) ∧ (¬ x < y → B) := by
  subst hx hy
  rw [nI_ltI ha hb]
  exact ⟨f, fun z => g (by omega)⟩
theorem pk_eq {x y : Int32} {A B : Prop} (a b : Nat) (f : a = b → A) (g : a ≠ b → B) (hx : x = nI a := by rfl) (hy : y = nI b := by rfl) (ha : a < 2 ^ 31 := by omega) (hb : b < 2 ^ 31 := by omega) : (x = y → A) ∧ (¬ x = y → B) := by
  subst hx hy
  rw [nI_eq ha hb]
  exact ⟨f, g⟩
theorem pk_in {x : Int32} (n N : Nat) (h : n < N) (hx : x = nI n := by rfl) (hN : N < 2 ^ 31 := by omega) : vp_in x N := by
  subst hx
  exact vp_in_nI h hN
theorem pk_cl {x : Int32} (n : Nat) (hx : x = nI n := by rfl) (h : n < 2 ^ 31 := by omega) : x.toNatClampNeg = n := by
  subst hx
  exact nI_clamp h
theorem pk_loop {σ : Type} (W : Nat → Nat → σ → Prop) (I : Nat → σ → Prop) (e i0 : Nat) (s : σ) (hi : i0 ≤ e) (h0 : I i0 s) (hx : ∀ n s, I e s → W (n + 1) e s)
    (hs : ∀ n i s, i < e → I i s → (∀ s', I (i + 1) s' → W n (i + 1) s') → W (n + 1) i s) : ∃ n, W n i0 s :=
  ⟨e + 1, loop_i W I e hx hs (e + 1) i0 s hi (by omega) h0⟩
theorem pk_loopD {σ : Type} (W : Nat → Nat → σ → Prop) (I : Nat → σ → Prop) (hx : ∀ n s, I 0 s → W (n + 1) 0 s)
    (hs : ∀ n i s, I (i + 1) s → (∀ s', I i s' → W n i s') → W (n + 1) (i + 1) s) : ∀ (e : Nat) (s : σ), I e s → W (e + 1) e s := by
  intro e
  induction e with
  | zero => exact fun s h => hx 0 s h
  | succ e ih => exact fun s h => hs (e + 1) e s h (fun s' h' => ih s' h')
theorem pk_least (P : Nat → Prop) (h : ∃ k, P k) : ∃ k, P k ∧ ∀ j, j < k → ¬ P j := by
  obtain ⟨k, hk⟩ := h
  induction k using Nat.strongRecOn with
  | ind k ih =>
    by_cases e : ∃ j, j < k ∧ P j
    · obtain ⟨j, hj, pj⟩ := e
      exact ih j hj pj
    · exact ⟨k, hk, fun j hj pj => e ⟨j, hj, pj⟩⟩
end
section
/-! Polynomials (and power series) over the numbers modulo 5, as coefficient functions: a commutative ring -/
abbrev PF : Type := Nat → Fin 5
def pf_tl (f : PF) : PF := fun k => f (k + 1)
def pf_add (f g : PF) : PF := fun k => f k + g k
def pf_neg (f : PF) : PF := fun k => - f k
def pf_c (c : Fin 5) : PF := fun k => if k = 0 then c else 0
def pf_mn (c : Fin 5) (j : Nat) : PF := fun k => if k = j then c else 0
def pf_cm : Nat → PF → PF → Fin 5
  | 0, f, g => f 0 * g 0
  | n + 1, f, g => f 0 * g (n + 1) + pf_cm n (pf_tl f) g
def pf_mul (f g : PF) : PF := fun n => pf_cm n f g
def pf_sub (f g : PF) : PF := pf_add f (pf_neg g)
def pf_pow (f : PF) : Nat → PF
  | 0 => pf_c 1
  | n + 1 => pf_mul (pf_pow f n) f
theorem pf_cm_add (n : Nat) : ∀ f f' g : PF, pf_cm n (pf_add f f') g = pf_cm n f g + pf_cm n f' g := by
  induction n with
  | zero => intro f f' g; show (f 0 + f' 0) * g 0 = f 0 * g 0 + f' 0 * g 0; grind
  | succ n ih =>
    intro f f' g
    show (f 0 + f' 0) * g (n + 1) + pf_cm n (pf_add (pf_tl f) (pf_tl f')) g = (f 0 * g (n + 1) + pf_cm n (pf_tl f) g) + (f' 0 * g (n + 1) + pf_cm n (pf_tl f') g)
    rw [ih]; grind
theorem pf_cm_sm (n : Nat) (c : Fin 5) : ∀ f g : PF, pf_cm n (fun k => c * f k) g = c * pf_cm n f g := by
  induction n with
  | zero => intro f g; show (c * f 0) * g 0 = c * (f 0 * g 0); grind
  | succ n ih =>
    intro f g
    show (c * f 0) * g (n + 1) + pf_cm n (fun k => c * (pf_tl f) k) g = c * (f 0 * g (n + 1) + pf_cm n (pf_tl f) g)
    rw [ih]; grind
theorem pf_cm_r (n : Nat) : ∀ f g : PF, pf_cm (n + 1) f g = f (n + 1) * g 0 + pf_cm n f (pf_tl g) := by
  induction n with
  | zero => intro f g; show f 0 * g 1 + f 1 * g 0 = f 1 * g 0 + f 0 * g 1; grind
  | succ n ih =>
    intro f g
    show f 0 * g (n + 1 + 1) + pf_cm (n + 1) (pf_tl f) g = f (n + 1 + 1) * g 0 + (f 0 * g (n + 1 + 1) + pf_cm n (pf_tl f) (pf_tl g))
    rw [ih (pf_tl f) g]
    show f 0 * g (n + 1 + 1) + (f (n + 1 + 1) * g 0 + pf_cm n (pf_tl f) (pf_tl g)) = f (n + 1 + 1) * g 0 + (f 0 * g (n + 1 + 1) + pf_cm n (pf_tl f) (pf_tl g))
    grind
theorem pf_cm_comm (n : Nat) : ∀ f g : PF, pf_cm n f g = pf_cm n g f := by
  induction n with
  | zero => intro f g; show f 0 * g 0 = g 0 * f 0; grind
  | succ n ih =>
    intro f g
    rw [pf_cm_r n g f]
    show f 0 * g (n + 1) + pf_cm n (pf_tl f) g = g (n + 1) * f 0 + pf_cm n g (pf_tl f)
    rw [ih (pf_tl f) g]; grind
theorem pf_cm_assoc (n : Nat) : ∀ f g h : PF, pf_cm n (pf_mul f g) h = pf_cm n f (pf_mul g h) := by
  induction n with
  | zero => intro f g h; show f 0 * g 0 * h 0 = f 0 * (g 0 * h 0); grind
  | succ n ih =>
    intro f g h
    have e : pf_tl (pf_mul f g) = pf_add (fun k => f 0 * pf_tl g k) (pf_mul (pf_tl f) g) := by funext k; rfl
    show f 0 * g 0 * h (n + 1) + pf_cm n (pf_tl (pf_mul f g)) h = f 0 * pf_cm (n + 1) g h + pf_cm n (pf_tl f) (pf_mul g h)
    rw [e, pf_cm_add, pf_cm_sm, ih]
    show f 0 * g 0 * h (n + 1) + (f 0 * pf_cm n (pf_tl g) h + pf_cm n (pf_tl f) (pf_mul g h)) = f 0 * (g 0 * h (n + 1) + pf_cm n (pf_tl g) h) + pf_cm n (pf_tl f) (pf_mul g h)
    grind
theorem pf_cm_z (n : Nat) : ∀ g : PF, pf_cm n (fun _ => 0) g = 0 := by
  induction n with
  | zero => intro g; show 0 * g 0 = 0; grind
  | succ n ih =>
    intro g
    show 0 * g (n + 1) + pf_cm n (fun _ => 0) g = 0
    rw [ih]; grind
theorem pf_tl_c (c : Fin 5) : pf_tl (pf_c c) = fun _ => 0 := by
  funext k; simp [pf_tl, pf_c]
theorem pf_cm_c (n : Nat) (c : Fin 5) (g : PF) : pf_cm n (pf_c c) g = c * g n := by
  cases n with
  | zero => rfl
  | succ n =>
    show c * g (n + 1) + pf_cm n (pf_tl (pf_c c)) g = c * g (n + 1)
    rw [pf_tl_c, pf_cm_z]; grind
theorem pf_mul_comm (f g : PF) : pf_mul f g = pf_mul g f := funext fun n => pf_cm_comm n f g
theorem pf_mul_assoc (f g h : PF) : pf_mul (pf_mul f g) h = pf_mul f (pf_mul g h) := funext fun n => pf_cm_assoc n f g h
theorem pf_mul_addl (f f' g : PF) : pf_mul (pf_add f f') g = pf_add (pf_mul f g) (pf_mul f' g) := funext fun n => pf_cm_add n f f' g
theorem pf_mul_cl (c : Fin 5) (g : PF) : pf_mul (pf_c c) g = fun k => c * g k := funext fun n => pf_cm_c n c g
theorem pf_one_mul (g : PF) : pf_mul (pf_c 1) g = g := by rw [pf_mul_cl]; funext k; grind
theorem pf_zero_mul (g : PF) : pf_mul (pf_c 0) g = pf_c 0 := by
  rw [pf_mul_cl]; funext k; show 0 * g k = if k = 0 then 0 else 0; rw [ite_self]; grind
theorem pf_c0 : pf_c 0 = fun _ => 0 := by funext k; simp [pf_c]
theorem pf_neg_mul (f g : PF) : pf_mul (pf_neg f) g = pf_neg (pf_mul f g) := by
  funext n
  have e : pf_neg f = fun k => (-1) * f k := by funext k; show - f k = (-1) * f k; grind
  show pf_cm n (pf_neg f) g = - pf_cm n f g
  rw [e, pf_cm_sm]; grind
def pf_ic : Int → PF
  | .ofNat n => pf_c (Fin.ofNat 5 n)
  | .negSucc n => pf_neg (pf_c (Fin.ofNat 5 (n + 1)))
theorem pf_neg_neg (f : PF) : pf_neg (pf_neg f) = f := by funext k; show - - f k = f k; grind
theorem pf_neg_c0 : pf_neg (pf_c 0) = pf_c 0 := by
  funext k; rw [pf_c0]; show - (0 : Fin 5) = 0; decide
theorem pf_ic_neg (i : Int) : pf_ic (-i) = pf_neg (pf_ic i) := by
  cases i with
  | ofNat n =>
    cases n with
    | zero => exact pf_neg_c0.symm
    | succ n => rfl
  | negSucc n => exact (pf_neg_neg _).symm
theorem pf_cs (a : Nat) : pf_c (Fin.ofNat 5 (a + 1)) = pf_add (pf_c (Fin.ofNat 5 a)) (pf_c (Fin.ofNat 5 1)) := by
  funext k
  have e : Fin.ofNat 5 (a + 1) = Fin.ofNat 5 a + Fin.ofNat 5 1 := by
    apply Fin.ext; simp [Fin.ofNat, Fin.add_def]
  by_cases hk : k = 0
  · subst hk; exact e
  · simp [pf_c, pf_add, hk]
def pf_ring : Lean.Grind.CommRing PF where
  add := pf_add
  mul := pf_mul
  neg := pf_neg
  sub := pf_sub
  natCast := ⟨fun n => pf_c (Fin.ofNat 5 n)⟩
  ofNat := fun n => ⟨pf_c (Fin.ofNat 5 n)⟩
  nsmul := ⟨fun n f => pf_mul (pf_c (Fin.ofNat 5 n)) f⟩
  npow := ⟨pf_pow⟩
  intCast := ⟨pf_ic⟩
  zsmul := ⟨fun i f => pf_mul (pf_ic i) f⟩
  add_zero := fun f => by
    show pf_add f (pf_c 0) = f
    rw [pf_c0]; funext k; show f k + 0 = f k; grind
  add_comm := fun f g => by
    show pf_add f g = pf_add g f
    funext k; show f k + g k = g k + f k; grind
  add_assoc := fun f g h => by
    show pf_add (pf_add f g) h = pf_add f (pf_add g h)
    funext k; show f k + g k + h k = f k + (g k + h k); grind
  mul_assoc := pf_mul_assoc
  mul_comm := pf_mul_comm
  mul_one := fun f => by
    show pf_mul f (pf_c 1) = f
    rw [pf_mul_comm, pf_one_mul]
  one_mul := pf_one_mul
  left_distrib := fun f g h => by
    show pf_mul f (pf_add g h) = pf_add (pf_mul f g) (pf_mul f h)
    rw [pf_mul_comm, pf_mul_addl, pf_mul_comm g, pf_mul_comm h]
  right_distrib := pf_mul_addl
  zero_mul := pf_zero_mul
  mul_zero := fun f => by
    show pf_mul f (pf_c 0) = pf_c 0
    rw [pf_mul_comm, pf_zero_mul]
  pow_zero := fun _ => rfl
  pow_succ := fun _ _ => rfl
  ofNat_succ := pf_cs
  ofNat_eq_natCast := fun _ => rfl
  nsmul_eq_natCast_mul := fun _ _ => rfl
  neg_add_cancel := fun f => by
    show pf_add (pf_neg f) f = pf_c 0
    rw [pf_c0]; funext k; show - f k + f k = 0; grind
  sub_eq_add_neg := fun _ _ => rfl
  neg_zsmul := fun i f => by
    show pf_mul (pf_ic (-i)) f = pf_neg (pf_mul (pf_ic i) f)
    rw [pf_ic_neg, pf_neg_mul]
  zsmul_natCast_eq_nsmul := fun _ _ => rfl
  intCast_ofNat := fun _ => rfl
  intCast_neg := pf_ic_neg
theorem pf_t1 (a b c : PF) : pf_mul a (pf_sub b c) = pf_sub (pf_mul a b) (pf_mul c a) := by
  letI := pf_ring
  show a * (b - c) = a * b - c * a
  grind
end
section
/-! Lengths, leading numbers, division with rest, greatest common divisors, coprimality -/
def pf_ln (f : PF) (n : Nat) : Prop := ∀ k, n ≤ k → f k = 0
def pf_fin (f : PF) : Prop := ∃ n, pf_ln f n
def pf_hd (f : PF) (d : Nat) : Prop := pf_ln f (d + 1) ∧ f d ≠ 0
theorem pf_ln_mono {f : PF} {n m : Nat} (h : pf_ln f n) (hm : n ≤ m) : pf_ln f m := fun k hk => h k (Nat.le_trans hm hk)
theorem pf_ln_0 {f : PF} (h : pf_ln f 0) : f = fun _ => 0 := funext fun k => h k (Nat.zero_le k)
theorem pf_ln_tl {f : PF} {n : Nat} (h : pf_ln f (n + 1)) : pf_ln (pf_tl f) n := fun k hk => h (k + 1) (Nat.succ_le_succ hk)
theorem pf_cm_ln (n : Nat) : ∀ (f g : PF) (a b : Nat), pf_ln f a → pf_ln g b → a + b ≤ n + 1 → pf_cm n f g = 0 := by
  induction n with
  | zero =>
    intro f g a b hf hg h
    show f 0 * g 0 = 0
    by_cases ha : a = 0
    · rw [hf 0 (by omega)]; grind
    · rw [hg 0 (by omega)]; grind
  | succ n ih =>
    intro f g a b hf hg h
    cases a with
    | zero => rw [pf_ln_0 hf]; exact pf_cm_z _ g
    | succ a =>
      show f 0 * g (n + 1) + pf_cm n (pf_tl f) g = 0
      rw [hg (n + 1) (by omega), ih _ g a b (pf_ln_tl hf) hg (by omega)]; grind
theorem pf_c_of {f : PF} (h : pf_ln f 1) : f = pf_c (f 0) := by
  funext k
  by_cases hk : k = 0
  · subst hk; rfl
  · simp only [pf_c, if_neg hk]; exact h k (by omega)
theorem pf_cm_top (a : Nat) : ∀ (f g : PF) (b : Nat), pf_ln f (a + 1) → pf_ln g (b + 1) → pf_cm (a + b) f g = f a * g b := by
  induction a with
  | zero =>
    intro f g b hf hg
    have e := pf_c_of hf
    have t := pf_cm_c b (f 0) g
    rw [← e] at t
    rw [Nat.zero_add]; exact t
  | succ a ih =>
    intro f g b hf hg
    have e : a + 1 + b = (a + b) + 1 := by omega
    rw [e]
    show f 0 * g (a + b + 1) + pf_cm (a + b) (pf_tl f) g = f (a + 1) * g b
    rw [hg (a + b + 1) (by omega), ih _ _ b (pf_ln_tl hf) hg]
    show f 0 * 0 + f (a + 1) * g b = f (a + 1) * g b
    grind
theorem pf_mul_ln {f g : PF} {a b : Nat} (hf : pf_ln f (a + 1)) (hg : pf_ln g (b + 1)) : pf_ln (pf_mul f g) (a + b + 1) :=
  fun k hk => pf_cm_ln k f g (a + 1) (b + 1) hf hg (by omega)
theorem pf_mul_ln' {f g : PF} {a b : Nat} (hf : pf_ln f a) (hg : pf_ln g b) : pf_ln (pf_mul f g) (a + b) :=
  fun k hk => pf_cm_ln k f g a b hf hg (by omega)
theorem pf_nz : ∀ x y : Fin 5, x ≠ 0 → y ≠ 0 → x * y ≠ 0 := by decide
theorem pf_inv : ∀ x : Fin 5, x ≠ 0 → x * x * x * x = 1 := by decide
theorem pf_mul_hd {f g : PF} {a b : Nat} (hf : pf_hd f a) (hg : pf_hd g b) : pf_hd (pf_mul f g) (a + b) :=
  ⟨pf_mul_ln hf.1 hg.1, by
    show pf_cm (a + b) f g ≠ 0
    rw [pf_cm_top a f g b hf.1 hg.1]; exact pf_nz _ _ hf.2 hg.2⟩
theorem pf_hd_of (n : Nat) : ∀ f : PF, pf_ln f n → f = pf_c 0 ∨ ∃ d, d < n ∧ pf_hd f d := by
  induction n with
  | zero => intro f h; left; rw [pf_c0]; exact pf_ln_0 h
  | succ n ih =>
    intro f h
    by_cases hn : f n = 0
    · have h' : pf_ln f n := fun k hk => by
        by_cases e : k = n
        · rw [e]; exact hn
        · exact h k (by omega)
      rcases ih f h' with h1 | ⟨d, hd, h2⟩
      · exact Or.inl h1
      · exact Or.inr ⟨d, by omega, h2⟩
    · exact Or.inr ⟨n, by omega, h, hn⟩
theorem pf_hd_lt {f : PF} {d n : Nat} (h : pf_hd f d) (hn : pf_ln f n) : d < n := by
  by_cases c : d < n
  · exact c
  · exact absurd (hn d (by omega)) h.2
theorem pf_hd_u {f : PF} {a b : Nat} (ha : pf_hd f a) (hb : pf_hd f b) : a = b := by
  have h1 := pf_hd_lt ha hb.1
  have h2 := pf_hd_lt hb ha.1
  omega
theorem pf_hd_n0 {f : PF} {d : Nat} (h : pf_hd f d) : f ≠ pf_c 0 := by
  intro e; apply h.2; rw [e, pf_c0]
theorem pf_c_ln (c : Fin 5) : pf_ln (pf_c c) 1 := fun k hk => by
  have : ¬ k = 0 := by omega
  simp only [pf_c, if_neg this]
theorem pf_mn_ln (c : Fin 5) (j : Nat) : pf_ln (pf_mn c j) (j + 1) := fun k hk => by
  have : ¬ k = j := by omega
  simp only [pf_mn, if_neg this]
theorem pf_add_ln {f g : PF} {n : Nat} (hf : pf_ln f n) (hg : pf_ln g n) : pf_ln (pf_add f g) n := fun k hk => by
  show f k + g k = 0
  rw [hf k hk, hg k hk]; decide
theorem pf_neg_ln {f : PF} {n : Nat} (hf : pf_ln f n) : pf_ln (pf_neg f) n := fun k hk => by
  show - f k = 0
  rw [hf k hk]; decide
theorem pf_sub_ln {f g : PF} {n : Nat} (hf : pf_ln f n) (hg : pf_ln g n) : pf_ln (pf_sub f g) n := pf_add_ln hf (pf_neg_ln hg)
theorem pf_fin_c (c : Fin 5) : pf_fin (pf_c c) := ⟨1, pf_c_ln c⟩
theorem pf_fin_add {f g : PF} (hf : pf_fin f) (hg : pf_fin g) : pf_fin (pf_add f g) := by
  obtain ⟨a, ha⟩ := hf
  obtain ⟨b, hb⟩ := hg
  exact ⟨a + b, pf_add_ln (pf_ln_mono ha (by omega)) (pf_ln_mono hb (by omega))⟩
theorem pf_fin_neg {f : PF} (hf : pf_fin f) : pf_fin (pf_neg f) := by
  obtain ⟨a, ha⟩ := hf
  exact ⟨a, pf_neg_ln ha⟩
theorem pf_fin_sub {f g : PF} (hf : pf_fin f) (hg : pf_fin g) : pf_fin (pf_sub f g) := pf_fin_add hf (pf_fin_neg hg)
theorem pf_fin_mul {f g : PF} (hf : pf_fin f) (hg : pf_fin g) : pf_fin (pf_mul f g) := by
  obtain ⟨a, ha⟩ := hf
  obtain ⟨b, hb⟩ := hg
  exact ⟨a + b, pf_mul_ln' ha hb⟩
theorem pf_fin_pow {f : PF} (hf : pf_fin f) (n : Nat) : pf_fin (pf_pow f n) := by
  induction n with
  | zero => exact pf_fin_c 1
  | succ n ih => exact pf_fin_mul ih hf
theorem pf_fin_hd {f : PF} (hf : pf_fin f) : f = pf_c 0 ∨ ∃ d, pf_hd f d := by
  obtain ⟨a, ha⟩ := hf
  rcases pf_hd_of a f ha with h | ⟨d, _, h⟩
  · exact Or.inl h
  · exact Or.inr ⟨d, h⟩
theorem pf_hd_fin {f : PF} {d : Nat} (h : pf_hd f d) : pf_fin f := ⟨_, h.1⟩
theorem pf_mn_cm (n : Nat) : ∀ (c : Fin 5) (j : Nat) (g : PF), pf_cm n (pf_mn c j) g = if j ≤ n then c * g (n - j) else 0 := by
  induction n with
  | zero =>
    intro c j g
    show pf_mn c j 0 * g 0 = _
    cases j with
    | zero => rfl
    | succ j =>
      have h1 : pf_mn c (j + 1) 0 = 0 := by simp [pf_mn]
      have h2 : ¬ j + 1 ≤ 0 := by omega
      rw [h1, if_neg h2]; grind
  | succ n ih =>
    intro c j g
    show pf_mn c j 0 * g (n + 1) + pf_cm n (pf_tl (pf_mn c j)) g = _
    cases j with
    | zero =>
      have e : pf_tl (pf_mn c 0) = fun _ => 0 := by funext k; simp [pf_tl, pf_mn]
      have h1 : pf_mn c 0 0 = c := rfl
      rw [e, pf_cm_z, h1, if_pos (Nat.zero_le _)]
      show c * g (n + 1) + 0 = c * g (n + 1)
      grind
    | succ j =>
      have e : pf_tl (pf_mn c (j + 1)) = pf_mn c j := by funext k; simp [pf_tl, pf_mn]
      have h1 : pf_mn c (j + 1) 0 = 0 := by simp [pf_mn]
      rw [e, ih, h1]
      by_cases h : j ≤ n
      · have h3 : j + 1 ≤ n + 1 := by omega
        have h4 : n + 1 - (j + 1) = n - j := by omega
        rw [if_pos h, if_pos h3, h4]; grind
      · have h3 : ¬ j + 1 ≤ n + 1 := by omega
        rw [if_neg h, if_neg h3]; grind
theorem pf_div {g : PF} {d : Nat} (hg : pf_hd g d) (n : Nat) : ∀ f : PF, pf_ln f n → ∃ q r : PF, pf_ln q (n - d) ∧ pf_ln r d ∧ f = pf_add (pf_mul q g) r := by
  induction n with
  | zero =>
    intro f hf
    refine ⟨pf_c 0, f, ?_, pf_ln_mono hf (by omega), ?_⟩
    · rw [pf_c0]; exact fun k _ => rfl
    · letI := pf_ring
      show f = 0 * g + f
      grind
  | succ n ih =>
    intro f hf
    by_cases h : n < d
    · refine ⟨pf_c 0, f, ?_, pf_ln_mono hf (by omega), ?_⟩
      · rw [pf_c0]; exact fun k _ => rfl
      · letI := pf_ring
        show f = 0 * g + f
        grind
    · have hl : pf_ln (pf_sub f (pf_mul (pf_mn (f n * (g d * g d * g d)) (n - d)) g)) n := by
        intro k hk
        show f k + - pf_cm k (pf_mn (f n * (g d * g d * g d)) (n - d)) g = 0
        rw [pf_mn_cm, if_pos (by omega)]
        by_cases e : k = n
        · have e1 : k - (n - d) = d := by omega
          have e2 := pf_inv (g d) hg.2
          rw [e1, e]; grind
        · rw [hf k (by omega), hg.1 (k - (n - d)) (by omega)]; grind
      obtain ⟨q, r, h1, h2, h3⟩ := ih _ hl
      refine ⟨pf_add q (pf_mn (f n * (g d * g d * g d)) (n - d)), r, ?_, h2, ?_⟩
      · refine pf_add_ln (pf_ln_mono h1 (by omega)) (pf_ln_mono (pf_mn_ln _ _) (by omega))
      · generalize pf_mn (f n * (g d * g d * g d)) (n - d) = t at h3
        letI := pf_ring
        have h4 : f - t * g = q * g + r := h3
        show f = (q + t) * g + r
        grind
def pf_dv (g f : PF) : Prop := ∃ q : PF, pf_fin q ∧ f = pf_mul q g
theorem pf_dv_r (f : PF) : pf_dv f f := ⟨pf_c 1, pf_fin_c 1, (pf_one_mul f).symm⟩
theorem pf_dv_0 (f : PF) : pf_dv f (pf_c 0) := ⟨pf_c 0, pf_fin_c 0, (pf_zero_mul f).symm⟩
theorem pf_dv_t {a b c : PF} (h : pf_dv a b) (h2 : pf_dv b c) : pf_dv a c := by
  obtain ⟨q, hq, e⟩ := h
  obtain ⟨p, hp, e2⟩ := h2
  refine ⟨pf_mul p q, pf_fin_mul hp hq, ?_⟩
  rw [e2, e, pf_mul_assoc]
theorem pf_dv_add {a b c : PF} (h : pf_dv a b) (h2 : pf_dv a c) : pf_dv a (pf_add b c) := by
  obtain ⟨q, hq, e⟩ := h
  obtain ⟨p, hp, e2⟩ := h2
  refine ⟨pf_add q p, pf_fin_add hq hp, ?_⟩
  rw [e, e2, pf_mul_addl]
theorem pf_dv_neg {a b : PF} (h : pf_dv a b) : pf_dv a (pf_neg b) := by
  obtain ⟨q, hq, e⟩ := h
  exact ⟨pf_neg q, pf_fin_neg hq, by rw [e, pf_neg_mul]⟩
theorem pf_dv_sub {a b c : PF} (h : pf_dv a b) (h2 : pf_dv a c) : pf_dv a (pf_sub b c) := pf_dv_add h (pf_dv_neg h2)
theorem pf_dv_ml {a b c : PF} (h : pf_dv a b) (hc : pf_fin c) : pf_dv a (pf_mul c b) := by
  obtain ⟨q, hq, e⟩ := h
  exact ⟨pf_mul c q, pf_fin_mul hc hq, by rw [e, pf_mul_assoc]⟩
theorem pf_dv_mr {a b c : PF} (h : pf_dv a b) (hc : pf_fin c) : pf_dv a (pf_mul b c) := by
  rw [pf_mul_comm]; exact pf_dv_ml h hc
theorem pf_bez (n : Nat) : ∀ f g : PF, pf_fin f → pf_ln g n → ∃ d s t : PF, pf_fin s ∧ pf_fin t ∧ d = pf_add (pf_mul s f) (pf_mul t g) ∧ pf_dv d f ∧ pf_dv d g := by
  induction n with
  | zero =>
    intro f g hf hg
    have e : g = pf_c 0 := by rw [pf_c0]; exact pf_ln_0 hg
    subst e
    refine ⟨f, pf_c 1, pf_c 0, pf_fin_c 1, pf_fin_c 0, ?_, pf_dv_r f, pf_dv_0 f⟩
    letI := pf_ring
    show f = 1 * f + 0 * 0
    grind
  | succ n ih =>
    intro f g hf hg
    rcases pf_hd_of _ g hg with e | ⟨e, he, hge⟩
    · subst e
      refine ⟨f, pf_c 1, pf_c 0, pf_fin_c 1, pf_fin_c 0, ?_, pf_dv_r f, pf_dv_0 f⟩
      letI := pf_ring
      show f = 1 * f + 0 * 0
      grind
    · obtain ⟨m, hm⟩ := hf
      obtain ⟨q, r, hq, hr, efr⟩ := pf_div hge m f hm
      obtain ⟨d, s, t, hs, ht, ed, d1, d2⟩ := ih g r ⟨_, hg⟩ (pf_ln_mono hr (by omega))
      refine ⟨d, t, pf_sub s (pf_mul t q), ht, pf_fin_sub hs (pf_fin_mul ht ⟨_, hq⟩), ?_, ?_, d1⟩
      · letI := pf_ring
        have e1 : f = q * g + r := efr
        have e2 : d = s * g + t * r := ed
        show d = t * f + (s - t * q) * g
        grind
      · rw [efr]; exact pf_dv_add (pf_dv_ml d1 ⟨_, hq⟩) d2
theorem pf_dv_hd {a b : PF} {e : Nat} (h : pf_dv a b) (hb : pf_hd b e) (ha : pf_fin a) : ∃ d q, pf_hd a d ∧ pf_hd q (e - d) ∧ d ≤ e ∧ b = pf_mul q a := by
  obtain ⟨q, hq, eq⟩ := h
  rcases pf_fin_hd hq with z | ⟨c, hc⟩
  · exfalso; apply pf_hd_n0 hb; rw [eq, z, pf_zero_mul]
  · rcases pf_fin_hd ha with z | ⟨d, hd⟩
    · exfalso; apply pf_hd_n0 hb; rw [eq, z, pf_mul_comm, pf_zero_mul]
    · have h1 := pf_mul_hd hc hd
      rw [← eq] at h1
      have h2 := pf_hd_u hb h1
      have h3 : e - d = c := by omega
      exact ⟨d, q, hd, h3 ▸ hc, by omega, eq⟩
def pf_cp (f g : PF) : Prop := ∃ s t : PF, pf_fin s ∧ pf_fin t ∧ pf_add (pf_mul s f) (pf_mul t g) = pf_c 1
theorem pf_cp_s {f g : PF} (h : pf_cp f g) : pf_cp g f := by
  obtain ⟨s, t, hs, ht, e⟩ := h
  refine ⟨t, s, ht, hs, ?_⟩
  letI := pf_ring
  have e1 : s * f + t * g = 1 := e
  show t * g + s * f = 1
  grind
theorem pf_cp_mul {f g h : PF} (ff : pf_fin f) (fg : pf_fin g) (h1 : pf_cp f g) (h2 : pf_cp f h) : pf_cp f (pf_mul g h) := by
  obtain ⟨s, t, hs, ht, e⟩ := h1
  obtain ⟨s', t', hs', ht', e'⟩ := h2
  refine ⟨pf_add s (pf_mul (pf_mul t g) s'), pf_mul t t', pf_fin_add hs (pf_fin_mul (pf_fin_mul ht fg) hs'), pf_fin_mul ht ht', ?_⟩
  letI := pf_ring
  have e1 : s * f + t * g = 1 := e
  have e2 : s' * f + t' * h = 1 := e'
  show (s + (t * g) * s') * f + (t * t') * (g * h) = 1
  grind
theorem pf_cp_1 (f : PF) : pf_cp f (pf_c 1) := by
  refine ⟨pf_c 0, pf_c 1, pf_fin_c 0, pf_fin_c 1, ?_⟩
  letI := pf_ring
  show 0 * f + 1 * 1 = 1
  grind
theorem pf_cp_pow {f g : PF} (ff : pf_fin f) (fg : pf_fin g) (h : pf_cp f g) (n : Nat) : pf_cp f (pf_pow g n) := by
  induction n with
  | zero => exact pf_cp_1 f
  | succ n ih => exact pf_cp_mul ff (pf_fin_pow fg n) ih h
theorem pf_cp_dv {f g h : PF} (c : pf_cp f g) (fh : pf_fin h) (d : pf_dv f (pf_mul g h)) : pf_dv f h := by
  obtain ⟨s, t, hs, ht, e⟩ := c
  obtain ⟨q, hq, eq⟩ := d
  refine ⟨pf_add (pf_mul s h) (pf_mul t q), pf_fin_add (pf_fin_mul hs fh) (pf_fin_mul ht hq), ?_⟩
  letI := pf_ring
  have e1 : s * f + t * g = 1 := e
  have e2 : g * h = q * f := eq
  show h = (s * h + t * q) * f
  grind
theorem pf_c_mul (a b : Fin 5) : pf_mul (pf_c a) (pf_c b) = pf_c (a * b) := by
  rw [pf_mul_cl]; funext k
  by_cases hk : k = 0
  · subst hk; rfl
  · simp only [pf_c, if_neg hk]; grind
theorem pf_hd0 {f : PF} (h : pf_hd f 0) : ∃ c : Fin 5, c ≠ 0 ∧ f = pf_c c := ⟨f 0, h.2, pf_c_of h.1⟩
/-- f can't be split: its divisors have degree 0 or its own -/
def pf_irr (f : PF) (d : Nat) : Prop := pf_hd f d ∧ 1 ≤ d ∧ ∀ (h : PF) (e : Nat), pf_hd h e → pf_dv h f → e = 0 ∨ e = d
theorem pf_irr_cp {f g : PF} {d : Nat} (hf : pf_irr f d) (fg : pf_fin g) (nd : ¬ pf_dv f g) : pf_cp f g := by
  obtain ⟨n, hn⟩ := fg
  obtain ⟨b, s, t, hs, ht, eb, d1, d2⟩ := pf_bez n f g (pf_hd_fin hf.1) hn
  have fb : pf_fin b := by rw [eb]; exact pf_fin_add (pf_fin_mul hs (pf_hd_fin hf.1)) (pf_fin_mul ht ⟨n, hn⟩)
  obtain ⟨e, q, he, hq, hle, efq⟩ := pf_dv_hd d1 hf.1 fb
  rcases hf.2.2 b e he d1 with e0 | ed
  · subst e0
    obtain ⟨c, hc, ec⟩ := pf_hd0 he
    refine ⟨pf_mul (pf_c (c * c * c)) s, pf_mul (pf_c (c * c * c)) t, pf_fin_mul (pf_fin_c _) hs, pf_fin_mul (pf_fin_c _) ht, ?_⟩
    have e3 : pf_mul (pf_c (c * c * c)) (pf_c c) = pf_c 1 := by rw [pf_c_mul, pf_inv c hc]
    rw [← ec] at e3
    generalize pf_c (c * c * c) = i at e3
    letI := pf_ring
    have e1 : b = s * f + t * g := eb
    have e4 : i * b = 1 := e3
    show (i * s) * f + (i * t) * g = 1
    grind
  · exfalso; apply nd
    subst ed
    have z : e - e = 0 := by omega
    rw [z] at hq
    obtain ⟨c, hc, ec⟩ := pf_hd0 hq
    refine pf_dv_t ⟨pf_c (c * c * c), pf_fin_c _, ?_⟩ d2
    rw [efq, ec, ← pf_mul_assoc, pf_c_mul, pf_inv c hc, pf_one_mul]
end
section
/-! Sums; the columns of partial fractions are independent; pivots of a system without a kernel -/
def pf_sm (h : Nat → Fin 5) : Nat → Fin 5
  | 0 => 0
  | n + 1 => pf_sm h n + h n
def pf_sP (h : Nat → PF) : Nat → PF
  | 0 => pf_c 0
  | n + 1 => pf_add (pf_sP h n) (h n)
theorem pf_sP_at (h : Nat → PF) (k n : Nat) : pf_sP h n k = pf_sm (fun i => h i k) n := by
  induction n with
  | zero => show pf_c 0 k = 0; rw [pf_c0]
  | succ n ih => show pf_sP h n k + h n k = pf_sm (fun i => h i k) n + h n k; rw [ih]
theorem pf_sm_split (h : Nat → Fin 5) (a b : Nat) : pf_sm h (a + b) = pf_sm h a + pf_sm (fun i => h (a + i)) b := by
  induction b with
  | zero => show pf_sm h a = pf_sm h a + 0; grind
  | succ b ih =>
    show pf_sm h (a + b) + h (a + b) = pf_sm h a + (pf_sm (fun i => h (a + i)) b + h (a + b))
    rw [ih]; grind
theorem pf_sP_split (h : Nat → PF) (a b : Nat) : pf_sP h (a + b) = pf_add (pf_sP h a) (pf_sP (fun i => h (a + i)) b) := by
  funext k
  show pf_sP h (a + b) k = pf_sP h a k + pf_sP (fun i => h (a + i)) b k
  rw [pf_sP_at, pf_sP_at, pf_sP_at, pf_sm_split]
theorem pf_sm_congr {h h' : Nat → Fin 5} {n : Nat} (e : ∀ i, i < n → h i = h' i) : pf_sm h n = pf_sm h' n := by
  induction n with
  | zero => rfl
  | succ n ih =>
    show pf_sm h n + h n = pf_sm h' n + h' n
    rw [ih (fun i hi => e i (by omega)), e n (by omega)]
theorem pf_sP_congr {h h' : Nat → PF} {n : Nat} (e : ∀ i, i < n → h i = h' i) : pf_sP h n = pf_sP h' n := by
  induction n with
  | zero => rfl
  | succ n ih =>
    show pf_add (pf_sP h n) (h n) = pf_add (pf_sP h' n) (h' n)
    rw [ih (fun i hi => e i (by omega)), e n (by omega)]
theorem pf_sm_0 {h : Nat → Fin 5} {n : Nat} (e : ∀ i, i < n → h i = 0) : pf_sm h n = 0 := by
  induction n with
  | zero => rfl
  | succ n ih =>
    show pf_sm h n + h n = 0
    rw [ih (fun i hi => e i (by omega)), e n (by omega)]; decide
def pf_C (x : Nat → Fin 5) (o e : Nat) : PF := fun k => if k < e then x (o + k) else 0
theorem pf_C_s (x : Nat → Fin 5) (o e : Nat) : pf_C x o (e + 1) = pf_add (pf_C x o e) (pf_mn (x (o + e)) e) := by
  funext k
  show (if k < e + 1 then x (o + k) else 0) = (if k < e then x (o + k) else 0) + (if k = e then x (o + e) else 0)
  by_cases h1 : k < e
  · rw [if_pos h1, if_pos (by omega), if_neg (by omega)]; grind
  · by_cases h2 : k = e
    · subst h2; rw [if_neg h1, if_pos (by omega), if_pos rfl]; grind
    · rw [if_neg h1, if_neg (by omega), if_neg h2]; decide
theorem pf_C_ln (x : Nat → Fin 5) (o e : Nat) : pf_ln (pf_C x o e) e := fun k hk => by
  show (if k < e then x (o + k) else 0) = 0
  rw [if_neg (by omega)]
theorem pf_blk_in (q1 : PF) (x : Nat → Fin 5) (o e : Nat) : pf_sP (fun i => pf_mul (pf_mn (x (o + i)) i) q1) e = pf_mul (pf_C x o e) q1 := by
  induction e with
  | zero =>
    have z : pf_C x o 0 = pf_c 0 := by rw [pf_c0]; exact pf_ln_0 (pf_C_ln x o 0)
    rw [z, pf_zero_mul]; rfl
  | succ e ih =>
    show pf_add (pf_sP (fun i => pf_mul (pf_mn (x (o + i)) i) q1) e) (pf_mul (pf_mn (x (o + e)) e) q1) = _
    rw [ih, pf_C_s, pf_mul_addl]
def pf_S (x : Nat → Fin 5) (o : Nat) (F : PF) (D : Nat) : Nat → PF
  | 0 => pf_c 0
  | l + 1 => pf_add (pf_mul F (pf_S x o F D l)) (pf_C x (o + l * D) D)
theorem pf_blk {x : Nat → Fin 5} {o : Nat} {F : PF} {D n : Nat} {q : Nat → PF} (hD : 0 < D) (hq : ∀ j, j < n → q j = pf_mul F (q (j + 1))) :
    ∀ l, l ≤ n → pf_sP (fun b => pf_mul (pf_mn (x (o + b)) (b % D)) (q (1 + b / D))) (l * D) = pf_mul (q l) (pf_S x o F D l) := by
  intro l
  induction l with
  | zero =>
    intro _
    rw [Nat.zero_mul]
    show pf_c 0 = pf_mul (q 0) (pf_c 0)
    rw [pf_mul_comm, pf_zero_mul]
  | succ l ih =>
    intro hl
    rw [Nat.succ_mul, pf_sP_split, ih (by omega)]
    have e : pf_sP (fun i => pf_mul (pf_mn (x (o + (l * D + i))) ((l * D + i) % D)) (q (1 + (l * D + i) / D))) D = pf_sP (fun i => pf_mul (pf_mn (x (o + l * D + i)) i) (q (l + 1))) D := by
      apply pf_sP_congr
      intro i hi
      have e1 : (l * D + i) % D = i := by rw [Nat.add_comm, Nat.add_mul_mod_self_right]; exact Nat.mod_eq_of_lt hi
      have e2 : (l * D + i) / D = l := by
        rw [Nat.add_comm, Nat.add_mul_div_right _ _ hD, Nat.div_eq_of_lt hi]; omega
      have e3 : o + (l * D + i) = o + l * D + i := by omega
      have e4 : 1 + l = l + 1 := by omega
      rw [e1, e2, e3, e4]
    rw [e, pf_blk_in, hq l (by omega)]
    generalize q (l + 1) = Q
    show pf_add (pf_mul (pf_mul F Q) (pf_S x o F D l)) (pf_mul (pf_C x (o + l * D) D) Q) = pf_mul Q (pf_add (pf_mul F (pf_S x o F D l)) (pf_C x (o + l * D) D))
    generalize pf_S x o F D l = S
    generalize pf_C x (o + l * D) D = C
    letI := pf_ring
    show (F * Q) * S + C * Q = Q * (F * S + C)
    grind
theorem pf_S_ln {x : Nat → Fin 5} {o : Nat} {F : PF} {D : Nat} (hF : pf_ln F (D + 1)) : ∀ l, pf_ln (pf_S x o F D l) (l * D) := by
  intro l
  induction l with
  | zero =>
    intro k _
    show pf_c 0 k = 0
    rw [pf_c0]
  | succ l ih =>
    rw [Nat.succ_mul]
    refine pf_add_ln (fun k hk => pf_cm_ln k F _ (D + 1) (l * D) hF ih (by omega)) (pf_ln_mono (pf_C_ln _ _ _) (by omega))
theorem pf_S_0 {x : Nat → Fin 5} {o : Nat} {F : PF} {D : Nat} (hF : pf_hd F D) : ∀ l, pf_S x o F D l = pf_c 0 → ∀ b, b < l * D → x (o + b) = 0 := by
  intro l
  induction l with
  | zero => intro _ b hb; omega
  | succ l ih =>
    intro h b hb
    have h : pf_add (pf_mul F (pf_S x o F D l)) (pf_C x (o + l * D) D) = pf_c 0 := h
    rcases pf_fin_hd ⟨_, pf_S_ln (x := x) (o := o) hF.1 l⟩ with z | ⟨e, he⟩
    · by_cases hb2 : b < l * D
      · exact ih z b hb2
      · rw [Nat.succ_mul] at hb
        have h2 := congrFun h (b - l * D)
        rw [z, pf_mul_comm, pf_zero_mul] at h2
        have h3 : pf_c 0 (b - l * D) + pf_C x (o + l * D) D (b - l * D) = pf_c 0 (b - l * D) := h2
        rw [pf_c0] at h3
        have h4 : pf_C x (o + l * D) D (b - l * D) = x (o + b) := by
          show (if b - l * D < D then x (o + l * D + (b - l * D)) else 0) = x (o + b)
          rw [if_pos (by omega)]
          congr 1; omega
        rw [h4] at h3
        have h5 : (0 : Fin 5) + x (o + b) = 0 := h3
        grind
    · exfalso
      have h1 := (pf_mul_hd hF he).2
      have h2 := congrFun h (D + e)
      have h3 : pf_mul F (pf_S x o F D l) (D + e) + pf_C x (o + l * D) D (D + e) = pf_c 0 (D + e) := h2
      rw [pf_C_ln _ _ _ (D + e) (by omega), pf_c0] at h3
      apply h1
      have h5 : pf_mul F (pf_S x o F D l) (D + e) + 0 = (0 : Fin 5) := h3
      grind
theorem pf_sP_dv0 {P : PF} {h : Nat → PF} {m : Nat} (e : ∀ j, j < m → pf_dv P (h j)) : pf_dv P (pf_sP h m) := by
  induction m with
  | zero => exact pf_dv_0 P
  | succ m ih => exact pf_dv_add (ih (fun j hj => e j (by omega))) (e m (by omega))
theorem pf_add_sub (f g : PF) : pf_sub (pf_add f g) f = g := by
  letI := pf_ring
  show f + g - f = g
  grind
theorem pf_add_sub' (f g : PF) : pf_sub (pf_add f g) g = f := by
  letI := pf_ring
  show f + g - g = f
  grind
theorem pf_sP_dv {P : PF} {h : Nat → PF} {i : Nat} : ∀ m, i < m → (∀ j, j < m → j ≠ i → pf_dv P (h j)) → pf_dv P (pf_sP h m) → pf_dv P (h i) := by
  intro m
  induction m with
  | zero => intro hi; omega
  | succ m ih =>
    intro hi e d
    by_cases c : i = m
    · subst c
      have d1 := pf_sP_dv0 (P := P) (h := h) (m := i) (fun j hj => e j (by omega) (by omega))
      have d2 := pf_dv_sub d d1
      have d3 : pf_dv P (pf_sub (pf_add (pf_sP h i) (h i)) (pf_sP h i)) := d2
      rw [pf_add_sub] at d3
      exact d3
    · have d2 := pf_dv_sub d (e m (by omega) (by omega))
      have d3 : pf_dv P (pf_sub (pf_add (pf_sP h m) (h m)) (h m)) := d2
      rw [pf_add_sub'] at d3
      exact ih (by omega) (fun j hj => e j (by omega)) d3
theorem pf_q_pow {F : PF} {n : Nat} {q : Nat → PF} (hq : ∀ j, j < n → q j = pf_mul F (q (j + 1))) : ∀ l, l ≤ n → q 0 = pf_mul (pf_pow F l) (q l) := by
  intro l
  induction l with
  | zero => intro _; exact (pf_one_mul _).symm
  | succ l ih =>
    intro hl
    rw [ih (by omega), hq l (by omega), ← pf_mul_assoc]
    rfl
theorem pf_hd_c {c : Fin 5} (h : c ≠ 0) : pf_hd (pf_c c) 0 := ⟨pf_c_ln c, h⟩
theorem pf_pow_hd {F : PF} {D : Nat} (h : pf_hd F D) (n : Nat) : pf_hd (pf_pow F n) (n * D) := by
  induction n with
  | zero => rw [Nat.zero_mul]; exact pf_hd_c (by decide)
  | succ n ih => rw [Nat.succ_mul]; exact pf_mul_hd ih h
theorem pf_indep {a : PF} {m : Nat} {F : Nat → PF} {D n : Nat → Nat} {q : Nat → Nat → PF} {x : Nat → Fin 5} {o : Nat → Nat}
    (hF : ∀ i, i < m → pf_hd (F i) (D i) ∧ 0 < D i)
    (hc : ∀ i, i < m → ∀ j, j < m → i ≠ j → pf_cp (F i) (F j))
    (hq0 : ∀ i, i < m → q i 0 = a)
    (hqs : ∀ i, i < m → ∀ j, j < n i → q i j = pf_mul (F i) (q i (j + 1)))
    (hfq : ∀ i, i < m → pf_fin (q i (n i)))
    (hx : ∀ i, i < m → pf_cp (F i) (q i (n i)))
    (hs : pf_sP (fun i => pf_sP (fun b => pf_mul (pf_mn (x (o i + b)) (b % D i)) (q i (1 + b / D i))) (n i * D i)) m = pf_c 0) :
    ∀ i, i < m → ∀ b, b < n i * D i → x (o i + b) = 0 := by
  intro i hi
  have e1 : pf_sP (fun i => pf_mul (q i (n i)) (pf_S x (o i) (F i) (D i) (n i))) m = pf_c 0 := by
    rw [← hs]; apply pf_sP_congr
    intro j hj
    exact (pf_blk (hF j hj).2 (hqs j hj) (n j) (Nat.le_refl _)).symm
  have fF : ∀ j, j < m → pf_fin (F j) := fun j hj => pf_hd_fin (hF j hj).1
  have fS : ∀ j, j < m → pf_fin (pf_S x (o j) (F j) (D j) (n j)) := fun j hj => ⟨_, pf_S_ln (hF j hj).1.1 _⟩
  have d1 : ∀ j, j < m → j ≠ i → pf_dv (pf_pow (F i) (n i)) (pf_mul (q j (n j)) (pf_S x (o j) (F j) (D j) (n j))) := by
    intro j hj hji
    apply pf_dv_mr _ (fS j hj)
    have c1 : pf_cp (F j) (pf_pow (F i) (n i)) := pf_cp_pow (fF j hj) (fF i hi) (hc j hj i hi hji) _
    have c2 : pf_cp (pf_pow (F i) (n i)) (pf_pow (F j) (n j)) := pf_cp_pow (pf_fin_pow (fF i hi) _) (fF j hj) (pf_cp_s c1) _
    apply pf_cp_dv c2 (hfq j hj)
    rw [← pf_q_pow (hqs j hj) (n j) (Nat.le_refl _), hq0 j hj, ← hq0 i hi, pf_q_pow (hqs i hi) (n i) (Nat.le_refl _)]
    exact pf_dv_mr (pf_dv_r _) (hfq i hi)
  have d2 : pf_dv (pf_pow (F i) (n i)) (pf_sP (fun i => pf_mul (q i (n i)) (pf_S x (o i) (F i) (D i) (n i))) m) := by
    rw [e1]; exact pf_dv_0 _
  have d3 : pf_dv (pf_pow (F i) (n i)) (pf_mul (q i (n i)) (pf_S x (o i) (F i) (D i) (n i))) := pf_sP_dv m hi d1 d2
  have c3 : pf_cp (pf_pow (F i) (n i)) (q i (n i)) := pf_cp_s (pf_cp_pow (hfq i hi) (fF i hi) (pf_cp_s (hx i hi)) _)
  have d4 := pf_cp_dv c3 (fS i hi) d3
  apply pf_S_0 (hF i hi).1
  rcases pf_hd_of _ _ (pf_S_ln (x := x) (o := o i) (hF i hi).1.1 (n i)) with z | ⟨e, he, hh⟩
  · exact z
  · exfalso
    obtain ⟨d, _, h1, _, h2, _⟩ := pf_dv_hd d4 hh (pf_fin_pow (fF i hi) _)
    have h3 := pf_hd_u h1 (pf_pow_hd (hF i hi).1 (n i))
    omega
/-- the rows of T, of length n, have no common solution but 0 -/
def pf_inj (T : Nat → Nat → Fin 5) (n : Nat) : Prop := ∀ x : Nat → Fin 5, (∀ r, r < n → pf_sm (fun c => T r c * x c) n = 0) → ∀ c, c < n → x c = 0
theorem pf_sm_lin (f g : Nat → Fin 5) (b : Fin 5) (n : Nat) : pf_sm (fun c => f c + b * g c) n = pf_sm f n + b * pf_sm g n := by
  induction n with
  | zero => show (0 : Fin 5) = 0 + b * 0; grind
  | succ n ih =>
    show pf_sm (fun c => f c + b * g c) n + (f n + b * g n) = pf_sm f n + f n + b * (pf_sm g n + g n)
    rw [ih]; grind
theorem pf_sm_sc (f : Nat → Fin 5) (b : Fin 5) (n : Nat) : pf_sm (fun c => b * f c) n = b * pf_sm f n := by
  induction n with
  | zero => show (0 : Fin 5) = b * 0; grind
  | succ n ih =>
    show pf_sm (fun c => b * f c) n + b * f n = b * (pf_sm f n + f n)
    rw [ih]; grind
theorem pf_inj_swap {T T' : Nat → Nat → Fin 5} {n p r : Nat} (h : pf_inj T n) (hp : p < n) (hr : r < n)
    (e1 : ∀ c, c < n → T' p c = T r c) (e2 : ∀ c, c < n → T' r c = T p c) (e3 : ∀ i, i < n → i ≠ p → i ≠ r → ∀ c, c < n → T' i c = T i c) : pf_inj T' n := by
  intro x hx
  apply h x
  intro i hi
  by_cases c1 : i = p
  · subst c1; rw [← hx r hr]; apply pf_sm_congr; intro c hc; rw [e2 c hc]
  · by_cases c2 : i = r
    · subst c2; rw [← hx p hp]; apply pf_sm_congr; intro c hc; rw [e1 c hc]
    · rw [← hx i hi]; apply pf_sm_congr; intro c hc; rw [e3 i hi c1 c2 c hc]
theorem pf_inj_scale {T T' : Nat → Nat → Fin 5} {n r : Nat} {b : Fin 5} (h : pf_inj T n) (hr : r < n) (hb : b ≠ 0)
    (e1 : ∀ c, c < n → T' r c = T r c * b) (e3 : ∀ i, i < n → i ≠ r → ∀ c, c < n → T' i c = T i c) : pf_inj T' n := by
  intro x hx
  apply h x
  intro i hi
  by_cases c2 : i = r
  · subst c2
    have h1 := hx i hi
    have h2 : pf_sm (fun c => T' i c * x c) n = pf_sm (fun c => b * (T i c * x c)) n := by
      apply pf_sm_congr; intro c hc; rw [e1 c hc]; grind
    rw [h2, pf_sm_sc] at h1
    have h3 := pf_inv b hb
    grind
  · rw [← hx i hi]; apply pf_sm_congr; intro c hc; rw [e3 i hi c2 c hc]
theorem pf_inj_clear {T T' : Nat → Nat → Fin 5} {n p r : Nat} {b : Fin 5} (h : pf_inj T n) (hp : p < n) (hr : r < n) (hpr : p ≠ r)
    (e1 : ∀ c, c < n → T' p c = T p c - b * T r c) (e3 : ∀ i, i < n → i ≠ p → ∀ c, c < n → T' i c = T i c) : pf_inj T' n := by
  intro x hx
  apply h x
  intro i hi
  by_cases c2 : i = p
  · subst c2
    have h1 := hx i hi
    have h2 : pf_sm (fun c => T' i c * x c) n = pf_sm (fun c => T i c * x c + (-b) * (T r c * x c)) n := by
      apply pf_sm_congr; intro c hc; rw [e1 c hc]; grind
    have h3 : pf_sm (fun c => T r c * x c) n = 0 := by
      rw [← hx r hr]; apply pf_sm_congr; intro c hc; rw [e3 r hr (by omega) c hc]
    rw [h2, pf_sm_lin, h3] at h1
    grind
  · rw [← hx i hi]; apply pf_sm_congr; intro c hc; rw [e3 i hi c2 c hc]
theorem pf_sm_d (y : Nat → Fin 5) (i n : Nat) : pf_sm (fun c => (if i = c then 1 else 0) * y c) n = if i < n then y i else 0 := by
  induction n with
  | zero => rw [if_neg (by omega)]; rfl
  | succ n ih =>
    show pf_sm (fun c => (if i = c then 1 else 0) * y c) n + (if i = n then 1 else 0) * y n = _
    rw [ih]
    by_cases h1 : i < n
    · rw [if_pos h1, if_neg (by omega), if_pos (by omega)]; grind
    · by_cases h2 : i = n
      · subst h2; rw [if_neg h1, if_pos rfl, if_pos (by omega)]; grind
      · rw [if_neg h1, if_neg h2, if_neg (by omega)]; grind
theorem pf_piv {T : Nat → Nat → Fin 5} {n r : Nat} (h : pf_inj T n) (hr : r < n)
    (hu : ∀ c, c < r → ∀ i, i < n → T i c = if i = c then 1 else 0) : ∃ p, r ≤ p ∧ p < n ∧ T p r ≠ 0 := by
  apply Classical.byContradiction
  intro no
  have z : ∀ p, r ≤ p → p < n → T p r = 0 := fun p h1 h2 => Classical.byContradiction fun h3 => no ⟨p, h1, h2, h3⟩
  have t := h (fun c => if c < r then - T c r else if c = r then 1 else 0) (by
    intro i hi
    have en : n = r + (1 + (n - r - 1)) := by omega
    rw [en, pf_sm_split, pf_sm_split]
    have s1 : pf_sm (fun c => T i c * (if c < r then - T c r else if c = r then 1 else 0)) r = if i < r then - T i r else 0 := by
      rw [← pf_sm_d (fun c => - T c r) i r]
      apply pf_sm_congr
      intro c hc
      rw [hu c hc i hi, if_pos hc]
    have s2 : pf_sm (fun i_1 => T i (r + i_1) * (if r + i_1 < r then - T (r + i_1) r else if r + i_1 = r then 1 else 0)) 1 = T i r := by
      show (0 : Fin 5) + T i (r + 0) * (if r + 0 < r then - T (r + 0) r else if r + 0 = r then 1 else 0) = T i r
      rw [if_neg (by omega), if_pos (by omega)]
      show (0 : Fin 5) + T i r * 1 = T i r
      grind
    have s3 : pf_sm (fun i_1 => T i (r + (1 + i_1)) * (if r + (1 + i_1) < r then - T (r + (1 + i_1)) r else if r + (1 + i_1) = r then 1 else 0)) (n - r - 1) = 0 := by
      apply pf_sm_0
      intro c hc
      rw [if_neg (by omega), if_neg (by omega)]; grind
    rw [s1, s2, s3]
    by_cases c1 : i < r
    · rw [if_pos c1]; grind
    · rw [if_neg c1, z i (by omega) hi]; decide) r hr
  have t2 : (if r < r then - T r r else if r = r then 1 else 0) = (0 : Fin 5) := t
  rw [if_neg (by omega), if_pos rfl] at t2
  exact absurd t2 (by decide)
end
section
/-! Monic polynomials by code; what trial division finds can't be split; the state of a factorization -/
def pf_mk (d t : Nat) : PF := fun k => if k < d then Fin.ofNat 5 (t / 5 ^ k) else if k = d then 1 else 0
theorem pf_mk_ln (d t : Nat) : pf_ln (pf_mk d t) (d + 1) := fun k hk => by
  show (if k < d then Fin.ofNat 5 (t / 5 ^ k) else if k = d then 1 else 0) = 0
  rw [if_neg (by omega), if_neg (by omega)]
theorem pf_mk_top (d t : Nat) : pf_mk d t d = 1 := by
  show (if d < d then Fin.ofNat 5 (t / 5 ^ d) else if d = d then 1 else 0) = 1
  rw [if_neg (by omega), if_pos rfl]
theorem pf_mk_hd (d t : Nat) : pf_hd (pf_mk d t) d := ⟨pf_mk_ln d t, by rw [pf_mk_top]; decide⟩
theorem pf_mk_all : ∀ (d : Nat) (h : PF), pf_ln h (d + 1) → h d = 1 → ∃ t, t < 5 ^ d ∧ h = pf_mk d t := by
  intro d
  induction d with
  | zero =>
    intro h hl h1
    refine ⟨0, by decide, ?_⟩
    funext k
    show h k = (if k < 0 then Fin.ofNat 5 (0 / 5 ^ k) else if k = 0 then 1 else 0)
    rw [if_neg (by omega)]
    by_cases hk : k = 0
    · rw [if_pos hk, hk, h1]
    · rw [if_neg hk, hl k (by omega)]
  | succ d ih =>
    intro h hl h1
    obtain ⟨t, ht, e⟩ := ih (pf_tl h) (pf_ln_tl hl) h1
    refine ⟨(h 0).val + 5 * t, ?_, ?_⟩
    · have := (h 0).isLt
      rw [Nat.pow_succ]; omega
    · funext k
      cases k with
      | zero =>
        show h 0 = (if 0 < d + 1 then Fin.ofNat 5 (((h 0).val + 5 * t) / 5 ^ 0) else if 0 = d + 1 then 1 else 0)
        rw [if_pos (by omega)]
        apply Fin.ext
        show (h 0).val = ((h 0).val + 5 * t) / 5 ^ 0 % 5
        have := (h 0).isLt
        rw [Nat.pow_zero, Nat.div_one]; omega
      | succ j =>
        have e2 : h (j + 1) = pf_mk d t j := congrFun e j
        rw [e2]
        show (if j < d then Fin.ofNat 5 (t / 5 ^ j) else if j = d then 1 else 0) = (if j + 1 < d + 1 then Fin.ofNat 5 (((h 0).val + 5 * t) / 5 ^ (j + 1)) else if j + 1 = d + 1 then 1 else 0)
        have e3 : ((h 0).val + 5 * t) / 5 ^ (j + 1) = t / 5 ^ j := by
          rw [Nat.pow_succ, Nat.mul_comm (5 ^ j) 5, ← Nat.div_div_eq_div_mul]
          have := (h 0).isLt
          have e4 : ((h 0).val + 5 * t) / 5 = t := by omega
          rw [e4]
        rw [e3]
        by_cases c1 : j < d
        · rw [if_pos c1, if_pos (show j + 1 < d + 1 by omega)]
        · rw [if_neg c1, if_neg (show ¬ j + 1 < d + 1 by omega)]
          by_cases c2 : j = d
          · rw [if_pos c2, if_pos (show j + 1 = d + 1 by omega)]
          · rw [if_neg c2, if_neg (show ¬ j + 1 = d + 1 by omega)]
theorem pf_c_ml (c : Fin 5) {h : PF} {n : Nat} (hl : pf_ln h n) : pf_ln (pf_mul (pf_c c) h) n := fun k hk => by
  rw [pf_mul_cl]; show c * h k = 0; rw [hl k hk]; grind
theorem pf_c_inv {c : Fin 5} (hc : c ≠ 0) (h : PF) : pf_mul (pf_c c) (pf_mul (pf_c (c * c * c)) h) = h := by
  rw [← pf_mul_assoc, pf_c_mul]
  have e : c * (c * c * c) = 1 := by have := pf_inv c hc; grind
  rw [e, pf_one_mul]
theorem pf_c_inv' {c : Fin 5} (hc : c ≠ 0) (h : PF) : pf_mul (pf_c (c * c * c)) (pf_mul (pf_c c) h) = h := by
  rw [← pf_mul_assoc, pf_c_mul, pf_inv c hc, pf_one_mul]
theorem pf_norm {h : PF} {e : Nat} (hh : pf_hd h e) : ∃ s, s < 5 ^ e ∧ pf_dv (pf_mk e s) h := by
  obtain ⟨s, hs, es⟩ := pf_mk_all e (pf_mul (pf_c (h e * h e * h e)) h) (pf_c_ml _ hh.1) (by
    rw [pf_mul_cl]; show h e * h e * h e * h e = 1; exact pf_inv _ hh.2)
  refine ⟨s, hs, pf_c (h e), pf_fin_c _, ?_⟩
  rw [← es, pf_c_inv hh.2]
theorem pf_irr_mk {d t : Nat} {r : PF} (hd : 1 ≤ d) (hfr : ∀ e s, 1 ≤ e → e < d → s < 5 ^ e → ¬ pf_dv (pf_mk e s) r) (h : pf_dv (pf_mk d t) r) : pf_irr (pf_mk d t) d := by
  refine ⟨pf_mk_hd d t, hd, ?_⟩
  intro g e hg dg
  obtain ⟨e', _, h1, _, h2, _⟩ := pf_dv_hd dg (pf_mk_hd d t) (pf_hd_fin hg)
  have h3 := pf_hd_u hg h1
  by_cases c1 : e = 0
  · exact Or.inl c1
  · by_cases c2 : e = d
    · exact Or.inr c2
    · exfalso
      obtain ⟨s, hs, ds⟩ := pf_norm hg
      exact hfr e s (by omega) (by omega) hs (pf_dv_t ds (pf_dv_t dg h))
def pf_fr (d : Nat) (r : PF) (D : Nat) : Prop := ∀ e s, 1 ≤ e → e < d → 2 * e ≤ D → s < 5 ^ e → ¬ pf_dv (pf_mk e s) r
theorem pf_irr_last {r : PF} {D d : Nat} (hr : pf_hd r D) (hD : 1 ≤ D) (h2 : D < 2 * d) (hfr : pf_fr d r D) : pf_irr r D := by
  refine ⟨hr, hD, ?_⟩
  intro g e hg dg
  obtain ⟨e', q, h1, hq, h3, eq⟩ := pf_dv_hd dg hr (pf_hd_fin hg)
  have h4 := pf_hd_u hg h1
  subst h4
  by_cases c1 : e = 0
  · exact Or.inl c1
  · by_cases c2 : e = D
    · exact Or.inr c2
    · exfalso
      by_cases c3 : 2 * e ≤ D
      · obtain ⟨s, hs, ds⟩ := pf_norm hg
        exact hfr e s (by omega) (by omega) c3 hs (pf_dv_t ds dg)
      · obtain ⟨s, hs, ds⟩ := pf_norm hq
        refine hfr (D - e) s (by omega) (by omega) (by omega) hs (pf_dv_t ds ⟨g, pf_hd_fin hg, ?_⟩)
        rw [eq, pf_mul_comm]
theorem pf_c_hd {c : Fin 5} (hc : c ≠ 0) {f : PF} {d : Nat} (hf : pf_hd f d) : pf_hd (pf_mul (pf_c c) f) d := by
  have h := pf_mul_hd (pf_hd_c hc) hf
  rw [Nat.zero_add] at h; exact h
theorem pf_irr_c {c : Fin 5} (hc : c ≠ 0) {f : PF} {d : Nat} (hf : pf_irr f d) : pf_irr (pf_mul (pf_c c) f) d := by
  refine ⟨pf_c_hd hc hf.1, hf.2.1, fun h e hh dh => hf.2.2 h e hh (pf_dv_t dh ?_)⟩
  exact ⟨pf_c (c * c * c), pf_fin_c _, (pf_c_inv' hc f).symm⟩
theorem pf_cancel {u v g : PF} {d : Nat} (hg : pf_hd g d) (fu : pf_fin u) (fv : pf_fin v) (h : pf_mul u g = pf_mul v g) : u = v := by
  have e : pf_mul (pf_sub u v) g = pf_c 0 := by
    letI := pf_ring
    have h1 : u * g = v * g := h
    show (u - v) * g = 0
    grind
  rcases pf_fin_hd (pf_fin_sub fu fv) with z | ⟨m, hm⟩
  · letI := pf_ring
    have z1 : u - v = 0 := z
    grind
  · exact absurd e (pf_hd_n0 (pf_mul_hd hm hg))
def pf_ns (n D : Nat → Nat) : Nat → Nat
  | 0 => 0
  | m + 1 => pf_ns n D m + n m * D m
theorem pf_ns_congr {n D n' D' : Nat → Nat} {m : Nat} (e : ∀ i, i < m → n i = n' i ∧ D i = D' i) : pf_ns n D m = pf_ns n' D' m := by
  induction m with
  | zero => rfl
  | succ m ih =>
    show pf_ns n D m + n m * D m = pf_ns n' D' m + n' m * D' m
    rw [ih (fun i hi => e i (by omega)), (e m (by omega)).1, (e m (by omega)).2]
/-- a = r times the powers of the m factors found so far -/
def pf_Sp (a r : PF) (m : Nat) (F : Nat → PF) (D n : Nat → Nat) : Prop :=
  (∀ i, i < m → pf_irr (F i) (D i)) ∧ (∀ i, i < m → 1 ≤ n i) ∧ (∀ i, i < m → ¬ pf_dv (F i) r) ∧
  (∀ i, i < m → ∀ j, j < m → i ≠ j → pf_cp (F i) (F j)) ∧ (∀ i, i < m → pf_dv (pf_pow (F i) (n i)) a) ∧
  (∀ i, i < m → ¬ pf_dv (pf_pow (F i) (n i + 1)) a) ∧
  ∃ G : PF, pf_hd G (pf_ns n D m) ∧ a = pf_mul r G ∧ ∀ h : PF, pf_fin h → (∀ i, i < m → pf_cp h (F i)) → pf_cp h G
theorem pf_Sp0 (a : PF) (F : Nat → PF) (D n : Nat → Nat) : pf_Sp a a 0 F D n := by
  refine ⟨fun i hi => by omega, fun i hi => by omega, fun i hi => by omega, fun i hi => by omega, fun i hi => by omega, fun i hi => by omega, pf_c 1, pf_hd_c (by decide), ?_, fun h _ _ => pf_cp_1 h⟩
  rw [pf_mul_comm, pf_one_mul]
theorem pf_Sp_step {a r r' f : PF} {m k d : Nat} {F F' : Nat → PF} {D n D' n' : Nat → Nat} (S : pf_Sp a r m F D n)
    (hf : pf_irr f d) (hk : 1 ≤ k) (er : r = pf_mul r' (pf_pow f k)) (nd : ¬ pf_dv f r') (fr : pf_fin r')
    (eF : ∀ i, i < m → F' i = F i) (eD : ∀ i, i < m → D' i = D i) (en : ∀ i, i < m → n' i = n i) (eFm : F' m = f) (eDm : D' m = d) (enm : n' m = k) :
    pf_Sp a r' (m + 1) F' D' n' := by
  obtain ⟨s1, s2, s3, s4, s5, s6, G, hG, ea, cG⟩ := S
  have ff := pf_hd_fin hf.1
  have cpf : ∀ i, i < m → pf_cp (F i) f := by
    intro i hi
    apply pf_irr_cp (s1 i hi) ff
    intro d1
    apply s3 i hi
    rw [er]
    apply pf_dv_ml _ fr
    obtain ⟨k', rfl⟩ : ∃ k', k = k' + 1 := ⟨k - 1, by omega⟩
    exact pf_dv_ml d1 (pf_fin_pow ff k')
  have hG' : pf_hd (pf_mul G (pf_pow f k)) (pf_ns n D m + k * d) := pf_mul_hd hG (pf_pow_hd hf.1 k)
  have ea' : a = pf_mul r' (pf_mul G (pf_pow f k)) := by
    rw [ea, er]
    generalize pf_pow f k = p
    letI := pf_ring
    show r' * p * G = r' * (G * p)
    grind
  have fG := pf_hd_fin hG
  have dvfa : pf_dv (pf_pow f k) a := by
    rw [ea']; exact pf_dv_ml (pf_dv_ml (pf_dv_r _) fG) fr
  have ndfa : ¬ pf_dv (pf_pow f (k + 1)) a := by
    intro dd
    obtain ⟨q, hq, eq⟩ := dd
    have e1 : pf_mul (pf_mul q f) (pf_pow f k) = pf_mul (pf_mul r' G) (pf_pow f k) := by
      rw [ea'] at eq
      have eq2 : pf_mul r' (pf_mul G (pf_pow f k)) = pf_mul q (pf_mul (pf_pow f k) f) := eq
      generalize pf_pow f k = p at eq2
      letI := pf_ring
      have eq3 : r' * (G * p) = q * (p * f) := eq2
      show q * f * p = r' * G * p
      grind
    have e2 := pf_cancel (pf_pow_hd hf.1 k) (pf_fin_mul hq ff) (pf_fin_mul fr fG) e1
    apply nd
    refine pf_cp_dv (cG f ff (fun i hi => pf_cp_s (cpf i hi))) fr ⟨q, hq, ?_⟩
    rw [e2, pf_mul_comm]
  have cl : ∀ {P : Nat → Prop}, (∀ i, i < m → P i) → P m → ∀ i, i < m + 1 → P i := by
    intro P h1 h2 i hi
    by_cases c : i = m
    · rw [c]; exact h2
    · exact h1 i (by omega)
  refine ⟨cl (fun i hi => by rw [eF i hi, eD i hi]; exact s1 i hi) (by rw [eFm, eDm]; exact hf),
    cl (fun i hi => by rw [en i hi]; exact s2 i hi) (by rw [enm]; exact hk),
    cl (fun i hi => ?_) (by rw [eFm]; exact nd), ?_,
    cl (fun i hi => by rw [eF i hi, en i hi]; exact s5 i hi) (by rw [eFm, enm]; exact dvfa),
    cl (fun i hi => by rw [eF i hi, en i hi]; exact s6 i hi) (by rw [eFm, enm]; exact ndfa),
    pf_mul G (pf_pow f k), ?_, ea', ?_⟩
  · rw [eF i hi]
    intro d1
    apply s3 i hi
    rw [er]; exact pf_dv_mr d1 (pf_fin_pow ff k)
  · refine cl (fun i hi => cl (fun j hj hij => ?_) (fun _ => ?_)) (cl (fun j hj _ => ?_) (fun h => absurd rfl h))
    · rw [eF i hi, eF j hj]; exact s4 i hi j hj hij
    · rw [eF i hi, eFm]; exact cpf i hi
    · rw [eF j hj, eFm]; exact pf_cp_s (cpf j hj)
  · have e3 : pf_ns n' D' (m + 1) = pf_ns n D m + k * d := by
      show pf_ns n' D' m + n' m * D' m = _
      rw [pf_ns_congr (n' := n) (D' := D) (fun i hi => ⟨en i hi, eD i hi⟩), enm, eDm]
    rw [e3]; exact hG'
  · intro h fh hc
    refine pf_cp_mul fh fG (cG h fh fun i hi => ?_) (pf_cp_pow fh ff ?_ k)
    · have := hc i (by omega)
      rw [eF i hi] at this; exact this
    · have := hc m (by omega)
      rw [eFm] at this; exact this
theorem pf_ns_ge {n D : Nat → Nat} {m : Nat} (h : ∀ i, i < m → 1 ≤ n i ∧ 1 ≤ D i) : m ≤ pf_ns n D m := by
  induction m with
  | zero => exact Nat.le_refl _
  | succ m ih =>
    have h1 := ih (fun i hi => h i (by omega))
    have h2 := h m (by omega)
    have h3 : 1 * 1 ≤ n m * D m := Nat.mul_le_mul h2.1 h2.2
    show m + 1 ≤ pf_ns n D m + n m * D m
    omega
theorem pf_Sp_deg {a r : PF} {m N : Nat} {F : Nat → PF} {D n : Nat → Nat} (S : pf_Sp a r m F D n) (ha : pf_hd a N) (fr : pf_fin r) :
    ∃ e, pf_hd r e ∧ e + pf_ns n D m = N := by
  obtain ⟨s1, s2, s3, s4, s5, s6, G, hG, ea, cG⟩ := S
  obtain ⟨e, q, h1, h2, h3, h4⟩ := pf_dv_hd (a := r) (b := a) ⟨G, pf_hd_fin hG, by rw [ea, pf_mul_comm]⟩ ha fr
  have h5 := pf_mul_hd h1 hG
  rw [← ea] at h5
  have h6 := pf_hd_u ha h5
  exact ⟨e, h1, h6.symm⟩
theorem pf_Sp_m {a r : PF} {m N : Nat} {F : Nat → PF} {D n : Nat → Nat} (S : pf_Sp a r m F D n) (ha : pf_hd a N) (fr : pf_fin r) : m ≤ N := by
  obtain ⟨e, _, h⟩ := pf_Sp_deg S ha fr
  have := pf_ns_ge (m := m) (fun i hi => ⟨S.2.1 i hi, (S.1 i hi).2.1⟩)
  omega
end
section
/-! Arrays of numbers modulo 5: contents, writes into rows of cells, the remainder -/
def fi_I (x : Fin 5) : Int32 := nI x.val
def fi_m (g : Nat → Fin 5) : Nat → Int32 := fun k => fi_I (g k)
def fi_w (g : Nat → Fin 5) (b : Nat) (P : Nat → Fin 5) (j : Nat) : Nat → Fin 5 := fun k => if b ≤ k ∧ k < b + j then P (k - b) else g k
def fi_z (z : Int32) : Fin 5 := ⟨(z.toInt % 5).toNat, by omega⟩
theorem fi_0 : ∀ x : Fin 5, fi_I x = 0 ↔ x = 0 := by decide
theorem fi_lt : ∀ x : Fin 5, ¬ fi_I x < 0 := by decide
theorem fi_inj : ∀ x y : Fin 5, fi_I x = fi_I y → x = y := by decide
theorem fi_w_0 (g : Nat → Fin 5) (b : Nat) (P : Nat → Fin 5) : fi_w g b P 0 = g := by
  funext k
  show (if b ≤ k ∧ k < b + 0 then P (k - b) else g k) = g k
  rw [if_neg (by omega)]
theorem fi_w_in {g : Nat → Fin 5} {b : Nat} {P : Nat → Fin 5} {j k : Nat} (h : k < j) : fi_w g b P j (b + k) = P k := by
  show (if b ≤ b + k ∧ b + k < b + j then P (b + k - b) else g (b + k)) = P k
  rw [if_pos (by omega), Nat.add_sub_cancel_left]
theorem fi_w_out {g : Nat → Fin 5} {b : Nat} {P : Nat → Fin 5} {j k : Nat} (h : k < b ∨ b + j ≤ k) : fi_w g b P j k = g k := by
  show (if b ≤ k ∧ k < b + j then P (k - b) else g k) = g k
  rw [if_neg (by omega)]
theorem fi_w_s (g : Nat → Fin 5) (b : Nat) (P : Nat → Fin 5) (j : Nat) : upd (fi_m (fi_w g b P j)) (b + j) (fi_I (P j)) = fi_m (fi_w g b P (j + 1)) := by
  funext k
  show (if k = b + j then fi_I (P j) else fi_I (fi_w g b P j k)) = fi_I (fi_w g b P (j + 1) k)
  by_cases h : k = b + j
  · subst h; rw [if_pos rfl, fi_w_in (by omega)]
  · rw [if_neg h]
    by_cases h2 : b ≤ k ∧ k < b + j
    · obtain ⟨i, rfl⟩ : ∃ i, k = b + i := ⟨k - b, by omega⟩
      rw [fi_w_in (by omega), fi_w_in (by omega)]
    · rw [fi_w_out (by omega), fi_w_out (by omega)]
def fi_u (g : Nat → Fin 5) (k : Nat) (x : Fin 5) : Nat → Fin 5 := fun j => if j = k then x else g j
theorem fi_upd (g : Nat → Fin 5) (k : Nat) (x : Fin 5) : upd (fi_m g) k (fi_I x) = fi_m (fi_u g k x) := by
  funext j
  show (if j = k then fi_I x else fi_I (g j)) = fi_I (if j = k then x else g j)
  by_cases h : j = k
  · rw [if_pos h, if_pos h]
  · rw [if_neg h, if_neg h]
theorem fi_5 : (5 : Int32).toInt = 5 := by decide
theorem fi_00 : (0 : Int32).toInt = 0 := by decide
theorem fi_tm (a : Int) : a.tmod 5 = a % 5 ∨ (a.tmod 5 = a % 5 - 5 ∧ a % 5 ≠ 0 ∧ a < 0) := by
  rw [Int.tmod_eq_emod]
  by_cases h : 0 ≤ a ∨ (5 : Int) ∣ a
  · rw [if_pos h]; omega
  · rw [if_neg h]; right; omega
theorem fi_zT (z : Int32) : (fi_I (fi_z z)).toInt = z.toInt % 5 := by
  have c : (fi_I (fi_z z)).toInt = ((z.toInt % 5).toNat : Int) := nI_toInt (by show (z.toInt % 5).toNat < _; omega)
  rw [c]; omega
theorem fi_rT (z : Int32) : (z - z / 5 * 5).toInt = z.toInt.tmod 5 := by
  have e := rem_toInt z 5
  rw [fi_5] at e; exact e
theorem fi_zP (z : Int32) (h : 0 ≤ z - z / 5 * 5) : z - z / 5 * 5 = fi_I (fi_z z) := by
  apply Int32.toInt_inj.mp
  rw [Int32.le_iff_toInt_le, fi_rT, fi_00] at h
  rw [fi_rT, fi_zT]
  rcases fi_tm z.toInt with e | ⟨e, e2, e3⟩
  · exact e
  · omega
theorem fi_zN (z : Int32) (h : ¬ 0 ≤ z - z / 5 * 5) : z - z / 5 * 5 + 5 = fi_I (fi_z z) := by
  apply Int32.toInt_inj.mp
  rw [Int32.not_le, Int32.lt_iff_toInt_lt, fi_rT, fi_00] at h
  rw [Int32.toInt_add, fi_rT, fi_zT, fi_5]
  rcases fi_tm z.toInt with e | ⟨e, e2, e3⟩
  · omega
  · rw [e]
    have b : (z.toInt % 5 - 5 + 5).bmod (2 ^ 32) = z.toInt % 5 - 5 + 5 := Int.bmod_eq_of_le (by omega) (by omega)
    rw [b]; omega
theorem yc_mod {post : Int32 → Prop} {z : Int32} {x : Fin 5} (e : fi_z z = x) (h : post (fi_I x)) : wpY_mod post z := by
  subst e
  refine ⟨by decide, fun y ey => ?_⟩
  subst ey
  refine br_c (fun c => ?_) (fun c => ?_)
  · rw [fi_zP z c]; exact h
  · rw [fi_zN z c]; exact h
theorem fi_ma : ∀ a b c : Fin 5, fi_z (fi_I a + fi_I b * fi_I c) = a + b * c := by decide +kernel
theorem fi_ms : ∀ a b c : Fin 5, fi_z (fi_I a - fi_I b * fi_I c) = a - b * c := by decide +kernel
theorem fi_ma' : ∀ a b c : Fin 5, fi_z (fi_I b * fi_I c + fi_I a) = b * c + a := by decide +kernel
theorem fi_mm : ∀ a b : Fin 5, fi_z (fi_I a * fi_I b) = a * b := by decide +kernel
theorem fi_m1 : ∀ a b : Fin 5, fi_z (fi_I a + 1 * fi_I b) = a + b := by decide +kernel
theorem fi_mn : ∀ a b : Fin 5, fi_z (fi_I a + (-1) * fi_I b) = a - b := by decide +kernel
theorem fi_zi : ∀ a : Fin 5, fi_z (fi_I a) = a := by decide +kernel
theorem fi_mk : ∀ k : Fin 20, ∀ a : Fin 5, fi_z (nI k.val * fi_I a) = Fin.ofNat 5 k.val * a := by decide +kernel
theorem yc_inv {post : Int32 → Prop} {x : Fin 5} (h : post (fi_I (x * x * x))) : wpY_inverse post (fi_I x) := by
  have t : ∀ x : Fin 5, (fi_I x = 2 → fi_I (x * x * x) = 3) ∧ (¬ fi_I x = 2 → ((fi_I x = 3 → fi_I (x * x * x) = 2) ∧ (¬ fi_I x = 3 → fi_I (x * x * x) = fi_I x))) := by decide
  refine br_c (fun c => ?_) (fun c => br_c (fun d => ?_) (fun d => ?_))
  · rw [← (t x).1 c]; exact h
  · rw [← ((t x).2 c).1 d]; exact h
  · rw [← ((t x).2 c).2 d]; exact h
/-- the slot s of 20 numbers as a polynomial -/
def fi_s (g : Nat → Fin 5) (s : Nat) : PF := fun k => if k < 20 then g (20 * s + k) else 0
theorem fi_s_ln (g : Nat → Fin 5) (s : Nat) : pf_ln (fi_s g s) 20 := fun k hk => by
  show (if k < 20 then g (20 * s + k) else 0) = 0
  rw [if_neg (by omega)]
theorem fi_s_at {g : Nat → Fin 5} {s k : Nat} (h : k < 20) : fi_s g s k = g (20 * s + k) := if_pos h
/-- slot s holds P -/
def fi_p (g : Nat → Fin 5) (s : Nat) (P : PF) : Nat → Fin 5 := fi_w g (20 * s) P 20
theorem fi_sp {g : Nat → Fin 5} {s : Nat} {P : PF} (h : pf_ln P 20) : fi_s (fi_p g s P) s = P := by
  funext k
  by_cases c : k < 20
  · rw [fi_s_at c]; exact fi_w_in c
  · rw [fi_s_ln _ _ k (by omega), h k (by omega)]
theorem fi_sq {g : Nat → Fin 5} {s t : Nat} {P : PF} (h : t ≠ s) : fi_s (fi_p g s P) t = fi_s g t := by
  funext k
  by_cases c : k < 20
  · rw [fi_s_at c, fi_s_at c]; exact fi_w_out (by omega)
  · rw [fi_s_ln _ _ k (by omega), fi_s_ln _ _ k (by omega)]
theorem fi_pc {g : Nat → Fin 5} {s : Nat} {P Q : PF} (h : ∀ k, k < 20 → P k = Q k) : fi_p g s P = fi_p g s Q := by
  funext k
  show (if 20 * s ≤ k ∧ k < 20 * s + 20 then P (k - 20 * s) else g k) = (if 20 * s ≤ k ∧ k < 20 * s + 20 then Q (k - 20 * s) else g k)
  by_cases c : 20 * s ≤ k ∧ k < 20 * s + 20
  · rw [if_pos c, if_pos c, h _ (by omega)]
  · rw [if_neg c, if_neg c]
theorem fi_ix (s j : Nat) : (20 : Int32) * nI s + nI j = nI (20 * s + j) := by
  show nI 20 * nI s + nI j = _
  rw [pk_mul, nI_add]
theorem fi_ix0 (s : Nat) : (20 : Int32) * nI s = nI (20 * s) := pk_mul 20 s
end
section
/-! The reference's arithmetic on slots of 20 numbers -/
theorem fi_u_w (g : Nat → Fin 5) (b : Nat) (P : Nat → Fin 5) (n i : Nat) (x : Fin 5) (h : i < n) : fi_u (fi_w g b P n) (b + i) x = fi_w g b (fun k => if k = i then x else P k) n := by
  funext k
  show (if k = b + i then x else fi_w g b P n k) = fi_w g b (fun k => if k = i then x else P k) n k
  by_cases c : b ≤ k ∧ k < b + n
  · obtain ⟨j, rfl⟩ : ∃ j, k = b + j := ⟨k - b, by omega⟩
    rw [fi_w_in (by omega), fi_w_in (by omega)]
    by_cases e : j = i
    · subst e; rw [if_pos rfl, if_pos rfl]
    · rw [if_neg (by omega), if_neg e]
  · rw [fi_w_out (by omega), fi_w_out (by omega), if_neg (by omega)]
theorem fi_pu {g : Nat → Fin 5} {s i : Nat} {P Q : PF} {x : Fin 5} (hi : i < 20) (h : ∀ k, k < 20 → Q k = if k = i then x else P k) : upd (fi_m (fi_p g s P)) (20 * s + i) (fi_I x) = fi_m (fi_p g s Q) := by
  rw [fi_upd]
  congr 1
  show fi_u (fi_w g (20 * s) P 20) (20 * s + i) x = fi_p g s Q
  rw [fi_u_w _ _ _ _ _ _ hi]
  exact fi_pc (fun k hk => (h k hk).symm)
theorem fi_pp {g : Nat → Fin 5} {s : Nat} {P Q : PF} : fi_p (fi_p g s P) s Q = fi_p g s Q := by
  funext k
  show (if 20 * s ≤ k ∧ k < 20 * s + 20 then Q (k - 20 * s) else (if 20 * s ≤ k ∧ k < 20 * s + 20 then P (k - 20 * s) else g k)) = (if 20 * s ≤ k ∧ k < 20 * s + 20 then Q (k - 20 * s) else g k)
  by_cases c : 20 * s ≤ k ∧ k < 20 * s + 20
  · rw [if_pos c, if_pos c]
  · rw [if_neg c, if_neg c, if_neg c]
theorem fi_pi {g : Nat → Fin 5} {s : Nat} : fi_p g s (fi_s g s) = g := by
  funext k
  show (if 20 * s ≤ k ∧ k < 20 * s + 20 then fi_s g s (k - 20 * s) else g k) = g k
  by_cases c : 20 * s ≤ k ∧ k < 20 * s + 20
  · rw [if_pos c, fi_s_at (by omega)]; congr 1; omega
  · rw [if_neg c]
theorem fi_rd {g : Nat → Fin 5} {s j : Nat} (hs : s < 90) (hj : j < 20) : fi_m g ((20 : Int32) * nI s + nI j).toNatClampNeg = fi_I (fi_s g s j) := by
  rw [fi_ix, nI_clamp (by omega), fi_s_at hj]; rfl
theorem fi_in {s j : Nat} (hs : s < 90) (hj : j < 20) : vp_in ((20 : Int32) * nI s + nI j) 1800 := pk_in (20 * s + j) 1800 (by omega) (fi_ix s j)
theorem fi_n20 {j : Nat} (hj : j < 20) : ¬ (20 : Int32) ≤ nI j := nI_ge (a := j) (b := 20) hj (by decide)
section
variable {f_count f_place f_opens f_top f_fault f_faultAt f_dry f_found : Int32} {a_c a_there a_kind a_num a_open a_openAt a_power a_table : Nat → Int32}
theorem yc_deg {post : Int32 → Prop} {g : Nat → Fin 5} {x : Int32} (s : Nat) (hs : s < 90) (z : fi_s g s = pf_c 0 → post (-1)) (p : ∀ d, d < 20 → pf_hd (fi_s g s) d → post (nI d)) (e : x = nI s := by rfl) : wpY_deg post (f_count, f_place, f_opens, f_top, f_fault, f_faultAt, f_dry, f_found, fi_m g, a_there, a_kind, a_num, a_open, a_openAt, a_power, a_table) x := by
  subst e
  have key : ∀ j n, j < n → j ≤ 20 → (∀ k, j ≤ k → fi_s g s k = 0) → wY_deg_3 post (nI s) f_count f_place f_opens f_top f_fault f_faultAt f_dry f_found (fi_m g) a_there a_kind a_num a_open a_openAt a_power a_table n (nI j + (-1)) := by
    intro j
    induction j with
    | zero =>
      intro n hn _ hz
      obtain ⟨n, rfl⟩ : ∃ m, n = m + 1 := ⟨n - 1, by omega⟩
      have e0 : nI 0 + (-1) = -1 := by decide
      rw [e0]
      exact br_t (by decide) (z (by rw [pf_c0]; exact funext fun k => hz k (Nat.zero_le k)))
    | succ j ih =>
      intro n hn hj hz
      obtain ⟨n, rfl⟩ : ∃ m, n = m + 1 := ⟨n - 1, by omega⟩
      rw [pk_m1]
      refine br_f (nI_pos (by omega)) ⟨fi_in hs (by omega), ?_⟩
      by_cases c : fi_s g s j = 0
      · refine br_t ?_ (nm_e (ih n (by omega) (by omega) ?_))
        · rw [fi_rd hs (by omega), c]; rfl
        · intro k hk
          by_cases ek : k = j
          · rw [ek]; exact c
          · exact hz k (by omega)
      · refine br_f ?_ (p j (by omega) ⟨fun k hk => hz k (by omega), c⟩)
        rw [fi_rd hs (by omega)]
        exact fun e => c ((fi_0 _).mp e)
  have e19 : nI 20 + (-1) = 19 := by decide
  have t := key 20 21 (by omega) (by omega) (fi_s_ln g s)
  rw [e19] at t
  exact ⟨21, t⟩
theorem yc_copy {post : SY → Prop} {g : Nat → Fin 5} {xa xb : Int32} (a b : Nat) (ha : a < 90) (hb : b < 90) (h : post (f_count, f_place, f_opens, f_top, f_fault, f_faultAt, f_dry, f_found, fi_m (fi_p g b (fi_s g a)), a_there, a_kind, a_num, a_open, a_openAt, a_power, a_table)) (ea : xa = nI a := by rfl) (eb : xb = nI b := by rfl) : wpY_copy post (f_count, f_place, f_opens, f_top, f_fault, f_faultAt, f_dry, f_found, fi_m g, a_there, a_kind, a_num, a_open, a_openAt, a_power, a_table) xa xb := by
  subst ea eb
  have key : ∀ d j, j + d = 20 → wY_copy_2 post (nI a) (nI b) f_count f_place f_opens f_top f_fault f_faultAt f_dry f_found (d + 1) (nI j) (fi_m (fi_w g (20 * b) (fi_s g a) j)) a_there a_kind a_num a_open a_openAt a_power a_table := by
    intro d
    induction d with
    | zero =>
      intro j hj
      obtain rfl : j = 20 := by omega
      exact br_t (by decide) h
    | succ d ih =>
      intro j hj
      refine br_f (fi_n20 (by omega)) ⟨fi_in ha (by omega), fi_in hb (by omega), nm_r ?_ (nm_r (nI_1 j) (ih (j + 1) (by omega)))⟩
      rw [← fi_w_s, fi_ix, fi_ix, nI_clamp (by omega), nI_clamp (by omega)]
      congr 1
      show fi_I (fi_w g (20 * b) (fi_s g a) j (20 * a + j)) = fi_I (fi_s g a j)
      rw [fi_w_out (by omega), fi_s_at (by omega)]
  have t := key 20 0 rfl
  rw [fi_w_0] at t
  exact ⟨21, t⟩
theorem yc_become {post : SY → Prop} {g : Nat → Fin 5} {xs x : Int32} (s : Nat) (hs : s < 90) (h : post (f_count, f_place, f_opens, f_top, f_fault, f_faultAt, f_dry, f_found, fi_m (fi_p g s (pf_c (fi_z x))), a_there, a_kind, a_num, a_open, a_openAt, a_power, a_table)) (es : xs = nI s := by rfl) : wpY_become post (f_count, f_place, f_opens, f_top, f_fault, f_faultAt, f_dry, f_found, fi_m g, a_there, a_kind, a_num, a_open, a_openAt, a_power, a_table) xs x := by
  subst es
  have key : ∀ d j, j + d = 20 → wY_become_2 post (nI s) x f_count f_place f_opens f_top f_fault f_faultAt f_dry f_found (d + 1) (nI j) (fi_m (fi_w g (20 * s) (pf_c 0) j)) a_there a_kind a_num a_open a_openAt a_power a_table := by
    intro d
    induction d with
    | zero =>
      intro j hj
      obtain rfl : j = 20 := by omega
      refine br_t (by decide) (yc_mod rfl ⟨pk_in (20 * s) 1800 (by omega) (fi_ix0 s), nm_r ?_ h⟩)
      rw [fi_ix0, nI_clamp (by omega)]
      refine fi_pu (i := 0) (P := pf_c 0) (by omega) ?_
      intro k _
      rw [pf_c0]; rfl
    | succ d ih =>
      intro j hj
      refine br_f (fi_n20 (by omega)) ⟨fi_in hs (by omega), nm_r ?_ (nm_r (nI_1 j) (ih (j + 1) (by omega)))⟩
      rw [← fi_w_s, fi_ix, nI_clamp (by omega), pf_c0]; rfl
  have t := key 20 0 rfl
  rw [fi_w_0] at t
  exact ⟨21, t⟩
theorem yc_add {post : SY → Prop} {g : Nat → Fin 5} {xa xb x : Int32} (a b : Nat) (y : Fin 5) (ha : a < 90) (hb : b < 90) (hab : a ≠ b) (hy : ∀ u w : Fin 5, fi_z (fi_I u + x * fi_I w) = u + y * w)
    (h : post (f_count, f_place, f_opens, f_top, f_fault, f_faultAt, f_dry, f_found, fi_m (fi_p g a (fun k => fi_s g a k + y * fi_s g b k)), a_there, a_kind, a_num, a_open, a_openAt, a_power, a_table)) (ea : xa = nI a := by rfl) (eb : xb = nI b := by rfl) : wpY_add post (f_count, f_place, f_opens, f_top, f_fault, f_faultAt, f_dry, f_found, fi_m g, a_there, a_kind, a_num, a_open, a_openAt, a_power, a_table) xa x xb := by
  subst ea eb
  have key : ∀ d j, j + d = 20 → wY_add_3 post (nI a) x (nI b) f_count f_place f_opens f_top f_fault f_faultAt f_dry f_found (d + 1) (nI j) (fi_m (fi_w g (20 * a) (fun k => fi_s g a k + y * fi_s g b k) j)) a_there a_kind a_num a_open a_openAt a_power a_table := by
    intro d
    induction d with
    | zero =>
      intro j hj
      obtain rfl : j = 20 := by omega
      exact br_t (by decide) h
    | succ d ih =>
      intro j hj
      refine br_f (fi_n20 (by omega)) ⟨fi_in ha (by omega), fi_in hb (by omega), yc_mod (x := fi_s g a j + y * fi_s g b j) ?_ ⟨fi_in ha (by omega), nm_r ?_ (nm_r (nI_1 j) (ih (j + 1) (by omega)))⟩⟩
      · rw [fi_ix, fi_ix, nI_clamp (by omega), nI_clamp (by omega)]
        show fi_z (fi_I (fi_w g (20 * a) _ j (20 * a + j)) + x * fi_I (fi_w g (20 * a) _ j (20 * b + j))) = _
        rw [fi_w_out (by omega), fi_w_out (by omega), hy, fi_s_at (by omega), fi_s_at (by omega)]
      · rw [← fi_w_s, fi_ix, nI_clamp (by omega)]
  have t := key 20 0 rfl
  rw [fi_w_0] at t
  exact ⟨21, t⟩
theorem yc_scale {post : SY → Prop} {g : Nat → Fin 5} {xa x : Int32} (a : Nat) (y : Fin 5) (ha : a < 90)
    (h : post (f_count, f_place, f_opens, f_top, f_fault, f_faultAt, f_dry, f_found, fi_m (fi_p g a (fun k => fi_s g a k * y)), a_there, a_kind, a_num, a_open, a_openAt, a_power, a_table)) (ea : xa = nI a := by rfl) (ex : x = fi_I y := by rfl) : wpY_scale post (f_count, f_place, f_opens, f_top, f_fault, f_faultAt, f_dry, f_found, fi_m g, a_there, a_kind, a_num, a_open, a_openAt, a_power, a_table) xa x := by
  subst ea ex
  have key : ∀ d j, j + d = 20 → wY_scale_2 post (nI a) (fi_I y) f_count f_place f_opens f_top f_fault f_faultAt f_dry f_found (d + 1) (nI j) (fi_m (fi_w g (20 * a) (fun k => fi_s g a k * y) j)) a_there a_kind a_num a_open a_openAt a_power a_table := by
    intro d
    induction d with
    | zero =>
      intro j hj
      obtain rfl : j = 20 := by omega
      exact br_t (by decide) h
    | succ d ih =>
      intro j hj
      refine br_f (fi_n20 (by omega)) ⟨fi_in ha (by omega), yc_mod (x := fi_s g a j * y) ?_ ⟨fi_in ha (by omega), nm_r ?_ (nm_r (nI_1 j) (ih (j + 1) (by omega)))⟩⟩
      · rw [fi_ix, nI_clamp (by omega)]
        show fi_z (fi_I (fi_w g (20 * a) _ j (20 * a + j)) * fi_I y) = _
        rw [fi_w_out (by omega), fi_mm, fi_s_at (by omega)]
      · rw [← fi_w_s, fi_ix, nI_clamp (by omega)]
  have t := key 20 0 rfl
  rw [fi_w_0] at t
  exact ⟨21, t⟩
def pf_hn (P : PF) (x : Fin 5) (t : Nat) : Nat → Fin 5
  | 0 => 0
  | m + 1 => pf_hn P x t m * x + P (t - m)
theorem yc_valueOf {post : Int32 → Prop} {g : Nat → Fin 5} {xs x : Int32} (s : Nat) (y : Fin 5) (hs : s < 90) (h : post (fi_I (pf_hn (fi_s g s) y 19 20))) (es : xs = nI s := by rfl) (ex : x = fi_I y := by rfl) : wpY_valueOf post (f_count, f_place, f_opens, f_top, f_fault, f_faultAt, f_dry, f_found, fi_m g, a_there, a_kind, a_num, a_open, a_openAt, a_power, a_table) xs x := by
  subst es ex
  have key : ∀ j m, j + m = 20 → wY_valueOf_6 post (nI s) (fi_I y) f_count f_place f_opens f_top f_fault f_faultAt f_dry f_found (fi_m g) a_there a_kind a_num a_open a_openAt a_power a_table (j + 1) (fi_I (pf_hn (fi_s g s) y 19 m)) (nI j + (-1)) := by
    intro j
    induction j with
    | zero =>
      intro m hm
      obtain rfl : m = 20 := by omega
      have e0 : nI 0 + (-1) = -1 := by decide
      rw [e0]
      exact br_t (by decide) h
    | succ j ih =>
      intro m hm
      rw [pk_m1]
      refine br_f (nI_pos (by omega)) ⟨fi_in hs (by omega), yc_mod (x := pf_hn (fi_s g s) y 19 (m + 1)) ?_ (nm_e (ih (m + 1) (by omega)))⟩
      rw [fi_rd hs (by omega), fi_ma']
      show _ = pf_hn (fi_s g s) y 19 m * y + fi_s g s (19 - m)
      have e : 19 - m = j := by omega
      rw [e]
  have e19 : nI 20 + (-1) = 19 := by decide
  have t := key 20 0 rfl
  rw [e19] at t
  exact ⟨21, t⟩
end
theorem pf_cm_sm' (n : Nat) : ∀ f g : PF, pf_cm n f g = pf_sm (fun i => f i * g (n - i)) (n + 1) := by
  induction n with
  | zero => intro f g; show f 0 * g 0 = 0 + f 0 * g 0; grind
  | succ n ih =>
    intro f g
    have e : n + 1 + 1 = 1 + (n + 1) := by omega
    rw [e, pf_sm_split]
    show f 0 * g (n + 1) + pf_cm n (pf_tl f) g = (0 + f 0 * g (n + 1 - 0)) + pf_sm (fun i => f (1 + i) * g (n + 1 - (1 + i))) (n + 1)
    have e2 : pf_sm (fun i => f (1 + i) * g (n + 1 - (1 + i))) (n + 1) = pf_sm (fun i => pf_tl f i * g (n - i)) (n + 1) := by
      apply pf_sm_congr
      intro i hi
      show f (1 + i) * g (n + 1 - (1 + i)) = f (i + 1) * g (n - i)
      rw [Nat.add_comm 1 i]
      congr 2; omega
    rw [e2, ih]
    show _ = (0 + f 0 * g (n + 1)) + _
    grind
def pf_R (A B : PF) (i : Nat) : PF := fun k => pf_sm (fun j => if j ≤ k then A j * B (k - j) else 0) i
theorem pf_R20 (A B : PF) {k : Nat} (hk : k < 20) : pf_R A B 20 k = pf_mul A B k := by
  show pf_sm _ 20 = pf_cm k A B
  have e : 20 = (k + 1) + (19 - k) := by omega
  rw [pf_cm_sm', e, pf_sm_split]
  have z : pf_sm (fun i => if k + 1 + i ≤ k then A (k + 1 + i) * B (k - (k + 1 + i)) else 0) (19 - k) = 0 := by
    apply pf_sm_0; intro i _; rw [if_neg (by omega)]
  rw [z]
  have c : pf_sm (fun j => if j ≤ k then A j * B (k - j) else 0) (k + 1) = pf_sm (fun i => A i * B (k - i)) (k + 1) := by
    apply pf_sm_congr; intro i hi; rw [if_pos (by omega)]
  rw [c]; grind
section
variable {f_count f_place f_opens f_top f_fault f_faultAt f_dry f_found : Int32} {a_c a_there a_kind a_num a_open a_openAt a_power a_table : Nat → Int32}
theorem yc_product {post : SY → Prop} {g : Nat → Fin 5} {xa xb xt : Int32} (a b t : Nat) (ha : a < 90) (hb : b < 90) (ht : t < 90) (hat : a ≠ t) (hbt : b ≠ t)
    (h : post (f_count, f_place, f_opens, f_top, f_fault, f_faultAt, f_dry, f_found, fi_m (fi_p g t (pf_mul (fi_s g a) (fi_s g b))), a_there, a_kind, a_num, a_open, a_openAt, a_power, a_table)) (ea : xa = nI a := by rfl) (eb : xb = nI b := by rfl) (et : xt = nI t := by rfl) : wpY_product post (f_count, f_place, f_opens, f_top, f_fault, f_faultAt, f_dry, f_found, fi_m g, a_there, a_kind, a_num, a_open, a_openAt, a_power, a_table) xa xb xt := by
  subst ea eb et
  have inner : ∀ (J : Int32 → (Nat → Int32) → (Nat → Int32) → (Nat → Int32) → (Nat → Int32) → (Nat → Int32) → (Nat → Int32) → (Nat → Int32) → (Nat → Int32) → Prop) (i : Nat), i < 20 →
      J (nI (i + 1)) (fi_m (fi_p g t (pf_R (fi_s g a) (fi_s g b) (i + 1)))) a_there a_kind a_num a_open a_openAt a_power a_table →
      ∀ d j, i + j + d = 20 → wY_product_19 post J (nI a) (nI b) (nI t) (nI i) f_count f_place f_opens f_top f_fault f_faultAt f_dry f_found (d + 1) (nI j) (fi_m (fi_p g t (fun k => pf_R (fi_s g a) (fi_s g b) i k + (if i ≤ k ∧ k < i + j then fi_s g a i * fi_s g b (k - i) else 0)))) a_there a_kind a_num a_open a_openAt a_power a_table := by
    intro J i hi hJ d
    induction d with
    | zero =>
      intro j hj
      refine br_t ?_ (nm_r (nI_1 i) ?_)
      · rw [nI_add]; exact nI_le (a := 20) (by omega) (by omega)
      · have e : fi_p g t (fun k => pf_R (fi_s g a) (fi_s g b) i k + (if i ≤ k ∧ k < i + j then fi_s g a i * fi_s g b (k - i) else 0)) = fi_p g t (pf_R (fi_s g a) (fi_s g b) (i + 1)) := by
          apply fi_pc
          intro k hk
          show _ = pf_R (fi_s g a) (fi_s g b) i k + (if i ≤ k then fi_s g a i * fi_s g b (k - i) else 0)
          by_cases c : i ≤ k
          · rw [if_pos c, if_pos (by omega)]
          · rw [if_neg c, if_neg (by omega)]
        rw [e]; exact hJ
    | succ d ih =>
      intro j hj
      have ex : (20 : Int32) * nI t + nI i + nI j = nI (20 * t + (i + j)) := by rw [fi_ix, nI_add]; congr 1; omega
      have ein : vp_in ((20 : Int32) * nI t + nI i + nI j) 1800 := pk_in (20 * t + (i + j)) 1800 (by omega) ex
      refine br_f ?_ ⟨ein, fi_in ha (by omega), fi_in hb (by omega), yc_mod (x := pf_R (fi_s g a) (fi_s g b) i (i + j) + fi_s g a i * fi_s g b j) ?_ ⟨ein, nm_r ?_ (nm_r (nI_1 j) (ih (j + 1) (by omega)))⟩⟩
      · rw [nI_add]; exact fi_n20 (by omega)
      · rw [ex, nI_clamp (by omega), fi_rd ha (by omega), fi_rd hb (by omega)]
        rw [fi_sq hat, fi_sq hbt]
        show fi_z (fi_I (fi_w g (20 * t) _ 20 (20 * t + (i + j))) + _) = _
        rw [fi_w_in (by omega), if_neg (by omega), fi_ma]
        grind
      · rw [ex, nI_clamp (by omega)]
        apply fi_pu (by omega)
        intro k hk
        by_cases c : k = i + j
        · rw [if_pos c, c, if_pos (by omega)]
          congr 3; omega
        · rw [if_neg c]
          congr 1
          by_cases c2 : i ≤ k ∧ k < i + j
          · rw [if_pos c2, if_pos (by omega)]
          · rw [if_neg c2, if_neg (by omega)]
  have outer : ∀ d i, i + d = 20 → wY_product_9 post (nI a) (nI b) (nI t) f_count f_place f_opens f_top f_fault f_faultAt f_dry f_found (d + 1) (nI i) (fi_m (fi_p g t (pf_R (fi_s g a) (fi_s g b) i))) a_there a_kind a_num a_open a_openAt a_power a_table := by
    intro d
    induction d with
    | zero =>
      intro i hi
      obtain rfl : i = 20 := by omega
      refine br_t (by decide) ?_
      have e : fi_p g t (pf_R (fi_s g a) (fi_s g b) 20) = fi_p g t (pf_mul (fi_s g a) (fi_s g b)) := fi_pc (fun k hk => pf_R20 _ _ hk)
      rw [e]; exact h
    | succ d ih =>
      intro i hi
      refine br_f (fi_n20 (by omega)) ⟨20 - i + 1, ?_⟩
      have u := inner _ i (by omega) (ih (i + 1) (by omega)) (20 - i) 0 (by omega)
      have e : fi_p g t (fun k => pf_R (fi_s g a) (fi_s g b) i k + (if i ≤ k ∧ k < i + 0 then fi_s g a i * fi_s g b (k - i) else 0)) = fi_p g t (pf_R (fi_s g a) (fi_s g b) i) := by
        apply fi_pc
        intro k hk
        rw [if_neg (by omega)]; grind
      rw [e] at u
      exact u
  unfold wpY_product
  refine yc_become t ht ?_
  have e : fi_p g t (pf_c (fi_z 0)) = fi_p g t (pf_R (fi_s g a) (fi_s g b) 0) := by
    apply fi_pc
    intro k hk
    have : fi_z 0 = 0 := by decide
    rw [this, pf_c0]; rfl
  have u := outer 20 0 rfl
  rw [← e] at u
  exact ⟨21, u⟩
end
end
section
/-! The reference's division with rest, monic polynomials by code, derivatives -/
theorem fi_pcm {g : Nat → Fin 5} {s t : Nat} {P Q : PF} (h : s ≠ t) : fi_p (fi_p g s P) t Q = fi_p (fi_p g t Q) s P := by
  funext k
  by_cases c : 20 * s ≤ k ∧ k < 20 * s + 20
  · have e1 : fi_p (fi_p g s P) t Q k = fi_p g s P k := fi_w_out (by omega)
    rw [e1]
    obtain ⟨j, rfl⟩ : ∃ j, k = 20 * s + j := ⟨k - 20 * s, by omega⟩
    have e2 : fi_p g s P (20 * s + j) = P j := fi_w_in (by omega)
    have e3 : fi_p (fi_p g t Q) s P (20 * s + j) = P j := fi_w_in (by omega)
    rw [e2, e3]
  · have e2 : fi_p (fi_p g t Q) s P k = fi_p g t Q k := fi_w_out (by omega)
    rw [e2]
    show (if 20 * t ≤ k ∧ k < 20 * t + 20 then Q (k - 20 * t) else fi_p g s P k) = (if 20 * t ≤ k ∧ k < 20 * t + 20 then Q (k - 20 * t) else g k)
    have e3 : fi_p g s P k = g k := fi_w_out (by omega)
    rw [e3]
theorem fi_nm1 {n : Nat} (h : n < 2 ^ 31) : (-1 : Int32) < nI n := by
  have e : (-1 : Int32).toInt = -1 := by decide
  rw [Int32.lt_iff_toInt_lt, nI_toInt h, e]; omega
theorem yc_inv' {post : Int32 → Prop} {x : Int32} {y : Fin 5} (e : x = fi_I y) (h : post (fi_I (y * y * y))) : wpY_inverse post x := by
  subst e; exact yc_inv h
section
variable {f_count f_place f_opens f_top f_fault f_faultAt f_dry f_found : Int32} {a_c a_there a_kind a_num a_open a_openAt a_power a_table : Nat → Int32}
theorem yc_divide {post : SY → Prop} {g : Nat → Fin 5} {xa xb xq xr : Int32} (a b q r : Nat) {d : Nat} (ha : a < 90) (hb : b < 90) (hq : q < 90) (hr : r < 90) (qr : r ≠ q) (qb : b ≠ q) (rb : b ≠ r) (hB : pf_hd (fi_s g b) d)
    (h : ∀ Q R : PF, pf_ln Q 20 → pf_ln R d → fi_s g a = pf_add (pf_mul Q (fi_s g b)) R → post (f_count, f_place, f_opens, f_top, f_fault, f_faultAt, f_dry, f_found, fi_m (fi_p (fi_p g r R) q Q), a_there, a_kind, a_num, a_open, a_openAt, a_power, a_table))
    (ea : xa = nI a := by rfl) (eb : xb = nI b := by rfl) (eq : xq = nI q := by rfl) (er : xr = nI r := by rfl) : wpY_divide post (f_count, f_place, f_opens, f_top, f_fault, f_faultAt, f_dry, f_found, fi_m g, a_there, a_kind, a_num, a_open, a_openAt, a_power, a_table) xa xb xq xr := by
  subst ea eb eq er
  have hd : d < 20 := pf_hd_lt hB (fi_s_ln g b)
  have inner : ∀ (J : Int32 → (Nat → Int32) → (Nat → Int32) → (Nat → Int32) → (Nat → Int32) → (Nat → Int32) → (Nat → Int32) → (Nat → Int32) → (Nat → Int32) → Prop) (x6 : Int32) (e : Nat) (f : Fin 5) (Q R : PF), d ≤ e → e < 20 → pf_ln R 20 →
      J (nI e + (-1)) (fi_m (fi_p (fi_p g q Q) r (pf_sub R (pf_mul (pf_mn f (e - d)) (fi_s g b))))) a_there a_kind a_num a_open a_openAt a_power a_table →
      ∀ m k, k + m = d + 1 → wY_divide_93 post J (nI b) (nI q) (nI r) (nI d) x6 (nI e) (fi_I f) f_count f_place f_opens f_top f_fault f_faultAt f_dry f_found (m + 1) (nI k) (fi_m (fi_p (fi_p g q Q) r (fun x => R x - (if e - d ≤ x ∧ x < e - d + k then f * fi_s g b (x - (e - d)) else 0)))) a_there a_kind a_num a_open a_openAt a_power a_table := by
    intro J x6 e f Q R hde he hR hJ m
    induction m with
    | zero =>
      intro k hk
      refine br_t (nI_lt (by omega) (by omega)) (nm_e ?_)
      have ee : fi_p (fi_p g q Q) r (fun x => R x - (if e - d ≤ x ∧ x < e - d + k then f * fi_s g b (x - (e - d)) else 0)) = fi_p (fi_p g q Q) r (pf_sub R (pf_mul (pf_mn f (e - d)) (fi_s g b))) := by
        apply fi_pc
        intro x hx
        show _ = R x + - pf_cm x (pf_mn f (e - d)) (fi_s g b)
        rw [pf_mn_cm]
        by_cases c : e - d ≤ x
        · by_cases c2 : x < e - d + k
          · rw [if_pos ⟨c, c2⟩, if_pos c]; grind
          · rw [if_neg (by omega), if_pos c, hB.1 (x - (e - d)) (by omega)]; grind
        · rw [if_neg (by omega), if_neg c]; grind
      rw [ee]; exact hJ
    | succ m ih =>
      intro k hk
      have ex : (20 : Int32) * nI r + nI e - nI d + nI k = nI (20 * r + (e - d + k)) := by
        rw [fi_ix, pk_sub (by omega), nI_add]; congr 1; omega
      have ein : vp_in ((20 : Int32) * nI r + nI e - nI d + nI k) 1800 := pk_in (20 * r + (e - d + k)) 1800 (by omega) ex
      refine br_f (nI_nlt (by omega) (by omega)) ⟨ein, fi_in hb (by omega), yc_mod (x := R (e - d + k) - f * fi_s g b k) ?_ ⟨ein, nm_r ?_ (nm_r (nI_1 k) (ih (k + 1) (by omega)))⟩⟩
      · rw [ex, nI_clamp (by omega), fi_rd hb (by omega), fi_sq rb, fi_sq qb]
        show fi_z (fi_I (fi_w _ (20 * r) _ 20 (20 * r + (e - d + k))) - _) = _
        rw [fi_w_in (by omega), if_neg (by omega)]
        have e0 : R (e - d + k) - 0 = R (e - d + k) := by grind
        rw [e0, fi_ms]
      · rw [ex, nI_clamp (by omega)]
        apply fi_pu (by omega)
        intro x hx
        by_cases c : x = e - d + k
        · rw [if_pos c, c, if_pos (by omega)]
          congr 3; omega
        · rw [if_neg c]
          congr 1
          by_cases c2 : e - d ≤ x ∧ x < e - d + k
          · rw [if_pos c2, if_pos (by omega)]
          · rw [if_neg c2, if_neg (by omega)]
  have key : ∀ j (Q R : PF) n, pf_ln Q 20 → pf_ln R 20 → pf_ln R j → (∀ k, k + d < j → Q k = 0) → j ≤ 20 → fi_s g a = pf_add (pf_mul Q (fi_s g b)) R → j < n →
      wY_divide_45 post (nI b) (nI q) (nI r) (nI d) (fi_I (fi_s g b d * fi_s g b d * fi_s g b d)) f_count f_place f_opens f_top f_fault f_faultAt f_dry f_found n (nI j + (-1)) (fi_m (fi_p (fi_p g r R) q Q)) a_there a_kind a_num a_open a_openAt a_power a_table := by
    intro j
    induction j with
    | zero =>
      intro Q R n hQ hR hRj hQj hj hA hn
      obtain ⟨n, rfl⟩ : ∃ m, n = m + 1 := ⟨n - 1, by omega⟩
      have e0 : nI 0 + (-1) = -1 := by decide
      rw [e0]
      exact br_t (fi_nm1 (by omega)) (h Q R hQ (pf_ln_mono hRj (by omega)) hA)
    | succ e ih =>
      intro Q R n hQ hR hRj hQj hj hA hn
      obtain ⟨n, rfl⟩ : ∃ m, n = m + 1 := ⟨n - 1, by omega⟩
      rw [pk_m1]
      by_cases c : e < d
      · exact br_t (nI_lt c (by omega)) (h Q R hQ (pf_ln_mono hRj (by omega)) hA)
      · have ex : (20 : Int32) * nI q + nI e - nI d = nI (20 * q + (e - d)) := by
          rw [fi_ix, pk_sub (by omega)]; congr 1; omega
        refine br_f (nI_nlt (by omega) (by omega)) ⟨fi_in hr (by omega), yc_mod (x := R e * (fi_s g b d * fi_s g b d * fi_s g b d)) ?_ ⟨pk_in (20 * q + (e - d)) 1800 (by omega) ex, nm_r (e' := fi_m (fi_p (fi_p g r R) q (pf_add Q (pf_mn (R e * (fi_s g b d * fi_s g b d * fi_s g b d)) (e - d))))) ?_ ⟨d + 2, ?_⟩⟩⟩
        · rw [fi_rd hr (by omega), fi_sq qr, fi_sp hR, fi_mm]
        · rw [ex, nI_clamp (by omega)]
          apply fi_pu (by omega)
          intro x hx
          show Q x + (if x = e - d then R e * (fi_s g b d * fi_s g b d * fi_s g b d) else 0) = _
          by_cases c2 : x = e - d
          · rw [if_pos c2, if_pos c2, hQj x (by omega)]; grind
          · rw [if_neg c2, if_neg c2]; grind
        · generalize ef : R e * (fi_s g b d * fi_s g b d * fi_s g b d) = f
          have u := inner (wY_divide_45 post (nI b) (nI q) (nI r) (nI d) (fi_I (fi_s g b d * fi_s g b d * fi_s g b d)) f_count f_place f_opens f_top f_fault f_faultAt f_dry f_found n) (fi_I (fi_s g b d * fi_s g b d * fi_s g b d)) e f (pf_add Q (pf_mn f (e - d))) R (by omega) (by omega) hR ?_ (d + 1) 0 (by omega)
          · have ee : fi_p (fi_p g r R) q (pf_add Q (pf_mn f (e - d))) = fi_p (fi_p g q (pf_add Q (pf_mn f (e - d)))) r (fun x => R x - (if e - d ≤ x ∧ x < e - d + 0 then f * fi_s g b (x - (e - d)) else 0)) := by
              rw [fi_pcm qr]
              apply fi_pc
              intro x hx
              rw [if_neg (by omega)]; grind
            rw [ee]; exact u
          · rw [← fi_pcm qr]
            refine ih _ _ n ?_ ?_ ?_ ?_ (by omega) ?_ (by omega)
            · exact pf_add_ln hQ (pf_ln_mono (pf_mn_ln _ _) (by omega))
            · apply pf_sub_ln hR
              intro k hk
              show pf_cm k (pf_mn f (e - d)) (fi_s g b) = 0
              rw [pf_mn_cm]
              by_cases c2 : e - d ≤ k
              · rw [if_pos c2, hB.1 _ (by omega)]; grind
              · rw [if_neg c2]
            · intro k hk
              show R k + - pf_cm k (pf_mn f (e - d)) (fi_s g b) = 0
              rw [pf_mn_cm, if_pos (by omega)]
              by_cases c2 : k = e
              · have e1 : k - (e - d) = d := by omega
                have e2 := pf_inv (fi_s g b d) hB.2
                rw [e1, c2, ← ef]; grind
              · rw [hRj k (by omega), hB.1 (k - (e - d)) (by omega)]; grind
            · intro k hk
              show Q k + (if k = e - d then f else 0) = 0
              rw [hQj k (by omega), if_neg (by omega)]; decide
            · rw [hA]
              generalize pf_mn f (e - d) = t
              generalize fi_s g b = B
              letI := pf_ring
              show Q * B + R = (Q + t) * B + (R - t * B)
              grind
  unfold wpY_divide
  refine yc_deg b hb (fun z => absurd z (pf_hd_n0 hB)) (fun d' hd' hB' => ?_)
  obtain rfl := pf_hd_u hB' hB
  refine ⟨fi_in hb hd', yc_inv' (fi_rd hb hd') ?_⟩
  refine yc_copy a r ha hr ?_
  refine yc_become q hq ?_
  have z0 : fi_z 0 = 0 := by decide
  rw [z0]
  have eA : fi_s (fi_p (fi_p g r (fi_s g a)) q (pf_c 0)) r = fi_s g a := by rw [fi_sq qr, fi_sp (fi_s_ln g a)]
  have hA0 : fi_s g a = pf_add (pf_mul (pf_c 0) (fi_s g b)) (fi_s g a) := by
    generalize fi_s g b = B
    generalize fi_s g a = A
    letI := pf_ring
    show A = 0 * B + A
    grind
  have c0 : pf_ln (pf_c 0) 20 := pf_ln_mono (pf_c_ln 0) (by omega)
  have c1 : ∀ k, pf_c 0 k = 0 := fun k => by rw [pf_c0]
  refine yc_deg r hr (fun z => ⟨1, ?_⟩) (fun e he hE => ⟨e + 2, ?_⟩)
  · rw [eA] at z
    have u := key 0 (pf_c 0) (fi_s g a) 1 c0 (fi_s_ln g a) (by rw [z]; exact fun k _ => c1 k) (fun k _ => c1 k) (by omega) hA0 (by omega)
    exact u
  · rw [eA] at hE
    have u := key (e + 1) (pf_c 0) (fi_s g a) (e + 2) c0 (fi_s_ln g a) hE.1 (fun k _ => c1 k) (by omega) hA0 (by omega)
    rw [pk_m1] at u
    exact u
theorem yc_monic {post : SY → Prop} {g : Nat → Fin 5} {xd xt : Int32} (d t : Nat) (hd : d < 20) (ht : t < 2 ^ 31) (h : post (f_count, f_place, f_opens, f_top, f_fault, f_faultAt, f_dry, f_found, fi_m (fi_p g 70 (pf_mk d t)), a_there, a_kind, a_num, a_open, a_openAt, a_power, a_table)) (ed : xd = nI d := by rfl) (et : xt = nI t := by rfl) : wpY_monic post (f_count, f_place, f_opens, f_top, f_fault, f_faultAt, f_dry, f_found, fi_m g, a_there, a_kind, a_num, a_open, a_openAt, a_power, a_table) xd xt := by
  subst ed et
  have key : ∀ m j, j + m = d → wY_monic_12 post (nI d) f_count f_place f_opens f_top f_fault f_faultAt f_dry f_found (m + 1) (nI (t / 5 ^ j)) (nI j) (fi_m (fi_p g 70 (fun k => if k < j then Fin.ofNat 5 (t / 5 ^ k) else 0))) a_there a_kind a_num a_open a_openAt a_power a_table := by
    intro m
    induction m with
    | zero =>
      intro j hj
      obtain rfl : j = d := by omega
      have ex : (1400 : Int32) + nI j = nI (20 * 70 + j) := nI_add 1400 j
      refine br_t (nI_le (Nat.le_refl _) (by omega)) ⟨pk_in (20 * 70 + j) 1800 (by omega) ex, nm_r ?_ h⟩
      rw [ex, nI_clamp (by omega)]
      refine fi_pu (x := 1) hd ?_
      intro k hk
      show (if k < j then Fin.ofNat 5 (t / 5 ^ k) else if k = j then 1 else 0) = _
      by_cases c : k = j
      · rw [if_neg (by omega), if_pos c, if_pos c]
      · rw [if_neg c, if_neg c]
    | succ m ih =>
      intro j hj
      have ex : (1400 : Int32) + nI j = nI (20 * 70 + j) := nI_add 1400 j
      have ht2 : t / 5 ^ j < 2 ^ 31 := Nat.lt_of_le_of_lt (Nat.div_le_self _ _) ht
      refine br_f (nI_ge (by omega) (by omega)) ⟨by decide, pk_in (20 * 70 + j) 1800 (by omega) ex, nm_r ?_ ⟨by decide, nm_r (e' := nI (t / 5 ^ (j + 1))) ?_ (nm_r (nI_1 j) (ih (j + 1) (by omega)))⟩⟩
      · have er : nI (t / 5 ^ j) - nI (t / 5 ^ j) / 5 * 5 = fi_I (Fin.ofNat 5 (t / 5 ^ j)) := pk_rem (d := 5) ht2 (by decide) (by decide)
        rw [ex, nI_clamp (by omega), er]
        apply fi_pu (by omega)
        intro k hk
        by_cases c : k = j
        · rw [if_pos (by omega), if_pos c, c]
        · rw [if_neg c]
          by_cases c2 : k < j
          · rw [if_pos c2, if_pos (by omega)]
          · rw [if_neg c2, if_neg (by omega)]
      · have ed : nI (t / 5 ^ j) / 5 = nI (t / 5 ^ j / 5) := pk_div (d := 5) ht2 (by decide) (by decide)
        rw [ed, Nat.div_div_eq_div_mul, Nat.pow_succ]
  unfold wpY_monic
  refine yc_become 70 (by omega) ?_
  have u := key d 0 (by omega)
  rw [Nat.pow_zero, Nat.div_one] at u
  have e : fi_p g 70 (pf_c (fi_z 0)) = fi_p g 70 (fun k => if k < 0 then Fin.ofNat 5 (t / 5 ^ k) else 0) := by
    apply fi_pc
    intro k hk
    have : fi_z 0 = 0 := by decide
    rw [this, pf_c0, if_neg (by omega)]
  rw [← e] at u
  exact ⟨d + 1, u⟩
end
end
section
/-! The reference's trial division: strike, keep, split -/
theorem pf_dv_rem {F Q R : PF} {d : Nat} (hF : pf_hd F d) (fQ : pf_fin Q) (hR : pf_ln R d) (h : pf_dv F (pf_add (pf_mul Q F) R)) : R = pf_c 0 := by
  obtain ⟨q, fq, eq⟩ := h
  have e : R = pf_mul (pf_sub q Q) F := by
    letI := pf_ring
    have e1 : Q * F + R = q * F := eq
    show R = (q - Q) * F
    grind
  rcases pf_fin_hd (pf_fin_sub fq fQ) with z | ⟨m, hm⟩
  · rw [e, z, pf_zero_mul]
  · exfalso
    have h1 := pf_mul_hd hm hF
    rw [← e] at h1
    have := pf_hd_lt h1 hR
    omega
theorem pf_nd_lt {F R : PF} {d e : Nat} (hF : pf_hd F d) (hR : pf_hd R e) (h : e < d) : ¬ pf_dv F R := by
  intro dv
  obtain ⟨d', _, h1, _, h2, _⟩ := pf_dv_hd dv hR (pf_hd_fin hF)
  have := pf_hd_u hF h1
  omega
theorem pf_hd_q {Q F : PF} {d D : Nat} (hF : pf_hd F d) (fQ : pf_fin Q) (h : pf_hd (pf_mul Q F) D) : pf_hd Q (D - d) ∧ d ≤ D := by
  rcases pf_fin_hd fQ with z | ⟨m, hm⟩
  · exfalso; apply pf_hd_n0 h; rw [z, pf_zero_mul]
  · have h1 := pf_hd_u h (pf_mul_hd hm hF)
    have e : D - d = m := by omega
    rw [e]; exact ⟨hm, by omega⟩
theorem pf_add_0 (f : PF) : pf_add f (pf_c 0) = f := by
  letI := pf_ring
  show f + 0 = f
  grind
section
variable {f_count f_place f_opens f_top f_fault f_faultAt f_dry f_found : Int32} {a_c a_there a_kind a_num a_open a_openAt a_power a_table : Nat → Int32}
theorem yc_strike {post : Int32 → SY → Prop} {g : Nat → Fin 5} {d D0 : Nat} (hF : pf_hd (fi_s g 70) d) (hd : 1 ≤ d) (hr : pf_hd (fi_s g 71) D0)
    (h : ∀ (g' : Nat → Fin 5) (n D : Nat), n ≤ 20 → (∀ s, s ≠ 71 → s ≠ 80 → s ≠ 81 → fi_s g' s = fi_s g s) → fi_s g 71 = pf_mul (fi_s g' 71) (pf_pow (fi_s g 70) n) → ¬ pf_dv (fi_s g 70) (fi_s g' 71) → pf_hd (fi_s g' 71) D → post (nI n) (f_count, f_place, f_opens, f_top, f_fault, f_faultAt, f_dry, f_found, fi_m g', a_there, a_kind, a_num, a_open, a_openAt, a_power, a_table)) :
    wpY_strike post (f_count, f_place, f_opens, f_top, f_fault, f_faultAt, f_dry, f_found, fi_m g, a_there, a_kind, a_num, a_open, a_openAt, a_power, a_table) 71 70 99 := by
  have hd20 : d < 20 := pf_hd_lt hF (fi_s_ln g 70)
  have hD20 : D0 < 20 := pf_hd_lt hr (fi_s_ln g 71)
  have key : ∀ D (g' : Nat → Fin 5) n fuel, pf_hd (fi_s g' 71) D → (∀ s, s ≠ 71 → s ≠ 80 → s ≠ 81 → fi_s g' s = fi_s g s) → fi_s g 71 = pf_mul (fi_s g' 71) (pf_pow (fi_s g 70) n) → n + D ≤ 19 → D + 2 ≤ fuel →
      wY_strike_6 post 71 70 99 fuel (nI n) 1 f_count f_place f_opens f_top f_fault f_faultAt f_dry f_found (fi_m g') a_there a_kind a_num a_open a_openAt a_power a_table := by
    intro D
    induction D using Nat.strongRecOn with
    | ind D ih =>
      intro g' n fuel hD fr er hn hf
      obtain ⟨fuel, rfl⟩ : ∃ m, fuel = m + 1 := ⟨fuel - 1, by omega⟩
      have hF' : pf_hd (fi_s g' 70) d := by rw [fr 70 (by omega) (by omega) (by omega)]; exact hF
      have eF' : fi_s g' 70 = fi_s g 70 := fr 70 (by omega) (by omega) (by omega)
      refine br_f (by decide) (br_f (nI_ge (b := 99) (by omega) (by decide)) ?_)
      refine yc_deg 71 (by omega) (fun z => absurd z (pf_hd_n0 hD)) (fun D' hD'2 hD' => ?_)
      obtain rfl := pf_hd_u hD' hD
      refine yc_deg 70 (by omega) (fun z => absurd z (pf_hd_n0 hF')) (fun d' hd'2 hd' => ?_)
      obtain rfl := pf_hd_u hd' hF'
      by_cases c : D' < d'
      · refine br_t (nI_lt c (by omega)) (h g' n D' (by omega) fr er ?_ hD)
        rw [← eF']; exact pf_nd_lt hF' hD c
      · refine br_f (nI_nlt (by omega) (by omega)) ?_
        refine yc_divide 71 70 80 81 (by omega) (by omega) (by omega) (by omega) (by omega) (by omega) (by omega) hF' (fun Q R hQ hR eQ => ?_)
        have hR20 : pf_ln R 20 := pf_ln_mono hR (by omega)
        refine yc_deg 81 (by omega) (fun z => ?_) (fun e he hE => ?_)
        · rw [fi_sq (by omega), fi_sp hR20] at z
          refine br_f (by decide) (br_f (by decide) ?_)
          refine yc_copy 80 71 (by omega) (by omega) (nm_r (nI_1 n) ?_)
          rw [z, pf_add_0] at eQ
          have hQ2 := pf_hd_q hF' ⟨_, hQ⟩ (eQ ▸ hD)
          have e80 : fi_s (fi_p (fi_p g' 81 R) 80 Q) 80 = Q := fi_sp hQ
          refine ih (D' - d') (by omega) _ (n + 1) fuel ?_ ?_ ?_ (by omega) (by omega)
          · rw [fi_sp (fi_s_ln _ _), e80]; exact hQ2.1
          · intro s h1 h2 h3
            rw [fi_sq h1, fi_sq h2, fi_sq h3]; exact fr s h1 h2 h3
          · rw [fi_sp (fi_s_ln _ _), e80, er, eQ, eF']
            show _ = pf_mul Q (pf_mul (pf_pow (fi_s g 70) n) (fi_s g 70))
            generalize pf_pow (fi_s g 70) n = p
            generalize fi_s g 70 = F
            letI := pf_ring
            show Q * F * p = Q * (p * F)
            grind
        · rw [fi_sq (by omega), fi_sp hR20] at hE
          refine br_t (nI_pos' (by omega)) (br_t rfl ?_)
          obtain ⟨fuel, rfl⟩ : ∃ m, fuel = m + 1 := ⟨fuel - 1, by omega⟩
          have e71 : fi_s (fi_p (fi_p g' 81 R) 80 Q) 71 = fi_s g' 71 := by rw [fi_sq (by omega), fi_sq (by omega)]
          refine br_t rfl (h _ n D' (by omega) ?_ (by rw [e71]; exact er) ?_ (by rw [e71]; exact hD))
          · intro s h1 h2 h3
            rw [fi_sq h2, fi_sq h3]; exact fr s h1 h2 h3
          · rw [e71, ← eF']
            intro dv
            rw [eQ] at dv
            exact pf_hd_n0 hE (pf_dv_rem hF' ⟨_, hQ⟩ hR dv)
  unfold wpY_strike
  refine ⟨D0 + 2, key D0 g 0 (D0 + 2) hr (fun _ _ _ _ => rfl) ?_ (by omega) (by omega)⟩
  show _ = pf_mul (fi_s g 71) (pf_c 1)
  rw [pf_mul_comm, pf_one_mul]
end
/-- what split leaves: slots that it doesn't touch, the factors in 72 .., their powers -/
def ys_fr (g g' : Nat → Fin 5) : Prop := ∀ s, s < 70 ∨ 82 ≤ s → fi_s g' s = fi_s g s
def ys_sp (g' : Nat → Fin 5) (A r : PF) (m : Nat) (pw : Nat → Int32) (D n : Nat → Nat) : Prop :=
  pf_Sp A r m (fun i => fi_s g' (72 + i)) D n ∧ ∀ i, i < m → pw i = nI (n i)
theorem ys_keep {g : Nat → Fin 5} {A r r' f : PF} {m k d N : Nat} {pw : Nat → Int32} {D n : Nat → Nat} (S : ys_sp g A r m pw D n) (hA : pf_hd A N) (hN : N ≤ 8)
    (hf : pf_irr f d) (lf : pf_ln f 20) (hk : 1 ≤ k) (er : r = pf_mul r' (pf_pow f k)) (nd : ¬ pf_dv f r') (fr : pf_fin r') :
    m < 8 ∧ ∃ D' n', ys_sp (fi_p g (72 + m) f) A r' (m + 1) (upd pw m (nI k)) D' n' := by
  have S' : pf_Sp A r' (m + 1) (fun i => fi_s (fi_p g (72 + m) f) (72 + i)) (fun i => if i = m then d else D i) (fun i => if i = m then k else n i) := by
    refine pf_Sp_step S.1 hf hk er nd fr (fun i hi => ?_) (fun i hi => ?_) (fun i hi => ?_) ?_ ?_ ?_
    · exact fi_sq (by omega)
    · exact if_neg (by omega)
    · exact if_neg (by omega)
    · exact fi_sp lf
    · exact if_pos rfl
    · exact if_pos rfl
  have hm := pf_Sp_m S' hA fr
  refine ⟨by omega, _, _, S', fun i hi => ?_⟩
  show (if i = m then nI k else pw i) = nI (if i = m then k else n i)
  by_cases c : i = m
  · rw [if_pos c, if_pos c]
  · rw [if_neg c, if_neg c]; exact S.2 i (by omega)
theorem pf_fr_dv {d D D' : Nat} {r r' : PF} (h : pf_fr d r D) (hD : D' ≤ D) (hr : pf_dv r' r) : pf_fr d r' D' :=
  fun e s h1 h2 h3 h4 dv => h e s h1 h2 (by omega) h4 (pf_dv_t dv hr)
theorem ys_sp_eq {g g' : Nat → Fin 5} {A r : PF} {m : Nat} {pw : Nat → Int32} {D n : Nat → Nat} (S : ys_sp g A r m pw D n) (h : ∀ i, i < m → fi_s g' (72 + i) = fi_s g (72 + i)) : ys_sp g' A r m pw D n := by
  obtain ⟨⟨s1, s2, s3, s4, s5, s6, s7⟩, hp⟩ := S
  have e : ∀ i, i < m → (fun i => fi_s g' (72 + i)) i = (fun i => fi_s g (72 + i)) i := h
  refine ⟨⟨fun i hi => by rw [e i hi]; exact s1 i hi, s2, fun i hi => by rw [e i hi]; exact s3 i hi, fun i hi j hj hij => by rw [e i hi, e j hj]; exact s4 i hi j hj hij, fun i hi => by rw [e i hi]; exact s5 i hi, fun i hi => by rw [e i hi]; exact s6 i hi, ?_⟩, hp⟩
  obtain ⟨G, h1, h2, h3⟩ := s7
  refine ⟨G, h1, h2, fun f ff hc => h3 f ff (fun i hi => ?_)⟩
  have := hc i hi
  rw [e i hi] at this
  exact this
end
section
/-! The reference's split -/
theorem fi_deg2 {e d : Nat} (he : e < 20) (hd : d < 20) : (nI e < (2 : Int32) * nI d) ↔ e < 2 * d := by
  have e2 : (2 : Int32) * nI d = nI (2 * d) := pk_mul 2 d
  rw [e2, nI_ltI (by omega) (by omega)]
theorem pf_5pow {d : Nat} (h : d ≤ 4) : 5 ^ d ≤ 625 := Nat.pow_le_pow_right (n := 5) (by decide) h
section
variable {f_count f_place f_opens f_top f_fault f_faultAt f_dry f_found : Int32} {a_c a_there a_kind a_num a_open a_openAt a_power a_table : Nat → Int32}
theorem yc_keep {post : SY → Prop} {g : Nat → Fin 5} {xs xn : Int32} (s m : Nat) (hs : s < 90) (hm : m < 8) (h : post (f_count, f_place, f_opens, f_top, f_fault, f_faultAt, f_dry, nI (m + 1), fi_m (fi_p g (72 + m) (fi_s g s)), a_there, a_kind, a_num, a_open, a_openAt, upd a_power m xn, a_table)) (es : xs = nI s := by rfl) (ef : f_found = nI m := by rfl) : wpY_keep post (f_count, f_place, f_opens, f_top, f_fault, f_faultAt, f_dry, f_found, fi_m g, a_there, a_kind, a_num, a_open, a_openAt, a_power, a_table) xs xn := by
  subst es ef
  unfold wpY_keep
  refine yc_copy s (72 + m) hs (by omega) ?_ rfl (nI_add 72 m)
  refine ⟨vp_in_nI hm (by omega), nm_r (e' := upd a_power m xn) ?_ (nm_r (nI_1 m) h)⟩
  rw [nI_clamp (by omega)]
/-- the turns over the codes t of one degree d -/
theorem yc_split50 {post : SY → Prop} {g0 : Nat → Fin 5} {A : PF} {N d : Nat} (hA : pf_hd A N) (hN : N ≤ 8) (hd1 : 1 ≤ d) (hd4 : d ≤ 4)
    (J : Int32 → Int32 → Int32 → Int32 → Int32 → Int32 → Int32 → Int32 → Int32 → (Nat → Int32) → (Nat → Int32) → (Nat → Int32) → (Nat → Int32) → (Nat → Int32) → (Nat → Int32) → (Nat → Int32) → (Nat → Int32) → Prop)
    (hJ : ∀ (g' : Nat → Fin 5) (m e : Nat) (pw : Nat → Int32) (D n : Nat → Nat), ys_fr g0 g' → ys_sp g' A (fi_s g' 71) m pw D n → pf_hd (fi_s g' 71) e → e ≤ 8 → pf_fr (d + 1) (fi_s g' 71) e → J (nI (d + 1)) f_count f_place f_opens f_top f_fault f_faultAt f_dry (nI m) (fi_m g') a_there a_kind a_num a_open a_openAt (pw) a_table) :
    ∀ (k t : Nat) (g : Nat → Fin 5) (m e : Nat) (pw : Nat → Int32) (D n : Nat → Nat), t + k = 5 ^ d → ys_fr g0 g → ys_sp g A (fi_s g 71) m pw D n → pf_hd (fi_s g 71) e → e ≤ 8 → pf_fr d (fi_s g 71) e → (∀ s, s < t → ¬ pf_dv (pf_mk d s) (fi_s g 71)) →
      wY_split_50 post J (nI d) (nI (5 ^ d)) (k + 1) (nI t) f_count f_place f_opens f_top f_fault f_faultAt f_dry (nI m) (fi_m g) a_there a_kind a_num a_open a_openAt (pw) a_table := by
  have h625 := pf_5pow hd4
  intro k
  induction k with
  | zero =>
    intro t g m e pw D n ht fr S hr he hf hs
    refine br_t (nI_le (by omega) (by omega)) (nm_r (nI_1 d) (hJ g m e pw D n fr S hr he ?_))
    intro e' s h1 h2 h3 h4
    by_cases c : e' = d
    · subst c; exact hs s (by omega)
    · exact hf e' s h1 (by omega) h3 h4
  | succ k ih =>
    intro t g m e pw D n ht fr S hr he hf hs
    refine br_f (nI_ge (by omega) (by omega)) ?_
    refine yc_deg 71 (by omega) (fun z => absurd z (pf_hd_n0 hr)) (fun e' he' hr' => ?_)
    obtain rfl := pf_hd_u hr' hr
    by_cases c : e' < 2 * d
    · refine br_t ((fi_deg2 he' (by omega)).mpr c) (nm_r (nI_1 d) (hJ g m e' pw D n fr S hr he ?_))
      intro e s h1 h2 h3 h4
      exact hf e s h1 (by omega) h3 h4
    · refine br_f (fun z => c ((fi_deg2 he' (by omega)).mp z)) ?_
      refine yc_monic d t (by omega) (by omega) ?_
      have lmk : pf_ln (pf_mk d t) 20 := pf_ln_mono (pf_mk_ln d t) (by omega)
      have e70 : fi_s (fi_p g 70 (pf_mk d t)) 70 = pf_mk d t := fi_sp lmk
      have e71 : fi_s (fi_p g 70 (pf_mk d t)) 71 = fi_s g 71 := fi_sq (by omega)
      refine yc_strike (d := d) (D0 := e') (by rw [e70]; exact pf_mk_hd d t) hd1 (by rw [e71]; exact hr) (fun g' q D1 hq fr' er nd hD1 => ?_)
      rw [e70, e71] at er
      rw [e70] at nd
      have fr'2 : ys_fr g0 g' := fun s hs2 => by
        rw [fr' s (by omega) (by omega) (by omega), fi_sq (by omega)]; exact fr s hs2
      have dvr : pf_dv (fi_s g' 71) (fi_s g 71) := ⟨pf_pow (pf_mk d t) q, pf_fin_pow (pf_hd_fin (pf_mk_hd d t)) q, by rw [er, pf_mul_comm]⟩
      have hD1e : D1 ≤ e' := by
        obtain ⟨d2, _, h1, _, h2, _⟩ := pf_dv_hd dvr hr (pf_hd_fin hD1)
        have := pf_hd_u hD1 h1
        omega
      have hf' : pf_fr d (fi_s g' 71) D1 := pf_fr_dv hf hD1e dvr
      have hs' : ∀ s, s < t + 1 → ¬ pf_dv (pf_mk d s) (fi_s g' 71) := by
        intro s hs2
        by_cases c2 : s = t
        · rw [c2]; exact nd
        · exact fun dv => hs s (by omega) (pf_dv_t dv dvr)
      by_cases cq : q = 0
      · subst cq
        have er2 : fi_s g 71 = fi_s g' 71 := by rw [er]; show pf_mul (fi_s g' 71) (pf_c 1) = _; rw [pf_mul_comm, pf_one_mul]
        refine br_t (by decide) (nm_r (nI_1 t) (ih (t + 1) g' m D1 pw D n (by omega) fr'2 ?_ hD1 (by omega) hf' hs'))
        rw [← er2]
        refine ys_sp_eq S (fun i hi => ?_)
        have hm := pf_Sp_m S.1 hA (pf_hd_fin hr)
        rw [fr' (72 + i) (by omega) (by omega) (by omega), fi_sq (by omega)]
      · have hirr : pf_irr (pf_mk d t) d := pf_irr_mk (r := fi_s g 71) hd1 (fun e s h1 h2 h3 => hf e s h1 h2 (by omega) h3) (by
          rw [er]
          obtain ⟨q', rfl⟩ : ∃ q', q = q' + 1 := ⟨q - 1, by omega⟩
          exact pf_dv_ml (pf_dv_ml (pf_dv_r _) (pf_fin_pow (pf_hd_fin (pf_mk_hd d t)) q')) (pf_hd_fin hD1))
        have hm := pf_Sp_m S.1 hA (pf_hd_fin hr)
        have S2 : ys_sp g' A (fi_s g 71) m pw D n := ys_sp_eq S (fun i hi => by
          rw [fr' (72 + i) (by omega) (by omega) (by omega), fi_sq (by omega)])
        have e70' : fi_s g' 70 = pf_mk d t := by rw [fr' 70 (by omega) (by omega) (by omega), e70]
        obtain ⟨hm8, D', n', S3⟩ := ys_keep S2 hA hN hirr lmk (by omega) er nd (pf_hd_fin hD1)
        refine br_f (nI_nle (by omega) (by omega)) (yc_keep 70 m (by omega) hm8 (nm_r (nI_1 t) ?_))
        rw [e70']
        have e71' : fi_s (fi_p g' (72 + m) (pf_mk d t)) 71 = fi_s g' 71 := fi_sq (by omega)
        have u := ih (t + 1) (fi_p g' (72 + m) (pf_mk d t)) (m + 1) D1 (upd pw m (nI q)) D' n' (by omega) ?_ ?_ ?_ (by omega) ?_ ?_
        · exact u
        · intro s hs2
          rw [fi_sq (by omega)]; exact fr'2 s hs2
        · rw [e71']; exact S3
        · rw [e71']; exact hD1
        · rw [e71']; exact hf'
        · rw [e71']; exact hs'
end
end
section
/-! The reference's split, to its end -/
/-- what split answers for the polynomial A: nothing for 0, else all its factors -/
def ys_ok (g' : Nat → Fin 5) (A : PF) (m : Nat) (pw : Nat → Int32) : Prop :=
  (A = pf_c 0 ∧ m = 0) ∨ ∃ (N : Nat) (r : PF) (D n : Nat → Nat), pf_hd A N ∧ ys_sp g' A r m pw D n ∧ pf_hd r 0
theorem pf_pow1 (f : PF) : pf_pow f 1 = f := pf_one_mul f
theorem pf_sc (f : PF) (c : Fin 5) : (fun k => f k * c) = pf_mul (pf_c c) f := by
  rw [pf_mul_cl]; funext k; grind
section
variable {f_count f_place f_opens f_top f_fault f_faultAt f_dry f_found : Int32} {a_c a_there a_kind a_num a_open a_openAt a_power a_table : Nat → Int32}
theorem yc_split31 {post : SY → Prop} {d : Nat} (hd4 : d ≤ 4)
    (J : Int32 → Int32 → Int32 → Int32 → Int32 → Int32 → Int32 → Int32 → Int32 → (Nat → Int32) → (Nat → Int32) → (Nat → Int32) → (Nat → Int32) → (Nat → Int32) → (Nat → Int32) → (Nat → Int32) → (Nat → Int32) → Prop)
    (h : ∃ n50 : Nat, wY_split_50 post J (nI d) (nI (5 ^ d)) n50 0 f_count f_place f_opens f_top f_fault f_faultAt f_dry f_found a_c a_there a_kind a_num a_open a_openAt a_power a_table) :
    ∀ k i, i + k = d → wY_split_31 post J (nI d) f_count f_place f_opens f_top f_fault f_faultAt f_dry f_found a_c a_there a_kind a_num a_open a_openAt a_power a_table (k + 1) (nI (5 ^ i)) (nI i) := by
  intro k
  induction k with
  | zero =>
    intro i hi
    obtain rfl : i = d := by omega
    exact br_t (nI_le (Nat.le_refl _) (by omega)) h
  | succ k ih =>
    intro i hi
    have e5 : nI (5 ^ i) * 5 = nI (5 ^ (i + 1)) := by rw [Nat.pow_succ]; exact pk_mul (5 ^ i) 5
    exact br_f (nI_ge (by omega) (by omega)) (nm_r e5 (nm_r (nI_1 i) (ih (i + 1) (by omega))))
theorem yc_split_end {post : SY → Prop} {g0 : Nat → Fin 5} {A : PF} {N : Nat} (hA : pf_hd A N) (hN : N ≤ 8)
    (h : ∀ (g' : Nat → Fin 5) (m : Nat) (pw : Nat → Int32), m ≤ 8 → ys_fr g0 g' → ys_ok g' A m pw → post (f_count, f_place, f_opens, f_top, f_fault, f_faultAt, f_dry, nI m, fi_m g', a_there, a_kind, a_num, a_open, a_openAt, pw, a_table))
    (g : Nat → Fin 5) (m e : Nat) (pw : Nat → Int32) (D n : Nat → Nat) (d k : Nat) (he20 : e < 20) (hd20 : d < 20) (he : e ≤ 8) (hd1 : 1 ≤ d) (c : e < 2 * d) (fr : ys_fr g0 g) (S : ys_sp g A (fi_s g 71) m pw D n) (hr : pf_hd (fi_s g 71) e) (hf : pf_fr d (fi_s g 71) e) :
    wY_split_14 post (k + 1) (nI d) f_count f_place f_opens f_top f_fault f_faultAt f_dry (nI m) (fi_m g) a_there a_kind a_num a_open a_openAt (pw) a_table := by
  have hm := pf_Sp_m S.1 hA (pf_hd_fin hr)
  refine yc_deg 71 (by omega) (fun z => absurd z (pf_hd_n0 hr)) (fun e1 he1 hr1 => ?_)
  obtain rfl := pf_hd_u hr1 hr
  refine br_t ((fi_deg2 he1 hd20).mpr c) ?_
  refine yc_deg 71 (by omega) (fun z => absurd z (pf_hd_n0 hr)) (fun e' he' hr' => ?_)
  obtain rfl := pf_hd_u hr' hr
  by_cases c0 : e' = 0
  · subst c0
    refine br_f (by decide) (h g m pw (by omega) fr (Or.inr ⟨N, _, D, n, hA, S, hr⟩))
  · refine br_t (nI_le (a := 1) (by omega) (by omega)) ?_
    refine yc_deg 71 (by omega) (fun z => absurd z (pf_hd_n0 hr)) (fun e2 he2 hr2 => ?_)
    obtain rfl := pf_hd_u hr2 hr
    have ex : (1420 : Int32) + nI e2 = nI (20 * 71 + e2) := nI_add 1420 e2
    refine ⟨pk_in (20 * 71 + e2) 1800 (by omega) ex, yc_inv' (y := fi_s g 71 e2) ?_ ?_⟩
    · rw [ex, nI_clamp (by omega), fi_s_at he2]; rfl
    · have cz : fi_s g 71 e2 * fi_s g 71 e2 * fi_s g 71 e2 ≠ 0 := pf_nz _ _ (pf_nz _ _ hr.2 hr.2) hr.2
      have hi : pf_irr (pf_mul (pf_c (fi_s g 71 e2 * fi_s g 71 e2 * fi_s g 71 e2)) (fi_s g 71)) e2 := pf_irr_c cz (pf_irr_last hr (by omega) c hf)
      have lf : pf_ln (pf_mul (pf_c (fi_s g 71 e2 * fi_s g 71 e2 * fi_s g 71 e2)) (fi_s g 71)) 20 := pf_c_ml _ (fi_s_ln g 71)
      refine yc_scale 71 (fi_s g 71 e2 * fi_s g 71 e2 * fi_s g 71 e2) (by omega) ?_
      rw [pf_sc]
      have h0 : pf_hd (pf_c (fi_s g 71 e2)) 0 := pf_hd_c hr.2
      have er : fi_s g 71 = pf_mul (pf_c (fi_s g 71 e2)) (pf_pow (pf_mul (pf_c (fi_s g 71 e2 * fi_s g 71 e2 * fi_s g 71 e2)) (fi_s g 71)) 1) := by
        rw [pf_pow1, pf_c_inv hr.2]
      have S2 : ys_sp (fi_p g 71 (pf_mul (pf_c (fi_s g 71 e2 * fi_s g 71 e2 * fi_s g 71 e2)) (fi_s g 71))) A (fi_s g 71) m pw D n := ys_sp_eq S (fun i hi => fi_sq (by omega))
      obtain ⟨hm8, D', n', S3⟩ := ys_keep S2 hA hN hi lf (Nat.le_refl 1) er (pf_nd_lt hi.1 h0 (by omega)) (pf_fin_c _)
      have e71 : fi_s (fi_p g 71 (pf_mul (pf_c (fi_s g 71 e2 * fi_s g 71 e2 * fi_s g 71 e2)) (fi_s g 71))) 71 = pf_mul (pf_c (fi_s g 71 e2 * fi_s g 71 e2 * fi_s g 71 e2)) (fi_s g 71) := fi_sp lf
      refine yc_keep 71 m (by omega) hm8 ?_
      rw [e71]
      refine h _ (m + 1) _ (by omega) ?_ (Or.inr ⟨N, _, D', n', hA, S3, h0⟩)
      intro s hs
      rw [fi_sq (by omega), fi_sq (by omega)]; exact fr s hs
theorem yc_split14 {post : SY → Prop} {g0 : Nat → Fin 5} {A : PF} {N : Nat} (hA : pf_hd A N) (hN : N ≤ 8)
    (h : ∀ (g' : Nat → Fin 5) (m : Nat) (pw : Nat → Int32), m ≤ 8 → ys_fr g0 g' → ys_ok g' A m pw → post (f_count, f_place, f_opens, f_top, f_fault, f_faultAt, f_dry, nI m, fi_m g', a_there, a_kind, a_num, a_open, a_openAt, pw, a_table)) :
    ∀ (k d : Nat) (g : Nat → Fin 5) (m e : Nat) (pw : Nat → Int32) (D n : Nat → Nat), 1 ≤ d → d + k = 6 → ys_fr g0 g → ys_sp g A (fi_s g 71) m pw D n → pf_hd (fi_s g 71) e → e ≤ 8 → pf_fr d (fi_s g 71) e →
      wY_split_14 post (k + 1) (nI d) f_count f_place f_opens f_top f_fault f_faultAt f_dry (nI m) (fi_m g) a_there a_kind a_num a_open a_openAt (pw) a_table := by
  intro k
  induction k with
  | zero =>
    intro d g m e pw D n hd1 hk fr S hr he hf
    exact yc_split_end hA hN h g m e pw D n d 0 (by omega) (by omega) he hd1 (by omega) fr S hr hf
  | succ k ih =>
    intro d g m e pw D n hd1 hk fr S hr he hf
    by_cases c : e < 2 * d
    · exact yc_split_end hA hN h g m e pw D n d (k + 1) (by omega) (by omega) he hd1 c fr S hr hf
    · refine yc_deg 71 (by omega) (fun z => absurd z (pf_hd_n0 hr)) (fun e' he' hr' => ?_)
      obtain rfl := pf_hd_u hr' hr
      refine br_f (fun z => c ((fi_deg2 he' (by omega)).mp z)) ⟨d + 1, ?_⟩
      refine yc_split31 (by omega) _ ⟨5 ^ d + 1, ?_⟩ d 0 (by omega)
      refine yc_split50 hA hN hd1 (by omega) _ (fun g' m' e2 pw' D' n' fr' S' hr2 he2 hf2 => ?_) (5 ^ d) 0 g m e' pw D n (by omega) fr S hr he hf (fun s hs => by omega)
      exact ih (d + 1) g' m' e2 pw' D' n' (by omega) (by omega) fr' S' hr2 he2 hf2
theorem yc_split {post : SY → Prop} {g : Nat → Fin 5} {xs : Int32} (s : Nat) (hs : s < 90) (hs2 : s < 70 ∨ 82 ≤ s) (hl : pf_ln (fi_s g s) 9)
    (h : ∀ (g' : Nat → Fin 5) (m : Nat) (pw : Nat → Int32), m ≤ 8 → ys_fr g g' → ys_ok g' (fi_s g s) m pw → post (f_count, f_place, f_opens, f_top, f_fault, f_faultAt, f_dry, nI m, fi_m g', a_there, a_kind, a_num, a_open, a_openAt, pw, a_table)) (es : xs = nI s := by rfl) :
    wpY_split post (f_count, f_place, f_opens, f_top, f_fault, f_faultAt, f_dry, f_found, fi_m g, a_there, a_kind, a_num, a_open, a_openAt, a_power, a_table) xs := by
  subst es
  unfold wpY_split
  refine yc_copy s 71 hs (by omega) ?_
  have fr0 : ys_fr g (fi_p g 71 (fi_s g s)) := fun t ht => fi_sq (by omega)
  have e71 : fi_s (fi_p g 71 (fi_s g s)) 71 = fi_s g s := fi_sp (fi_s_ln g s)
  rcases pf_hd_of 9 (fi_s g s) hl with z | ⟨N, hN, hA⟩
  · refine ⟨1, ?_⟩
    have z71 : fi_s (fi_p g 71 (fi_s g s)) 71 = pf_c 0 := by rw [e71, z]
    refine yc_deg 71 (by omega) (fun _ => ?_) (fun d _ hd => absurd z71 (pf_hd_n0 hd))
    refine br_t (by decide) ?_
    refine yc_deg 71 (by omega) (fun _ => ?_) (fun d _ hd => absurd z71 (pf_hd_n0 hd))
    refine br_f (by decide) ?_
    exact h _ 0 a_power (by omega) fr0 (Or.inl ⟨z, rfl⟩)
  · refine ⟨6, ?_⟩
    have u := yc_split14 (g0 := g) hA (by omega) h 5 1 (fi_p g 71 (fi_s g s)) 0 N a_power (fun _ => 0) (fun _ => 0) (by omega) (by omega) fr0 (by rw [e71]; exact ⟨pf_Sp0 _ _ _ _, fun i hi => by omega⟩) (by rw [e71]; exact hA) (by omega) (fun e s h1 h2 => by omega)
    exact u
end
end
section
/-! The reference's reduce: common factors of the slots 2v and 2v+1 among the factors of a third slot go -/
def ys_r2 (v : Nat) (g g' : Nat → Fin 5) : Prop := ∀ s, s ≠ 2 * v → s ≠ 2 * v + 1 → s ≠ 81 → s ≠ 82 → s ≠ 83 → fi_s g' s = fi_s g s
/-- the quotient of the slots stays: both lost the factor H -/
def ys_lost (v : Nat) (g g' : Nat → Fin 5) (H : PF) : Prop := fi_s g (2 * v) = pf_mul (fi_s g' (2 * v)) H ∧ fi_s g (2 * v + 1) = pf_mul (fi_s g' (2 * v + 1)) H
theorem ys_lost_t {v : Nat} {g g1 g2 : Nat → Fin 5} {H K : PF} (h1 : ys_lost v g g1 H) (h2 : ys_lost v g1 g2 K) : ys_lost v g g2 (pf_mul K H) := by
  refine ⟨?_, ?_⟩
  · rw [h1.1, h2.1, pf_mul_assoc]
  · rw [h1.2, h2.2, pf_mul_assoc]
theorem fi_2 (v : Nat) : (2 : Int32) * nI v = nI (2 * v) := pk_mul 2 v
theorem fi_21 (v : Nat) : (2 : Int32) * nI v + 1 = nI (2 * v + 1) := by rw [fi_2, nI_1]
theorem fi_72 (i : Nat) : (72 : Int32) + nI i = nI (72 + i) := nI_add 72 i
theorem pf_mul1 (f : PF) : pf_mul f (pf_c 1) = f := by rw [pf_mul_comm, pf_one_mul]
section
variable {f_count f_place f_opens f_top f_fault f_faultAt f_dry f_found : Int32} {a_c a_there a_kind a_num a_open a_openAt a_power a_table : Nat → Int32}
/-- the turns of one factor F -/
theorem yc_red18 {post : SY → Prop} {g0 : Nat → Fin 5} {v i d : Nat} (hv : 2 * v + 1 < 70) (hi : i < 8) (hF : pf_hd (fi_s g0 (72 + i)) d) (hd : 1 ≤ d)
    (J : Int32 → Int32 → Int32 → Int32 → Int32 → Int32 → Int32 → Int32 → Int32 → (Nat → Int32) → (Nat → Int32) → (Nat → Int32) → (Nat → Int32) → (Nat → Int32) → (Nat → Int32) → (Nat → Int32) → (Nat → Int32) → Prop)
    (hJ : ∀ (g' : Nat → Fin 5) (H : PF), ys_r2 v g0 g' → ys_lost v g0 g' H → pf_hd H 0 ∨ (∃ e, pf_hd H e) → (fi_s g0 (2 * v) = pf_c 0 ∨ ¬ (pf_dv (fi_s g0 (72 + i)) (fi_s g' (2 * v)) ∧ pf_dv (fi_s g0 (72 + i)) (fi_s g' (2 * v + 1)))) → J (nI (i + 1)) f_count f_place f_opens f_top f_fault f_faultAt f_dry f_found (fi_m g') a_there a_kind a_num a_open a_openAt a_power a_table) :
    ∀ (k : Nat) (g : Nat → Fin 5) (H : PF) (e : Nat), ys_r2 v g0 g → ys_lost v g0 g H → pf_hd H e → pf_ln (fi_s g (2 * v)) k → wY_reduce_18 post J (nI v) (nI i) (k + 2) 1 f_count f_place f_opens f_top f_fault f_faultAt f_dry f_found (fi_m g) a_there a_kind a_num a_open a_openAt a_power a_table := by
  intro k
  induction k using Nat.strongRecOn with
  | ind k ih =>
    intro g H e fr ls hH hk
    have eF : fi_s g (72 + i) = fi_s g0 (72 + i) := fr _ (by omega) (by omega) (by omega) (by omega) (by omega)
    have hF' : pf_hd (fi_s g (72 + i)) d := by rw [eF]; exact hF
    have hd20 : d < 20 := pf_hd_lt hF' (fi_s_ln _ _)
    refine br_f (by decide) ?_
    refine yc_divide (2 * v) (72 + i) 82 81 (by omega) (by omega) (by omega) (by omega) (by omega) (by omega) (by omega) hF' (fun Qp Rp hQp hRp eP => ?_) (fi_2 v) (fi_72 i)
    have hRp20 : pf_ln Rp 20 := pf_ln_mono hRp (by omega)
    -- the branch that ends: no common factor, or nothing there
    have stop : ∀ x1 : Prop, x1 → (fi_s g0 (2 * v) = pf_c 0 ∨ ¬ (pf_dv (fi_s g0 (72 + i)) (fi_s g (2 * v)) ∧ pf_dv (fi_s g0 (72 + i)) (fi_s g (2 * v + 1)))) → wY_reduce_61 post J (wY_reduce_18 post J (nI v) (nI i) (k + 1)) (nI v) (nI i) f_count f_place f_opens f_top f_fault f_faultAt f_dry f_found (fi_m (fi_p (fi_p g 81 Rp) 82 Qp)) a_there a_kind a_num a_open a_openAt a_power a_table := by
      intro _ _ hno
      unfold wY_reduce_61 wY_reduce_62
      have eF2 : fi_s (fi_p (fi_p g 81 Rp) 82 Qp) (72 + i) = fi_s g (72 + i) := by rw [fi_sq (by omega), fi_sq (by omega)]
      refine yc_divide (2 * v + 1) (72 + i) 83 81 (by omega) (by omega) (by omega) (by omega) (by omega) (by omega) (by omega) (by rw [eF2]; exact hF') (fun Q2 R2 hQ2 hR2 _ => ?_) (fi_21 v) (fi_72 i)
      refine br_t rfl ?_
      refine br_t rfl ?_
      refine br_t rfl (nm_r (nI_1 i) (hJ _ H ?_ ?_ (Or.inr ⟨e, hH⟩) ?_))
      · intro s h1 h2 h3 h4 h5
        rw [fi_sq h5, fi_sq h3, fi_sq h4, fi_sq h3]; exact fr s h1 h2 h3 h4 h5
      · refine ⟨?_, ?_⟩
        · rw [fi_sq (by omega), fi_sq (by omega), fi_sq (by omega), fi_sq (by omega)]; exact ls.1
        · rw [fi_sq (by omega), fi_sq (by omega), fi_sq (by omega), fi_sq (by omega)]; exact ls.2
      · rw [fi_sq (by omega), fi_sq (by omega), fi_sq (by omega), fi_sq (by omega), fi_sq (by omega), fi_sq (by omega), fi_sq (by omega), fi_sq (by omega)]; exact hno
    refine yc_deg 81 (by omega) (fun z => ?_) (fun e1 he1 hE => ?_)
    · rw [fi_sq (by omega), fi_sp hRp20] at z
      refine br_f (by decide) ?_
      refine yc_deg (2 * v) (by omega) (fun zP => ?_) (fun D hD hP => ?_) (fi_2 v)
      · rw [fi_sq (by omega), fi_sq (by omega)] at zP
        refine br_t (by decide) (stop True trivial (Or.inl ?_))
        rw [ls.1, zP, pf_zero_mul]
      · rw [fi_sq (by omega), fi_sq (by omega)] at hP
        refine br_f (nI_pos (by omega)) ?_
        unfold wY_reduce_62
        have eF2 : fi_s (fi_p (fi_p g 81 Rp) 82 Qp) (72 + i) = fi_s g (72 + i) := by rw [fi_sq (by omega), fi_sq (by omega)]
        have eQ2 : fi_s (fi_p (fi_p g 81 Rp) 82 Qp) (2 * v + 1) = fi_s g (2 * v + 1) := by rw [fi_sq (by omega), fi_sq (by omega)]
        refine yc_divide (2 * v + 1) (72 + i) 83 81 (by omega) (by omega) (by omega) (by omega) (by omega) (by omega) (by omega) (by rw [eF2]; exact hF') (fun Q2 R2 hQ2 hR2 eQ => ?_) (fi_21 v) (fi_72 i)
        rw [eF2, eQ2] at eQ
        have hR220 : pf_ln R2 20 := pf_ln_mono hR2 (by omega)
        refine br_f (by decide) ?_
        refine yc_deg 81 (by omega) (fun z2 => ?_) (fun e2 he2 hE2 => ?_)
        · rw [fi_sq (by omega), fi_sp hR220] at z2
          refine br_f (by decide) ?_
          unfold wY_reduce_100
          refine br_f (by decide) ?_
          refine yc_copy 82 (2 * v) (by omega) (by omega) ?_ rfl (fi_2 v)
          refine yc_copy 83 (2 * v + 1) (by omega) (by omega) ?_ rfl (fi_21 v)
          rw [z, pf_add_0] at eP
          rw [z2, pf_add_0] at eQ
          have hq := pf_hd_q hF' ⟨_, hQp⟩ (eP ▸ hP)
          have hDk := pf_hd_lt hP hk
          generalize eg : fi_p (fi_p (fi_p (fi_p g 81 Rp) 82 Qp) 81 R2) 83 Q2 = gg
          have e82 : fi_s gg 82 = Qp := by rw [← eg, fi_sq (by omega), fi_sq (by omega), fi_sp hQp]
          have e83 : fi_s (fi_p gg (2 * v) (fi_s gg 82)) 83 = Q2 := by rw [fi_sq (by omega), ← eg, fi_sp hQ2]
          obtain ⟨k', rfl⟩ : ∃ k', k = k' + 1 := ⟨k - 1, by omega⟩
          have u := ih k' (by omega) (fi_p (fi_p gg (2 * v) (fi_s gg 82)) (2 * v + 1) (fi_s (fi_p gg (2 * v) (fi_s gg 82)) 83)) (pf_mul (fi_s g (72 + i)) H) (d + e) ?_ ?_ (pf_mul_hd hF' hH) ?_
          · exact u
          · intro s h1 h2 h3 h4 h5
            rw [fi_sq h2, fi_sq h1, ← eg, fi_sq h5, fi_sq h3, fi_sq h4, fi_sq h3]; exact fr s h1 h2 h3 h4 h5
          · refine ys_lost_t ls ⟨?_, ?_⟩
            · rw [fi_sq (by omega), fi_sp (fi_s_ln _ _), e82]; exact eP
            · rw [fi_sp (fi_s_ln _ _), e83]; exact eQ
          · rw [fi_sq (by omega), fi_sp (fi_s_ln _ _), e82]
            exact pf_ln_mono hq.1.1 (by omega)
        · rw [fi_sq (by omega), fi_sp hR220] at hE2
          refine br_t (nI_pos' (by omega)) ?_
          unfold wY_reduce_99 wY_reduce_100
          refine br_t rfl ?_
          refine br_t rfl (nm_r (nI_1 i) (hJ _ H ?_ ?_ (Or.inr ⟨e, hH⟩) (Or.inr ?_)))
          · intro s h1 h2 h3 h4 h5
            rw [fi_sq h5, fi_sq h3, fi_sq h4, fi_sq h3]; exact fr s h1 h2 h3 h4 h5
          · refine ⟨?_, ?_⟩
            · rw [fi_sq (by omega), fi_sq (by omega), fi_sq (by omega), fi_sq (by omega)]; exact ls.1
            · rw [fi_sq (by omega), fi_sq (by omega), fi_sq (by omega), fi_sq (by omega)]; exact ls.2
          · rw [fi_sq (by omega), fi_sq (by omega), fi_sq (by omega), fi_sq (by omega), fi_sq (by omega), fi_sq (by omega), fi_sq (by omega), fi_sq (by omega), ← eF]
            intro dv
            have d2 := dv.2
            rw [eQ] at d2
            exact pf_hd_n0 hE2 (pf_dv_rem hF' ⟨_, hQ2⟩ hR2 d2)
    · rw [fi_sq (by omega), fi_sp hRp20] at hE
      refine br_t (nI_pos' (by omega)) (stop True trivial (Or.inr ?_))
      rw [← eF]
      intro dv
      have d1 := dv.1
      rw [eP] at d1
      exact pf_hd_n0 hE (pf_dv_rem hF' ⟨_, hQp⟩ hRp d1)
end
end
section
/-! The reference's reduce, settle, size, take, sum, times, flip -/
section
variable {f_count f_place f_opens f_top f_fault f_faultAt f_dry f_found : Int32} {a_c a_there a_kind a_num a_open a_openAt a_power a_table : Nat → Int32}
theorem yc_red7 {post : SY → Prop} {g0 : Nat → Fin 5} {A : PF} {v m : Nat} (hv : 2 * v + 1 < 70) (hm : m ≤ 8) (ok : ∀ i, i < m → ∃ d, pf_irr (fi_s g0 (72 + i)) d)
    (h : ∀ (g' : Nat → Fin 5) (H : PF) (e : Nat), ys_r2 v g0 g' → ys_lost v g0 g' H → pf_hd H e → (fi_s g0 (2 * v) = pf_c 0 ∨ ∀ i, i < m → ¬ (pf_dv (fi_s g0 (72 + i)) (fi_s g' (2 * v)) ∧ pf_dv (fi_s g0 (72 + i)) (fi_s g' (2 * v + 1)))) → post (f_count, f_place, f_opens, f_top, f_fault, f_faultAt, f_dry, nI m, fi_m g', a_there, a_kind, a_num, a_open, a_openAt, a_power, a_table)) :
    ∀ (k i : Nat) (g : Nat → Fin 5) (H : PF) (e : Nat), i + k = m → ys_r2 v g0 g → ys_lost v g0 g H → pf_hd H e → (fi_s g0 (2 * v) = pf_c 0 ∨ ∀ j, j < i → ¬ (pf_dv (fi_s g0 (72 + j)) (fi_s g (2 * v)) ∧ pf_dv (fi_s g0 (72 + j)) (fi_s g (2 * v + 1)))) →
      wY_reduce_7 post (nI v) (k + 1) (nI i) f_count f_place f_opens f_top f_fault f_faultAt f_dry (nI m) (fi_m g) a_there a_kind a_num a_open a_openAt a_power a_table := by
  intro k
  induction k with
  | zero =>
    intro i g H e hi fr ls hH hn
    obtain rfl : i = m := by omega
    exact br_t (nI_le (Nat.le_refl _) (by omega)) (h g H e fr ls hH hn)
  | succ k ih =>
    intro i g H e hi fr ls hH hn
    obtain ⟨d, hirr⟩ := ok i (by omega)
    have eF : fi_s g (72 + i) = fi_s g0 (72 + i) := fr _ (by omega) (by omega) (by omega) (by omega) (by omega)
    refine br_f (nI_ge (by omega) (by omega)) ⟨22, ?_⟩
    refine yc_red18 (g0 := g) (d := d) hv (by omega) (by rw [eF]; exact hirr.1) hirr.2.1 _ (fun g' K fr' ls' hK hno => ?_) 20 g (pf_c 1) 0 (fun _ _ _ _ _ _ => rfl) ⟨(pf_mul1 _).symm, (pf_mul1 _).symm⟩ (pf_hd_c (by decide)) (fi_s_ln _ _)
    obtain ⟨e2, hK2⟩ : ∃ e, pf_hd K e := by
      rcases hK with hK | hK
      · exact ⟨0, hK⟩
      · exact hK
    refine ih (i + 1) g' (pf_mul K H) (e2 + e) (by omega) ?_ (ys_lost_t ls ls') (pf_mul_hd hK2 hH) ?_
    · intro s h1 h2 h3 h4 h5
      rw [fr' s h1 h2 h3 h4 h5]; exact fr s h1 h2 h3 h4 h5
    · rcases hn with z | hn
      · exact Or.inl z
      · rcases hno with z | hno
        · left; rw [ls.1, z, pf_zero_mul]
        · right
          intro j hj
          by_cases c : j = i
          · subst c; rw [eF] at hno; exact hno
          · intro dv
            have d1 : pf_dv (fi_s g0 (72 + j)) (fi_s g (2 * v)) := by rw [ls'.1]; exact pf_dv_mr dv.1 (pf_hd_fin hK2)
            have d2 : pf_dv (fi_s g0 (72 + j)) (fi_s g (2 * v + 1)) := by rw [ls'.2]; exact pf_dv_mr dv.2 (pf_hd_fin hK2)
            exact hn j (by omega) ⟨d1, d2⟩
/-- every irreducible divisor of A divides a factor: kept abstract here as what reduce leaves -/
theorem yc_reduce {post : SY → Prop} {g : Nat → Fin 5} {xv xs : Int32} (v s : Nat) (hv : 2 * v + 1 < 70) (hs : s < 90) (hs2 : s < 70 ∨ 82 ≤ s) (hl : pf_ln (fi_s g s) 9)
    (h : ∀ (g1 g' : Nat → Fin 5) (m : Nat) (pw : Nat → Int32) (H : PF) (e : Nat), m ≤ 8 → ys_ok g1 (fi_s g s) m pw → ys_fr g g1 → ys_r2 v g1 g' → ys_lost v g g' H → pf_hd H e →
      (fi_s g (2 * v) = pf_c 0 ∨ ∀ i, i < m → ¬ (pf_dv (fi_s g1 (72 + i)) (fi_s g' (2 * v)) ∧ pf_dv (fi_s g1 (72 + i)) (fi_s g' (2 * v + 1)))) → post (f_count, f_place, f_opens, f_top, f_fault, f_faultAt, f_dry, nI m, fi_m g', a_there, a_kind, a_num, a_open, a_openAt, pw, a_table))
    (ev : xv = nI v := by rfl) (es : xs = nI s := by rfl) : wpY_reduce post (f_count, f_place, f_opens, f_top, f_fault, f_faultAt, f_dry, f_found, fi_m g, a_there, a_kind, a_num, a_open, a_openAt, a_power, a_table) xv xs := by
  subst ev es
  unfold wpY_reduce
  refine yc_split s hs hs2 hl (fun g1 m pw hm fr ok => ⟨m + 1, ?_⟩)
  have irr : ∀ i, i < m → ∃ d, pf_irr (fi_s g1 (72 + i)) d := by
    intro i hi
    rcases ok with ⟨_, z⟩ | ⟨N, r, D, n, _, S, _⟩
    · omega
    · exact ⟨D i, S.1.1 i hi⟩
  have e0 : fi_s g1 (2 * v) = fi_s g (2 * v) := fr _ (by omega)
  have e1 : fi_s g1 (2 * v + 1) = fi_s g (2 * v + 1) := fr _ (by omega)
  refine yc_red7 (g0 := g1) (A := fi_s g s) hv hm irr (fun g' H e fr' ls hH hno => h g1 g' m pw H e hm ok fr fr' ?_ hH ?_) m 0 g1 (pf_c 1) 0 (by omega) (fun _ _ _ _ _ _ => rfl) ⟨(pf_mul1 _).symm, (pf_mul1 _).symm⟩ (pf_hd_c (by decide)) (Or.inr (fun j hj => by omega))
  · exact ⟨by rw [← e0]; exact ls.1, by rw [← e1]; exact ls.2⟩
  · rw [← e0]; exact hno
/-- the size: the greater degree, at least 0 -/
theorem yc_size {post : Int32 → Prop} {g : Nat → Fin 5} {xv : Int32} (v : Nat) (hv : 2 * v + 1 < 90)
    (h : ∀ z : Nat, z < 20 → pf_ln (fi_s g (2 * v)) (z + 1) → pf_ln (fi_s g (2 * v + 1)) (z + 1) → (z = 0 ∨ pf_hd (fi_s g (2 * v)) z ∨ pf_hd (fi_s g (2 * v + 1)) z) → post (nI z)) (ev : xv = nI v := by rfl) : wpY_size post (f_count, f_place, f_opens, f_top, f_fault, f_faultAt, f_dry, f_found, fi_m g, a_there, a_kind, a_num, a_open, a_openAt, a_power, a_table) xv := by
  subst ev
  have cz : ∀ n, pf_ln (pf_c 0) n := fun n k _ => by rw [pf_c0]
  unfold wpY_size
  refine yc_deg (2 * v) (by omega) (fun z1 => ?_) (fun a ha hA => ?_) (fi_2 v)
  · refine yc_deg (2 * v + 1) (by omega) (fun z2 => ?_) (fun b hb hB => ?_) (fi_21 v)
    · exact br_t (by decide) (br_f (by decide) (h 0 (by omega) (by rw [z1]; exact cz _) (by rw [z2]; exact cz _) (Or.inl rfl)))
    · refine br_t ?_ (br_t (nI_pos' (by omega)) (h b hb (by rw [z1]; exact cz _) hB.1 (Or.inr (Or.inr hB))))
      have := fi_nm1 (n := b) (by omega)
      exact Int32.le_of_lt this
  · refine yc_deg (2 * v + 1) (by omega) (fun z2 => ?_) (fun b hb hB => ?_) (fi_21 v)
    · refine br_f ?_ (h a ha hA.1 (by rw [z2]; exact cz _) (Or.inr (Or.inl hA)))
      have := fi_nm1 (n := a) (by omega)
      rw [Int32.not_le]; exact this
    · by_cases c : a ≤ b
      · exact br_t (nI_le c (by omega)) (br_t (nI_pos' (by omega)) (h b hb (pf_ln_mono hA.1 (by omega)) hB.1 (Or.inr (Or.inr hB))))
      · exact br_f (nI_ge (by omega) (by omega)) (h a ha hA.1 (pf_ln_mono hB.1 (by omega)) (Or.inr (Or.inl hA)))
/-- settle: q is made monic, or 0 / 1 -/
theorem yc_settle {post : SY → Prop} {g : Nat → Fin 5} {xv : Int32} (v : Nat) (hv : 2 * v + 1 < 70)
    (h0 : fi_s g (2 * v) = pf_c 0 → post (f_count, f_place, f_opens, f_top, f_fault, f_faultAt, f_dry, f_found, fi_m (fi_p g (2 * v + 1) (pf_c 1)), a_there, a_kind, a_num, a_open, a_openAt, a_power, a_table))
    (h1 : ∀ c : Fin 5, fi_s g (2 * v) ≠ pf_c 0 → (∀ d, pf_hd (fi_s g (2 * v + 1)) d → c = fi_s g (2 * v + 1) d * fi_s g (2 * v + 1) d * fi_s g (2 * v + 1) d) → post (f_count, f_place, f_opens, f_top, f_fault, f_faultAt, f_dry, f_found, fi_m (fi_p (fi_p g (2 * v) (pf_mul (pf_c c) (fi_s g (2 * v)))) (2 * v + 1) (pf_mul (pf_c c) (fi_s g (2 * v + 1)))), a_there, a_kind, a_num, a_open, a_openAt, a_power, a_table))
    (ev : xv = nI v := by rfl) : wpY_settle post (f_count, f_place, f_opens, f_top, f_fault, f_faultAt, f_dry, f_found, fi_m g, a_there, a_kind, a_num, a_open, a_openAt, a_power, a_table) xv := by
  subst ev
  have fin : ∀ (y : Fin 5), fi_s g (2 * v) ≠ pf_c 0 → (∀ d, pf_hd (fi_s g (2 * v + 1)) d → y = fi_s g (2 * v + 1) d * fi_s g (2 * v + 1) d * fi_s g (2 * v + 1) d) →
      post (f_count, f_place, f_opens, f_top, f_fault, f_faultAt, f_dry, f_found, fi_m (fi_p (fi_p g (2 * v) (fun k => fi_s g (2 * v) k * y)) (2 * v + 1) (fun k => fi_s (fi_p g (2 * v) (fun k => fi_s g (2 * v) k * y)) (2 * v + 1) k * y)), a_there, a_kind, a_num, a_open, a_openAt, a_power, a_table) := by
    intro y nz hy
    rw [fi_sq (by omega), pf_sc, pf_sc]
    exact h1 y nz hy
  unfold wpY_settle
  refine yc_deg (2 * v) (by omega) (fun z => ?_) (fun a ha hA => ?_) (fi_2 v)
  · refine br_f (by decide) (yc_become (2 * v + 1) (by omega) ?_ (fi_21 v))
    have e1 : fi_z 1 = 1 := by decide
    rw [e1]; exact h0 z
  · refine br_t (nI_pos' (by omega)) ?_
    refine yc_deg (2 * v + 1) (by omega) (fun z => ?_) (fun b hb hB => ?_) (fi_21 v)
    · have ex : (20 : Int32) * ((2 : Int32) * nI v + 1) + (-1) = nI (40 * v + 19) := by
        rw [fi_21, fi_ix0]
        have e2 : 20 * (2 * v + 1) = (40 * v + 19) + 1 := by omega
        rw [e2, pk_m1]
      refine ⟨pk_in (40 * v + 19) 1800 (by omega) ex, yc_inv' (y := g (40 * v + 19)) (by rw [ex, nI_clamp (by omega)]; rfl) ?_⟩
      refine yc_scale (2 * v) _ (by omega) ?_ (fi_2 v)
      refine yc_scale (2 * v + 1) _ (by omega) ?_ (fi_21 v)
      exact fin _ (pf_hd_n0 hA) (fun d hd => absurd z (pf_hd_n0 hd))
    · have ex : (20 : Int32) * ((2 : Int32) * nI v + 1) + nI b = nI (20 * (2 * v + 1) + b) := by rw [fi_21, fi_ix]
      refine ⟨pk_in (20 * (2 * v + 1) + b) 1800 (by omega) ex, yc_inv' (y := fi_s g (2 * v + 1) b) (by rw [ex, nI_clamp (by omega), fi_s_at hb]; rfl) ?_⟩
      refine yc_scale (2 * v) _ (by omega) ?_ (fi_2 v)
      refine yc_scale (2 * v + 1) _ (by omega) ?_ (fi_21 v)
      refine fin _ (pf_hd_n0 hA) (fun d hd => ?_)
      obtain rfl := pf_hd_u hd hB
      rfl
end
end
section
/-! The reference's take, sum, times, flip, large, isZero, derive, slope -/
def ys_nc (A P Q : PF) : Prop := A = pf_c 0 ∨ ∀ (f : PF) (d : Nat), pf_irr f d → pf_dv f A → ¬ (pf_dv f P ∧ pf_dv f Q)
def ys_tk (P0 Q0 G H P1 Q1 : PF) : Prop :=
  (P0 = pf_c 0 → P1 = pf_c 0 ∧ Q1 = pf_c 1) ∧
  (P0 ≠ pf_c 0 → Q0 ≠ pf_c 0 → ∃ (K : PF) (e b : Nat), pf_hd K e ∧ P0 = pf_mul P1 K ∧ Q0 = pf_mul Q1 K ∧ pf_hd Q1 b ∧ Q1 b = 1 ∧ ys_nc G P1 Q1 ∧ ys_nc H P1 Q1)
def ys_tf (v : Nat) (g g' : Nat → Fin 5) : Prop := ∀ s, s ≠ 2 * v → s ≠ 2 * v + 1 → s < 70 ∨ 84 ≤ s → fi_s g' s = fi_s g s
theorem ys_nc_ok {g1 : Nat → Fin 5} {A P Q : PF} {m : Nat} {pw : Nat → Int32} (ok : ys_ok g1 A m pw) (h : ∀ i, i < m → ¬ (pf_dv (fi_s g1 (72 + i)) P ∧ pf_dv (fi_s g1 (72 + i)) Q)) : ys_nc A P Q := by
  rcases ok with ⟨z, _⟩ | ⟨N, r, D, n, hA, S, hr⟩
  · exact Or.inl z
  · right
    intro f d hf dA dd
    obtain ⟨⟨s1, s2, s3, s4, s5, s6, G, hG, ea, cG⟩, _⟩ := S
    have ff := pf_hd_fin hf.1
    have ex : ¬ ∀ i, i < m → pf_cp f (fi_s g1 (72 + i)) := by
      intro all
      have c1 := cG f ff all
      obtain ⟨c, hc, ec⟩ := pf_hd0 hr
      have d1 : pf_dv f (pf_mul G r) := by rw [pf_mul_comm, ← ea]; exact dA
      have d2 := pf_cp_dv c1 (pf_hd_fin hr) d1
      exact pf_nd_lt hf.1 hr hf.2.1 d2
    have ex2 : ∃ i, i < m ∧ ¬ pf_cp f (fi_s g1 (72 + i)) := by
      apply Classical.byContradiction
      intro no
      apply ex
      intro i hi
      exact Classical.byContradiction fun c => no ⟨i, hi, c⟩
    obtain ⟨i, hi, nc⟩ := ex2
    have dv : pf_dv (fi_s g1 (72 + i)) f := by
      apply Classical.byContradiction
      intro nd
      exact nc (pf_cp_s (pf_irr_cp (s1 i hi) ff nd))
    exact h i hi ⟨pf_dv_t dv dd.1, pf_dv_t dv dd.2⟩
theorem ys_nc_dv {A P Q P' Q' : PF} (h : ys_nc A P Q) (h1 : pf_dv P' P) (h2 : pf_dv Q' Q) : ys_nc A P' Q' := by
  rcases h with z | h
  · exact Or.inl z
  · exact Or.inr (fun f d hf dA dd => h f d hf dA ⟨pf_dv_t dd.1 h1, pf_dv_t dd.2 h2⟩)
theorem pf_0or (f : PF) : f = pf_c 0 ∨ f ≠ pf_c 0 := Classical.em _
theorem pf_mul_e0 {a K : PF} {e : Nat} (fa : pf_fin a) (hK : pf_hd K e) (h : pf_mul a K = pf_c 0) : a = pf_c 0 :=
  pf_cancel hK fa (pf_fin_c 0) (by rw [h, pf_zero_mul])
theorem pf_dv_c {c : Fin 5} (hc : c ≠ 0) (f : PF) : pf_dv (pf_mul (pf_c c) f) f := ⟨pf_c (c * c * c), pf_fin_c _, (pf_c_inv' hc f).symm⟩
theorem pf_mul_n0 {a b : PF} (h : pf_mul a b ≠ pf_c 0) : a ≠ pf_c 0 := by
  intro z; apply h; rw [z, pf_zero_mul]
section
variable {f_count f_place f_opens f_top f_fault f_faultAt f_dry f_found : Int32} {a_c a_there a_kind a_num a_open a_openAt a_power a_table : Nat → Int32}
theorem yc_take {post : SY → Prop} {g : Nat → Fin 5} {xv xs xt : Int32} (v s t : Nat) (hv : 2 * v + 1 < 52) (hs : s < 90) (ht : t < 90) (hs2 : s < 70 ∨ 84 ≤ s) (ht2 : t < 70 ∨ 84 ≤ t)
    (sv : s ≠ 2 * v) (sv1 : s ≠ 2 * v + 1) (tv : t ≠ 2 * v) (tv1 : t ≠ 2 * v + 1) (ls : pf_ln (fi_s g s) 9) (lt : pf_ln (fi_s g t) 9)
    (h : ∀ (g' : Nat → Fin 5) (m : Nat) (pw : Nat → Int32), ys_tf v g g' → ys_tk (fi_s g 84) (fi_s g 86) (fi_s g s) (fi_s g t) (fi_s g' (2 * v)) (fi_s g' (2 * v + 1)) → post (f_count, f_place, f_opens, f_top, f_fault, f_faultAt, f_dry, nI m, fi_m g', a_there, a_kind, a_num, a_open, a_openAt, pw, a_table))
    (ev : xv = nI v := by rfl) (es : xs = nI s := by rfl) (et : xt = nI t := by rfl) : wpY_take post (f_count, f_place, f_opens, f_top, f_fault, f_faultAt, f_dry, f_found, fi_m g, a_there, a_kind, a_num, a_open, a_openAt, a_power, a_table) xv xs xt := by
  subst ev es et
  unfold wpY_take
  refine yc_copy 84 (2 * v) (by omega) (by omega) ?_ rfl (fi_2 v)
  refine yc_copy 86 (2 * v + 1) (by omega) (by omega) ?_ rfl (fi_21 v)
  rw [fi_sq (by omega)]
  generalize eg : fi_p (fi_p g (2 * v) (fi_s g 84)) (2 * v + 1) (fi_s g 86) = ga
  have a0 : fi_s ga (2 * v) = fi_s g 84 := by rw [← eg, fi_sq (by omega), fi_sp (fi_s_ln _ _)]
  have a1 : fi_s ga (2 * v + 1) = fi_s g 86 := by rw [← eg, fi_sp (fi_s_ln _ _)]
  have ao : ∀ q, q ≠ 2 * v → q ≠ 2 * v + 1 → fi_s ga q = fi_s g q := fun q h1 h2 => by rw [← eg, fi_sq h2, fi_sq h1]
  refine yc_reduce v s (by omega) hs (by omega) (by rw [ao s sv sv1]; exact ls) (fun g1 gb m pw H e hm ok fr1 r1 l1 hH n1 => ?_)
  have bo : ∀ q, q ≠ 2 * v → q ≠ 2 * v + 1 → q < 70 ∨ 84 ≤ q → fi_s gb q = fi_s g q := fun q h1 h2 h3 => by
    rw [r1 q h1 h2 (by omega) (by omega) (by omega), fr1 q (by omega), ao q h1 h2]
  refine yc_reduce v t (by omega) ht (by omega) (by rw [bo t tv tv1 ht2]; exact lt) (fun g2 gc m2 pw2 H2 e2 hm2 ok2 fr2 r2 l2 hH2 n2 => ?_)
  have co : ∀ q, q ≠ 2 * v → q ≠ 2 * v + 1 → q < 70 ∨ 84 ≤ q → fi_s gc q = fi_s g q := fun q h1 h2 h3 => by
    rw [r2 q h1 h2 (by omega) (by omega) (by omega), fr2 q (by omega), bo q h1 h2 h3]
  have l3 := ys_lost_t l1 l2
  have hK := pf_mul_hd hH2 hH
  rw [ao s sv sv1] at ok
  rw [bo t tv tv1 ht2] at ok2
  unfold ys_lost at l3
  rw [a0, a1] at l3
  refine yc_settle v (by omega) (fun z => ?_) (fun c nzP hc => ?_)
  · refine h _ m2 pw2 (fun q h1 h2 h3 => ?_) ⟨fun _ => ⟨?_, ?_⟩, fun nz => ?_⟩
    · rw [fi_sq h2]; exact co q h1 h2 h3
    · rw [fi_sq (by omega)]; exact z
    · exact fi_sp (pf_ln_mono (pf_c_ln 1) (by omega))
    · exfalso; apply nz; rw [l3.1, z, pf_zero_mul]
  · have lc0 : pf_ln (pf_mul (pf_c c) (fi_s gc (2 * v))) 20 := pf_c_ml _ (fi_s_ln _ _)
    have lc1 : pf_ln (pf_mul (pf_c c) (fi_s gc (2 * v + 1))) 20 := pf_c_ml _ (fi_s_ln _ _)
    refine h _ m2 pw2 (fun q h1 h2 h3 => ?_) ?_
    · rw [fi_sq h2, fi_sq h1]; exact co q h1 h2 h3
    · rw [fi_sq (by omega), fi_sp lc0, fi_sp lc1]
      refine ⟨fun z => absurd ?_ nzP, fun nP nQ => ?_⟩
      · rw [l3.1] at z
        exact pf_mul_e0 ⟨_, fi_s_ln _ _⟩ hK z
      · have nQ' : fi_s gc (2 * v + 1) ≠ pf_c 0 := by rw [l3.2] at nQ; exact pf_mul_n0 nQ
        rcases pf_fin_hd ⟨_, fi_s_ln gc (2 * v + 1)⟩ with z | ⟨b, hb⟩
        · exact absurd z nQ'
        · have ec := hc b hb
          have cz : c ≠ 0 := by rw [ec]; exact pf_nz _ _ (pf_nz _ _ hb.2 hb.2) hb.2
          have ecy : c * fi_s gc (2 * v + 1) b = 1 := by rw [ec]; exact pf_inv _ hb.2
          refine ⟨pf_mul (pf_c (fi_s gc (2 * v + 1) b)) (pf_mul H2 H), 0 + (e2 + e), b, pf_mul_hd (pf_hd_c hb.2) hK, ?_, ?_, pf_c_hd cz hb, ?_, ?_, ?_⟩
          · rw [l3.1]
            have e1 : pf_mul (pf_c c) (pf_c (fi_s gc (2 * v + 1) b)) = pf_c 1 := by rw [pf_c_mul, ecy]
            generalize pf_c (fi_s gc (2 * v + 1) b) = y at e1
            generalize pf_c c = x at e1
            generalize fi_s gc (2 * v) = P
            generalize pf_mul H2 H = K
            letI := pf_ring
            have e2 : x * y = 1 := e1
            show P * K = (x * P) * (y * K)
            grind
          · rw [l3.2]
            have e1 : pf_mul (pf_c c) (pf_c (fi_s gc (2 * v + 1) b)) = pf_c 1 := by rw [pf_c_mul, ecy]
            generalize pf_c (fi_s gc (2 * v + 1) b) = y at e1
            generalize pf_c c = x at e1
            generalize fi_s gc (2 * v + 1) = P
            generalize pf_mul H2 H = K
            letI := pf_ring
            have e2 : x * y = 1 := e1
            show P * K = (x * P) * (y * K)
            grind
          · rw [pf_mul_cl]; exact ecy
          · have q1 : ys_nc (fi_s g s) (fi_s gb (2 * v)) (fi_s gb (2 * v + 1)) := by
              rcases n1 with z | n1
              · rw [a0] at z; exact absurd z nP
              · exact ys_nc_ok ok n1
            refine ys_nc_dv q1 (pf_dv_t (pf_dv_c cz _) ⟨H2, pf_hd_fin hH2, ?_⟩) (pf_dv_t (pf_dv_c cz _) ⟨H2, pf_hd_fin hH2, ?_⟩)
            · rw [l2.1, pf_mul_comm]
            · rw [l2.2, pf_mul_comm]
          · have q2 : ys_nc (fi_s g t) (fi_s gc (2 * v)) (fi_s gc (2 * v + 1)) := by
              rcases n2 with z | n2
              · exfalso; apply nP; rw [← a0, l1.1, z, pf_zero_mul]
              · exact ys_nc_ok ok2 n2
            exact ys_nc_dv q2 (pf_dv_c cz _) (pf_dv_c cz _)
/-- a sum or difference: by is 1 or -1, as y -/
theorem yc_sum {post : SY → Prop} {g : Nat → Fin 5} {xv xw x : Int32} (v w : Nat) (y : Fin 5) (hv : 2 * v + 1 < 52) (hw : 2 * w + 1 < 70) (vw : v ≠ w) (hy : ∀ a b : Fin 5, fi_z (fi_I a + x * fi_I b) = a + y * b)
    (lv : pf_ln (fi_s g (2 * v)) 9) (lv1 : pf_ln (fi_s g (2 * v + 1)) 9) (lw : pf_ln (fi_s g (2 * w)) 9) (lw1 : pf_ln (fi_s g (2 * w + 1)) 9)
    (h : ∀ (g' : Nat → Fin 5) (m : Nat) (pw : Nat → Int32), (∀ s, s ≠ 2 * v → s ≠ 2 * v + 1 → s < 70 → fi_s g' s = fi_s g s) →
      ys_tk (pf_add (pf_mul (fi_s g (2 * v)) (fi_s g (2 * w + 1))) (pf_mul (pf_c y) (pf_mul (fi_s g (2 * w)) (fi_s g (2 * v + 1))))) (pf_mul (fi_s g (2 * v + 1)) (fi_s g (2 * w + 1))) (fi_s g (2 * v + 1)) (fi_s g (2 * w + 1)) (fi_s g' (2 * v)) (fi_s g' (2 * v + 1)) → post (f_count, f_place, f_opens, f_top, f_fault, f_faultAt, f_dry, nI m, fi_m g', a_there, a_kind, a_num, a_open, a_openAt, pw, a_table))
    (ev : xv = nI v := by rfl) (ew : xw = nI w := by rfl) : wpY_sum post (f_count, f_place, f_opens, f_top, f_fault, f_faultAt, f_dry, f_found, fi_m g, a_there, a_kind, a_num, a_open, a_openAt, a_power, a_table) xv xw x := by
  subst ev ew
  have l17 : ∀ {a b : PF}, pf_ln a 9 → pf_ln b 9 → pf_ln (pf_mul a b) 20 := fun ha hb => pf_ln_mono (pf_mul_ln (a := 8) (b := 8) ha hb) (by omega)
  unfold wpY_sum
  refine yc_product (2 * v) (2 * w + 1) 84 (by omega) (by omega) (by omega) (by omega) (by omega) ?_ (fi_2 v) (fi_21 w)
  refine yc_product (2 * w) (2 * v + 1) 85 (by omega) (by omega) (by omega) (by omega) (by omega) ?_ (fi_2 w) (fi_21 v)
  rw [fi_sq (by omega), fi_sq (by omega)]
  refine yc_add 84 85 y (by omega) (by omega) (by omega) hy ?_
  rw [fi_sq (by omega), fi_sp (l17 lv lw1), fi_sp (l17 lw lv1)]
  refine yc_product (2 * v + 1) (2 * w + 1) 86 (by omega) (by omega) (by omega) (by omega) (by omega) ?_ (fi_21 v) (fi_21 w)
  refine yc_copy (2 * v + 1) 87 (by omega) (by omega) ?_ (fi_21 v)
  have ea : (fun k => pf_mul (fi_s g (2 * v)) (fi_s g (2 * w + 1)) k + y * pf_mul (fi_s g (2 * w)) (fi_s g (2 * v + 1)) k) = pf_add (pf_mul (fi_s g (2 * v)) (fi_s g (2 * w + 1))) (pf_mul (pf_c y) (pf_mul (fi_s g (2 * w)) (fi_s g (2 * v + 1)))) := by
    rw [pf_mul_cl]; rfl
  have la : pf_ln (pf_add (pf_mul (fi_s g (2 * v)) (fi_s g (2 * w + 1))) (pf_mul (pf_c y) (pf_mul (fi_s g (2 * w)) (fi_s g (2 * v + 1))))) 20 := pf_add_ln (l17 lv lw1) (pf_c_ml _ (l17 lw lv1))
  generalize eg : fi_p _ 87 _ = gg
  have o : ∀ s, s < 70 → fi_s gg s = fi_s g s := fun s hs => by
    rw [← eg, fi_sq (by omega), fi_sq (by omega), fi_sq (by omega), fi_sq (by omega), fi_sq (by omega)]
  have o87 : fi_s gg 87 = fi_s g (2 * v + 1) := by
    rw [← eg, fi_sp (fi_s_ln _ _), fi_sq (by omega), fi_sq (by omega), fi_sq (by omega), fi_sq (by omega)]
  have o86 : fi_s gg 86 = pf_mul (fi_s g (2 * v + 1)) (fi_s g (2 * w + 1)) := by
    rw [← eg, fi_sq (by omega)]
    rw [fi_sq (s := 84) (t := 2 * v + 1) (by omega), fi_sq (s := 85) (t := 2 * v + 1) (by omega), fi_sq (s := 84) (t := 2 * v + 1) (by omega), fi_sq (s := 84) (t := 2 * w + 1) (by omega), fi_sq (s := 85) (t := 2 * w + 1) (by omega), fi_sq (s := 84) (t := 2 * w + 1) (by omega)]
    exact fi_sp (l17 lv1 lw1)
  have o84 : fi_s gg 84 = pf_add (pf_mul (fi_s g (2 * v)) (fi_s g (2 * w + 1))) (pf_mul (pf_c y) (pf_mul (fi_s g (2 * w)) (fi_s g (2 * v + 1)))) := by
    rw [← eg, fi_sq (by omega), fi_sq (by omega), ea, fi_sp la]
  refine yc_take v 87 (2 * w + 1) hv (by omega) (by omega) (by omega) (by omega) (by omega) (by omega) (by omega) (by omega) (by rw [o87]; exact lv1) (by rw [o _ (by omega)]; exact lw1) (fun g' m pw fr tk => ?_) rfl rfl (fi_21 w)
  refine h g' m pw (fun s h1 h2 h3 => ?_) ?_
  · rw [fr s h1 h2 (by omega)]; exact o s h3
  · rw [o84, o86, o87, o _ (by omega)] at tk; exact tk
theorem yc_times {post : SY → Prop} {g : Nat → Fin 5} {xv xw : Int32} (v w : Nat) (hv : 2 * v + 1 < 52) (hw : 2 * w + 1 < 70) (vw : v ≠ w)
    (lv : pf_ln (fi_s g (2 * v)) 9) (lv1 : pf_ln (fi_s g (2 * v + 1)) 9) (lw : pf_ln (fi_s g (2 * w)) 9) (lw1 : pf_ln (fi_s g (2 * w + 1)) 9)
    (h : ∀ (g' : Nat → Fin 5) (m : Nat) (pw : Nat → Int32), (∀ s, s ≠ 2 * v → s ≠ 2 * v + 1 → s < 70 → fi_s g' s = fi_s g s) →
      ys_tk (pf_mul (fi_s g (2 * v)) (fi_s g (2 * w))) (pf_mul (fi_s g (2 * v + 1)) (fi_s g (2 * w + 1))) (fi_s g (2 * v + 1)) (fi_s g (2 * w + 1)) (fi_s g' (2 * v)) (fi_s g' (2 * v + 1)) → post (f_count, f_place, f_opens, f_top, f_fault, f_faultAt, f_dry, nI m, fi_m g', a_there, a_kind, a_num, a_open, a_openAt, pw, a_table))
    (ev : xv = nI v := by rfl) (ew : xw = nI w := by rfl) : wpY_times post (f_count, f_place, f_opens, f_top, f_fault, f_faultAt, f_dry, f_found, fi_m g, a_there, a_kind, a_num, a_open, a_openAt, a_power, a_table) xv xw := by
  subst ev ew
  have l17 : ∀ {a b : PF}, pf_ln a 9 → pf_ln b 9 → pf_ln (pf_mul a b) 20 := fun ha hb => pf_ln_mono (pf_mul_ln (a := 8) (b := 8) ha hb) (by omega)
  unfold wpY_times
  refine yc_product (2 * v) (2 * w) 84 (by omega) (by omega) (by omega) (by omega) (by omega) ?_ (fi_2 v) (fi_2 w)
  refine yc_product (2 * v + 1) (2 * w + 1) 86 (by omega) (by omega) (by omega) (by omega) (by omega) ?_ (fi_21 v) (fi_21 w)
  refine yc_copy (2 * v + 1) 87 (by omega) (by omega) ?_ (fi_21 v)
  generalize eg : fi_p _ 87 _ = gg
  have o : ∀ s, s < 70 → fi_s gg s = fi_s g s := fun s hs => by
    rw [← eg, fi_sq (by omega), fi_sq (by omega), fi_sq (by omega)]
  have o87 : fi_s gg 87 = fi_s g (2 * v + 1) := by
    rw [← eg, fi_sp (fi_s_ln _ _), fi_sq (by omega), fi_sq (by omega)]
  have o86 : fi_s gg 86 = pf_mul (fi_s g (2 * v + 1)) (fi_s g (2 * w + 1)) := by
    rw [← eg, fi_sq (by omega), fi_sq (s := 84) (t := 2 * v + 1) (by omega), fi_sq (s := 84) (t := 2 * w + 1) (by omega)]
    exact fi_sp (l17 lv1 lw1)
  have o84 : fi_s gg 84 = pf_mul (fi_s g (2 * v)) (fi_s g (2 * w)) := by
    rw [← eg, fi_sq (by omega), fi_sq (by omega), fi_sp (l17 lv lw)]
  refine yc_take v 87 (2 * w + 1) hv (by omega) (by omega) (by omega) (by omega) (by omega) (by omega) (by omega) (by omega) (by rw [o87]; exact lv1) (by rw [o _ (by omega)]; exact lw1) (fun g' m pw fr tk => ?_) rfl rfl (fi_21 w)
  refine h g' m pw (fun s h1 h2 h3 => ?_) ?_
  · rw [fr s h1 h2 (by omega)]; exact o s h3
  · rw [o84, o86, o87, o _ (by omega)] at tk; exact tk
end
end
section
/-! The reference's flip, large, isZero, derive, put -/
theorem pf_pow_ln {P : PF} {z : Nat} (h : pf_ln P (z + 1)) (n : Nat) : pf_ln (pf_pow P n) (n * z + 1) := by
  induction n with
  | zero => rw [Nat.zero_mul]; exact pf_c_ln 1
  | succ n ih => rw [Nat.succ_mul]; exact pf_mul_ln ih h
def pf_dr (f : PF) : PF := fun k => Fin.ofNat 5 (k + 1) * f (k + 1)
def pf_T (S P Q : PF) (k j : Nat) : PF := pf_mul (pf_c (S k)) (pf_mul (pf_pow P (if j ≤ k then j else k)) (pf_pow Q (j - k)))
theorem pf_T_ln {S P Q : PF} {z : Nat} (hP : pf_ln P (z + 1)) (hQ : pf_ln Q (z + 1)) (k j : Nat) : pf_ln (pf_T S P Q k j) (j * z + 1) := by
  apply pf_c_ml
  have h := pf_mul_ln (pf_pow_ln hP (if j ≤ k then j else k)) (pf_pow_ln hQ (j - k))
  rw [← Nat.add_mul] at h
  have e : (if j ≤ k then j else k) + (j - k) = j := by
    by_cases c : j ≤ k
    · rw [if_pos c]; omega
    · rw [if_neg c]; omega
  rw [e] at h
  exact h
theorem pf_T_s1 {S P Q : PF} {k j : Nat} (h : j < k) : pf_T S P Q k (j + 1) = pf_mul (pf_T S P Q k j) P := by
  unfold pf_T
  have e1 : j + 1 - k = 0 := by omega
  have e2 : j - k = 0 := by omega
  rw [if_pos (by omega), if_pos (by omega), e1, e2]
  show pf_mul _ (pf_mul (pf_mul (pf_pow P j) P) _) = _
  generalize pf_pow P j = p
  generalize pf_pow Q 0 = q
  generalize pf_c (S k) = c
  letI := pf_ring
  show c * ((p * P) * q) = c * (p * q) * P
  grind
theorem pf_T_s2 {S P Q : PF} {k j : Nat} (h : ¬ j < k) : pf_T S P Q k (j + 1) = pf_mul (pf_T S P Q k j) Q := by
  unfold pf_T
  have e1 : j + 1 - k = (j - k) + 1 := by omega
  have e3 : (if j ≤ k then j else k) = k := by
    by_cases c : j ≤ k
    · rw [if_pos c]; omega
    · rw [if_neg c]
  rw [if_neg (by omega), e1, e3]
  show pf_mul _ (pf_mul _ (pf_mul (pf_pow Q (j - k)) Q)) = _
  generalize pf_pow P k = p
  generalize pf_pow Q (j - k) = q
  generalize pf_c (S k) = c
  letI := pf_ring
  show c * (p * (q * Q)) = c * (p * q) * Q
  grind
theorem pf_sP_ln {h : Nat → PF} {n N : Nat} (hh : ∀ i, i < n → pf_ln (h i) N) : pf_ln (pf_sP h n) N := by
  induction n with
  | zero => intro k _; show pf_c 0 k = 0; rw [pf_c0]
  | succ n ih => exact pf_add_ln (ih (fun i hi => hh i (by omega))) (hh n (by omega))
section
variable {f_count f_place f_opens f_top f_fault f_faultAt f_dry f_found : Int32} {a_c a_there a_kind a_num a_open a_openAt a_power a_table : Nat → Int32}
theorem yc_flip {post : SY → Prop} {g : Nat → Fin 5} {xv : Int32} (v : Nat) (hv : 2 * v + 1 < 52)
    (h : ∀ g' : Nat → Fin 5, (∀ s, s ≠ 2 * v → s ≠ 2 * v + 1 → s < 70 → fi_s g' s = fi_s g s) →
      ((fi_s g (2 * v + 1) = pf_c 0 ∧ fi_s g' (2 * v) = pf_c 0 ∧ fi_s g' (2 * v + 1) = pf_c 1) ∨
       (fi_s g (2 * v + 1) ≠ pf_c 0 ∧ ∃ c : Fin 5, (∀ d, pf_hd (fi_s g (2 * v)) d → c = fi_s g (2 * v) d * fi_s g (2 * v) d * fi_s g (2 * v) d) ∧ fi_s g' (2 * v) = pf_mul (pf_c c) (fi_s g (2 * v + 1)) ∧ fi_s g' (2 * v + 1) = pf_mul (pf_c c) (fi_s g (2 * v)))) → post (f_count, f_place, f_opens, f_top, f_fault, f_faultAt, f_dry, f_found, fi_m g', a_there, a_kind, a_num, a_open, a_openAt, a_power, a_table))
    (ev : xv = nI v := by rfl) : wpY_flip post (f_count, f_place, f_opens, f_top, f_fault, f_faultAt, f_dry, f_found, fi_m g, a_there, a_kind, a_num, a_open, a_openAt, a_power, a_table) xv := by
  subst ev
  unfold wpY_flip
  refine yc_copy (2 * v) 88 (by omega) (by omega) ?_ (fi_2 v)
  refine yc_copy (2 * v + 1) (2 * v) (by omega) (by omega) ?_ (fi_21 v) (fi_2 v)
  refine yc_copy 88 (2 * v + 1) (by omega) (by omega) ?_ rfl (fi_21 v)
  generalize eg : fi_p _ (2 * v + 1) _ = gg
  have o : ∀ s, s ≠ 2 * v → s ≠ 2 * v + 1 → s < 70 → fi_s gg s = fi_s g s := fun s h1 h2 h3 => by
    rw [← eg, fi_sq h2, fi_sq h1, fi_sq (by omega)]
  have o0 : fi_s gg (2 * v) = fi_s g (2 * v + 1) := by
    rw [← eg, fi_sq (by omega), fi_sp (fi_s_ln _ _), fi_sq (by omega)]
  have o1 : fi_s gg (2 * v + 1) = fi_s g (2 * v) := by
    rw [← eg, fi_sp (fi_s_ln _ _), fi_sq (by omega), fi_sp (fi_s_ln _ _)]
  refine yc_settle v (by omega) (fun z => ?_) (fun c nz hc => ?_)
  · refine h _ (fun s h1 h2 h3 => ?_) (Or.inl ⟨?_, ?_, ?_⟩)
    · rw [fi_sq h2]; exact o s h1 h2 h3
    · rw [← o0]; exact z
    · rw [fi_sq (by omega)]; exact z
    · exact fi_sp (pf_ln_mono (pf_c_ln 1) (by omega))
  · refine h _ (fun s h1 h2 h3 => ?_) (Or.inr ⟨?_, c, ?_, ?_, ?_⟩)
    · rw [fi_sq h2, fi_sq h1]; exact o s h1 h2 h3
    · rw [← o0]; exact nz
    · rw [o1] at hc; exact hc
    · rw [fi_sq (by omega), fi_sp (pf_c_ml _ (fi_s_ln _ _)), o0]
    · rw [fi_sp (pf_c_ml _ (fi_s_ln _ _)), o1]
theorem yc_large {post : SY → Prop} {g : Nat → Fin 5} {xv xat : Int32} (v : Nat) (hv : 2 * v + 1 < 90)
    (h1 : pf_ln (fi_s g (2 * v)) 9 → pf_ln (fi_s g (2 * v + 1)) 9 → post (f_count, f_place, f_opens, f_top, 0, f_faultAt, f_dry, f_found, fi_m g, a_there, a_kind, a_num, a_open, a_openAt, a_power, a_table))
    (h2 : ¬ (pf_ln (fi_s g (2 * v)) 9 ∧ pf_ln (fi_s g (2 * v + 1)) 9) → post (f_count, f_place, f_opens, f_top, 4, xat, f_dry, f_found, fi_m g, a_there, a_kind, a_num, a_open, a_openAt, a_power, a_table)) (ev : xv = nI v := by rfl) : wpY_large post (f_count, f_place, f_opens, f_top, 0, f_faultAt, f_dry, f_found, fi_m g, a_there, a_kind, a_num, a_open, a_openAt, a_power, a_table) xv xat := by
  subst ev
  unfold wpY_large
  refine yc_size v hv (fun z hz la lb hx => ?_)
  by_cases c : z ≤ 8
  · exact br_t (nI_le (b := 8) c (by decide)) (h1 (pf_ln_mono la (by omega)) (pf_ln_mono lb (by omega)))
  · refine br_f (nI_ge (a := 8) (by omega) (by omega)) (br_t rfl (h2 (fun l => ?_)))
    rcases hx with h | h | h
    · omega
    · have := pf_hd_lt h l.1; omega
    · have := pf_hd_lt h l.2; omega
theorem yc_isZero {post : Int32 → Prop} {g : Nat → Fin 5} {xv : Int32} (v : Nat) (hv : 2 * v + 1 < 90) (h0 : fi_s g (2 * v) ≠ pf_c 0 → post 0) (h1 : fi_s g (2 * v) = pf_c 0 → post 1) (ev : xv = nI v := by rfl) : wpY_isZero post (f_count, f_place, f_opens, f_top, f_fault, f_faultAt, f_dry, f_found, fi_m g, a_there, a_kind, a_num, a_open, a_openAt, a_power, a_table) xv := by
  subst ev
  unfold wpY_isZero
  exact yc_deg (2 * v) (by omega) (fun z => br_f (by decide) (h1 z)) (fun d hd hD => br_t (nI_pos' (by omega)) (h0 (pf_hd_n0 hD))) (fi_2 v)
theorem yc_derive {post : SY → Prop} {g : Nat → Fin 5} {xa xt : Int32} (a t : Nat) (ha : a < 90) (ht : t < 90) (hat : a ≠ t)
    (h : post (f_count, f_place, f_opens, f_top, f_fault, f_faultAt, f_dry, f_found, fi_m (fi_p g t (pf_dr (fi_s g a))), a_there, a_kind, a_num, a_open, a_openAt, a_power, a_table)) (ea : xa = nI a := by rfl) (et : xt = nI t := by rfl) : wpY_derive post (f_count, f_place, f_opens, f_top, f_fault, f_faultAt, f_dry, f_found, fi_m g, a_there, a_kind, a_num, a_open, a_openAt, a_power, a_table) xa xt := by
  subst ea et
  have key : ∀ d j, j + d = 19 → wY_derive_8 post (nI a) (nI t) f_count f_place f_opens f_top f_fault f_faultAt f_dry f_found (d + 1) (nI (j + 1)) (fi_m (fi_p g t (fun k => if k < j then pf_dr (fi_s g a) k else 0))) a_there a_kind a_num a_open a_openAt a_power a_table := by
    intro d
    induction d with
    | zero =>
      intro j hj
      obtain rfl : j = 19 := by omega
      refine br_t (by decide) ?_
      have e : fi_p g t (fun k => if k < 19 then pf_dr (fi_s g a) k else 0) = fi_p g t (pf_dr (fi_s g a)) := by
        apply fi_pc
        intro k hk
        by_cases c : k < 19
        · rw [if_pos c]
        · obtain rfl : k = 19 := by omega
          rw [if_neg c]
          show 0 = Fin.ofNat 5 20 * fi_s g a 20
          rw [fi_s_ln g a 20 (by omega)]; decide
      rw [e]; exact h
    | succ d ih =>
      intro j hj
      have ex : (20 : Int32) * nI t + nI (j + 1) - 1 = nI (20 * t + j) := by rw [fi_ix]; exact nI_pred (20 * t + j)
      refine br_f (fi_n20 (by omega)) ⟨fi_in ha (by omega), yc_mod (x := pf_dr (fi_s g a) j) ?_ ⟨pk_in (20 * t + j) 1800 (by omega) ex, nm_r ?_ (nm_r (nI_1 (j + 1)) (ih (j + 1) (by omega)))⟩⟩
      · rw [fi_rd ha (by omega), fi_sq hat]
        exact fi_mk ⟨j + 1, by omega⟩ (fi_s g a (j + 1))
      · rw [ex, nI_clamp (by omega)]
        apply fi_pu (by omega)
        intro k hk
        by_cases c : k = j
        · rw [if_pos (by omega), if_pos c, c]
        · rw [if_neg c]
          by_cases c2 : k < j
          · rw [if_pos c2, if_pos (by omega)]
          · rw [if_neg c2, if_neg (by omega)]
  unfold wpY_derive
  refine yc_become t ht ?_
  have u := key 19 0 rfl
  have e : fi_p g t (pf_c (fi_z 0)) = fi_p g t (fun k => if k < 0 then pf_dr (fi_s g a) k else 0) := by
    apply fi_pc
    intro k hk
    have : fi_z 0 = 0 := by decide
    rw [this, pf_c0, if_neg (by omega)]
  rw [← e] at u
  exact ⟨20, u⟩
end
end
section
/-! The reference's put -/
section
variable {f_count f_place f_opens f_top f_fault f_faultAt f_dry f_found : Int32} {a_c a_there a_kind a_num a_open a_openAt a_power a_table : Nat → Int32}
theorem yc_put {post : SY → Prop} {g : Nat → Fin 5} {xs xw xm xt : Int32} (s w m t z : Nat) (hs : s < 68) (hw : 2 * w + 1 < 68) (hm : m ≤ 8) (ht : 84 ≤ t) (ht2 : t < 90)
    (lP : pf_ln (fi_s g (2 * w)) (z + 1)) (lQ : pf_ln (fi_s g (2 * w + 1)) (z + 1)) (hz : m * z ≤ 8)
    (h : ∀ g' : Nat → Fin 5, (∀ q, q ≠ 68 → q ≠ 69 → q ≠ t → fi_s g' q = fi_s g q) → fi_s g' t = pf_sP (fun k => pf_T (fi_s g s) (fi_s g (2 * w)) (fi_s g (2 * w + 1)) k m) (m + 1) → post (f_count, f_place, f_opens, f_top, f_fault, f_faultAt, f_dry, f_found, fi_m g', a_there, a_kind, a_num, a_open, a_openAt, a_power, a_table))
    (es : xs = nI s := by rfl) (ew : xw = nI w := by rfl) (em : xm = nI m := by rfl) (et : xt = nI t := by rfl) : wpY_put post (f_count, f_place, f_opens, f_top, f_fault, f_faultAt, f_dry, f_found, fi_m g, a_there, a_kind, a_num, a_open, a_openAt, a_power, a_table) xs xw xm xt := by
  subst es ew em et
  generalize eS : fi_s g s = S
  generalize eP : fi_s g (2 * w) = P at lP
  generalize eQ : fi_s g (2 * w + 1) = Q at lQ
  rw [eS, eP, eQ] at h
  have lT : ∀ k j, j ≤ m → pf_ln (pf_T S P Q k j) 9 := fun k j hj => pf_ln_mono (pf_T_ln lP lQ k j) (by have := Nat.mul_le_mul_right z hj; omega)
  have lT20 : ∀ k j, j ≤ m → pf_ln (pf_T S P Q k j) 20 := fun k j hj => pf_ln_mono (lT k j hj) (by omega)
  have inner : ∀ (J : Int32 → Int32 → Int32 → Int32 → Int32 → Int32 → Int32 → Int32 → Int32 → (Nat → Int32) → (Nat → Int32) → (Nat → Int32) → (Nat → Int32) → (Nat → Int32) → (Nat → Int32) → (Nat → Int32) → (Nat → Int32) → Prop) (k : Nat) (U : PF), k ≤ m →
      (∀ g' : Nat → Fin 5, (∀ q, q ≠ 68 → q ≠ 69 → q ≠ t → fi_s g' q = fi_s g q) → fi_s g' t = pf_add U (pf_T S P Q k m) → J (nI (k + 1)) f_count f_place f_opens f_top f_fault f_faultAt f_dry f_found (fi_m g') a_there a_kind a_num a_open a_openAt a_power a_table) →
      ∀ d j (g1 : Nat → Fin 5), j + d = m → (∀ q, q ≠ 68 → q ≠ 69 → q ≠ t → fi_s g1 q = fi_s g q) → fi_s g1 t = U → pf_ln U 20 → fi_s g1 68 = pf_T S P Q k j →
      wY_put_37 post J (nI s) (nI w) (nI m) (nI t) (nI k) (d + 1) (nI j) f_count f_place f_opens f_top f_fault f_faultAt f_dry f_found (fi_m g1) a_there a_kind a_num a_open a_openAt a_power a_table := by
    intro J k U hk hJ d
    induction d with
    | zero =>
      intro j g1 hj fr eU lU e68
      obtain rfl : j = m := by omega
      refine br_t (nI_le (Nat.le_refl _) (by omega)) ?_
      refine yc_add t 68 1 (by omega) (by omega) (by omega) (fun a b => by rw [fi_m1]; grind) ?_
      rw [eU, e68]
      refine nm_r (nI_1 k) (hJ _ (fun q h1 h2 h3 => ?_) ?_)
      · rw [fi_sq h3]; exact fr q h1 h2 h3
      · have e : (fun k_1 => U k_1 + 1 * pf_T S P Q k j k_1) = pf_add U (pf_T S P Q k j) := by
          funext x; show U x + 1 * pf_T S P Q k j x = U x + pf_T S P Q k j x; grind
        rw [e, fi_sp (pf_add_ln lU (lT20 k j (by omega)))]
    | succ d ih =>
      intro j g1 hj fr eU lU e68
      refine br_f (nI_ge (by omega) (by omega)) ?_
      by_cases c : j < k
      · refine br_f (nI_ge c (by omega)) ?_
        unfold wY_put_64
        refine yc_product 68 (2 * w) 69 (by omega) (by omega) (by omega) (by omega) (by omega) ?_ rfl (fi_2 w)
        refine yc_copy 69 68 (by omega) (by omega) (nm_r (nI_1 j) ?_)
        have lp : pf_ln (pf_mul (fi_s g1 68) (fi_s g1 (2 * w))) 20 := by
          rw [e68, fr _ (by omega) (by omega) (by omega), eP, ← pf_T_s1 c]; exact lT20 k (j + 1) (by omega)
        refine ih (j + 1) _ (by omega) (fun q h1 h2 h3 => ?_) ?_ lU ?_
        · rw [fi_sq h1, fi_sq h2]; exact fr q h1 h2 h3
        · rw [fi_sq (by omega), fi_sq (by omega)]; exact eU
        · rw [fi_sp (fi_s_ln _ _), fi_sp lp, e68, fr _ (by omega) (by omega) (by omega), eP, ← pf_T_s1 c]
      · refine br_t (nI_le (by omega) (by omega)) ?_
        unfold wY_put_64
        refine yc_product 68 (2 * w + 1) 69 (by omega) (by omega) (by omega) (by omega) (by omega) ?_ rfl (fi_21 w)
        refine yc_copy 69 68 (by omega) (by omega) (nm_r (nI_1 j) ?_)
        have lp : pf_ln (pf_mul (fi_s g1 68) (fi_s g1 (2 * w + 1))) 20 := by
          rw [e68, fr _ (by omega) (by omega) (by omega), eQ, ← pf_T_s2 c]; exact lT20 k (j + 1) (by omega)
        refine ih (j + 1) _ (by omega) (fun q h1 h2 h3 => ?_) ?_ lU ?_
        · rw [fi_sq h1, fi_sq h2]; exact fr q h1 h2 h3
        · rw [fi_sq (by omega), fi_sq (by omega)]; exact eU
        · rw [fi_sp (fi_s_ln _ _), fi_sp lp, e68, fr _ (by omega) (by omega) (by omega), eQ, ← pf_T_s2 c]
  have outer : ∀ d k (g1 : Nat → Fin 5), k + d = m + 1 → (∀ q, q ≠ 68 → q ≠ 69 → q ≠ t → fi_s g1 q = fi_s g q) → fi_s g1 t = pf_sP (fun k => pf_T S P Q k m) k →
      wY_put_10 post (nI s) (nI w) (nI m) (nI t) (d + 1) (nI k) f_count f_place f_opens f_top f_fault f_faultAt f_dry f_found (fi_m g1) a_there a_kind a_num a_open a_openAt a_power a_table := by
    intro d
    induction d with
    | zero =>
      intro k g1 hk fr eU
      obtain rfl : k = m + 1 := by omega
      exact br_t (nI_lt (by omega) (by omega)) (h g1 fr eU)
    | succ d ih =>
      intro k g1 hk fr eU
      refine br_f (nI_nlt (by omega) (by omega)) ⟨fi_in (by omega) (by omega), ?_⟩
      rw [fi_rd (by omega) (by omega), fr s (by omega) (by omega) (by omega), eS]
      refine yc_become 68 (by omega) ⟨m + 1, ?_⟩
      rw [fi_zi]
      have lU : pf_ln (pf_sP (fun k => pf_T S P Q k m) k) 20 := pf_sP_ln (fun i _ => lT20 i m (by omega))
      refine inner _ k (pf_sP (fun k => pf_T S P Q k m) k) (by omega) (fun g' fr' e' => ih (k + 1) g' (by omega) fr' e') m 0 _ (by omega) (fun q h1 h2 h3 => ?_) ?_ lU ?_
      · rw [fi_sq h1]; exact fr q h1 h2 h3
      · rw [fi_sq (by omega)]; exact eU
      · rw [fi_sp (pf_ln_mono (pf_c_ln _) (by omega))]
        unfold pf_T
        rw [if_pos (Nat.zero_le _), Nat.zero_sub]
        show _ = pf_mul (pf_c (S k)) (pf_mul (pf_c 1) (pf_c 1))
        rw [pf_one_mul, pf_mul1]
  unfold wpY_put
  refine yc_become t (by omega) ⟨m + 2, ?_⟩
  have z0 : fi_z 0 = 0 := by decide
  rw [z0]
  refine outer (m + 1) 0 _ (by omega) (fun q h1 h2 h3 => fi_sq h3) ?_
  rw [fi_sp (pf_ln_mono (pf_c_ln _) (by omega))]
  rfl
end
end
section
/-! The reference's slope, inPlace, raise: they end, touch no other slot below 66, and leave small slots where there is no fault -/
def ya_fr (v : Nat) (g g' : Nat → Fin 5) : Prop := ∀ s, s ≠ 2 * v → s ≠ 2 * v + 1 → s < 66 → fi_s g' s = fi_s g s
def ya_sm (v : Nat) (g : Nat → Fin 5) : Prop := pf_ln (fi_s g (2 * v)) 9 ∧ pf_ln (fi_s g (2 * v + 1)) 9
section
variable {f_count f_place f_opens f_top f_fault f_faultAt f_dry f_found : Int32} {a_c a_there a_kind a_num a_open a_openAt a_power a_table : Nat → Int32}
theorem yc_slope {post : SY → Prop} {g : Nat → Fin 5} {xv xat : Int32} (v : Nat) (hv : 2 * v + 1 < 52) (sm : ya_sm v g)
    (h : ∀ (g' : Nat → Fin 5) (m : Nat) (pw : Nat → Int32) (ft fa : Int32), ya_fr v g g' →
      ys_tk (pf_add (pf_mul (pf_dr (fi_s g (2 * v))) (fi_s g (2 * v + 1))) (pf_mul (pf_c (-1)) (pf_mul (fi_s g (2 * v)) (pf_dr (fi_s g (2 * v + 1)))))) (pf_mul (fi_s g (2 * v + 1)) (fi_s g (2 * v + 1))) (fi_s g (2 * v + 1)) (fi_s g (2 * v + 1)) (fi_s g' (2 * v)) (fi_s g' (2 * v + 1)) →
      ((ya_sm v g' ∧ ft = 0 ∧ fa = f_faultAt) ∨ (¬ ya_sm v g' ∧ ft = 4 ∧ fa = xat)) → post (f_count, f_place, f_opens, f_top, ft, fa, f_dry, nI m, fi_m g', a_there, a_kind, a_num, a_open, a_openAt, pw, a_table))
    (ev : xv = nI v := by rfl) : wpY_slope post (f_count, f_place, f_opens, f_top, 0, f_faultAt, f_dry, f_found, fi_m g, a_there, a_kind, a_num, a_open, a_openAt, a_power, a_table) xv xat := by
  subst ev
  have l17 : ∀ {a b : PF}, pf_ln a 9 → pf_ln b 9 → pf_ln (pf_mul a b) 20 := fun ha hb => pf_ln_mono (pf_mul_ln (a := 8) (b := 8) ha hb) (by omega)
  have ld : ∀ {a : PF}, pf_ln a 9 → pf_ln (pf_dr a) 9 := fun ha k hk => by
    show Fin.ofNat 5 (k + 1) * _ = 0
    rw [ha (k + 1) (by omega)]; grind
  obtain ⟨lv, lv1⟩ := sm
  unfold wpY_slope
  refine yc_derive (2 * v) 88 (by omega) (by omega) (by omega) ?_ (fi_2 v)
  refine yc_derive (2 * v + 1) 89 (by omega) (by omega) (by omega) ?_ (fi_21 v)
  rw [fi_sq (by omega)]
  refine yc_product 88 (2 * v + 1) 84 (by omega) (by omega) (by omega) (by omega) (by omega) ?_ rfl (fi_21 v)
  rw [fi_sq (by omega), fi_sp (pf_ln_mono (ld lv) (by omega)), fi_sq (by omega), fi_sq (by omega)]
  refine yc_product (2 * v) 89 85 (by omega) (by omega) (by omega) (by omega) (by omega) ?_ (fi_2 v)
  rw [fi_sq (by omega), fi_sq (by omega), fi_sq (by omega), fi_sq (by omega), fi_sp (pf_ln_mono (ld lv1) (by omega))]
  refine yc_add 84 85 (-1) (by omega) (by omega) (by omega) (fun a b => by rw [fi_mn]; grind) ?_
  rw [fi_sq (by omega), fi_sp (l17 (ld lv) lv1), fi_sp (l17 lv (ld lv1))]
  refine yc_copy (2 * v + 1) 87 (by omega) (by omega) ?_ (fi_21 v)
  rw [fi_sq (s := 84) (t := 2 * v + 1) (by omega), fi_sq (s := 85) (t := 2 * v + 1) (by omega), fi_sq (s := 84) (t := 2 * v + 1) (by omega), fi_sq (s := 89) (t := 2 * v + 1) (by omega), fi_sq (s := 88) (t := 2 * v + 1) (by omega)]
  refine yc_product 87 87 86 (by omega) (by omega) (by omega) (by omega) (by omega) ?_
  rw [fi_sp (fi_s_ln _ _)]
  have ea : (fun k => pf_mul (pf_dr (fi_s g (2 * v))) (fi_s g (2 * v + 1)) k + (-1) * pf_mul (fi_s g (2 * v)) (pf_dr (fi_s g (2 * v + 1))) k) = pf_add (pf_mul (pf_dr (fi_s g (2 * v))) (fi_s g (2 * v + 1))) (pf_mul (pf_c (-1)) (pf_mul (fi_s g (2 * v)) (pf_dr (fi_s g (2 * v + 1))))) := by
    rw [pf_mul_cl]; rfl
  have la : pf_ln (pf_add (pf_mul (pf_dr (fi_s g (2 * v))) (fi_s g (2 * v + 1))) (pf_mul (pf_c (-1)) (pf_mul (fi_s g (2 * v)) (pf_dr (fi_s g (2 * v + 1)))))) 20 := pf_add_ln (l17 (ld lv) lv1) (pf_c_ml _ (l17 lv (ld lv1)))
  rw [ea]
  generalize eg : fi_p _ 86 _ = gg
  have o : ∀ s, s < 70 → fi_s gg s = fi_s g s := fun s hs => by
    rw [← eg, fi_sq (by omega), fi_sq (by omega), fi_sq (by omega), fi_sq (by omega), fi_sq (by omega), fi_sq (by omega), fi_sq (by omega)]
  have o87 : fi_s gg 87 = fi_s g (2 * v + 1) := by rw [← eg, fi_sq (by omega), fi_sp (fi_s_ln _ _)]
  have o86 : fi_s gg 86 = pf_mul (fi_s g (2 * v + 1)) (fi_s g (2 * v + 1)) := by rw [← eg, fi_sp (l17 lv1 lv1)]
  have o84 : fi_s gg 84 = pf_add (pf_mul (pf_dr (fi_s g (2 * v))) (fi_s g (2 * v + 1))) (pf_mul (pf_c (-1)) (pf_mul (fi_s g (2 * v)) (pf_dr (fi_s g (2 * v + 1))))) := by
    rw [← eg, fi_sq (by omega), fi_sq (by omega), fi_sp la]
  refine yc_take v 87 87 hv (by omega) (by omega) (by omega) (by omega) (by omega) (by omega) (by omega) (by omega) (by rw [o87]; exact lv1) (by rw [o87]; exact lv1) (fun g' m pw fr tk => ?_)
  rw [o84, o86, o87] at tk
  have fr' : ya_fr v g g' := fun s h1 h2 h3 => by rw [fr s h1 h2 (by omega)]; exact o s (by omega)
  refine yc_large v (by omega) (fun l1 l2 => ?_) (fun l => ?_)
  · exact h g' m pw 0 f_faultAt fr' tk (Or.inl ⟨⟨l1, l2⟩, rfl, rfl⟩)
  · exact h g' m pw 4 xat fr' tk (Or.inr ⟨l, rfl, rfl⟩)
theorem yc_inPlace {post : SY → Prop} {g : Nat → Fin 5} {xv xw xat : Int32} (v w : Nat) (hv : 2 * v + 1 < 52) (hw : 2 * w + 1 < 52) (vw : v ≠ w) (sv : ya_sm v g) (sw : ya_sm w g)
    (h3 : post (f_count, f_place, f_opens, f_top, 3, xat, f_dry, f_found, fi_m g, a_there, a_kind, a_num, a_open, a_openAt, a_power, a_table)) (h4 : post (f_count, f_place, f_opens, f_top, 4, xat, f_dry, f_found, fi_m g, a_there, a_kind, a_num, a_open, a_openAt, a_power, a_table))
    (h : ∀ (g' : Nat → Fin 5) (m : Nat) (pw : Nat → Int32), ya_fr v g g' → post (f_count, f_place, f_opens, f_top, 0, f_faultAt, f_dry, nI m, fi_m g', a_there, a_kind, a_num, a_open, a_openAt, pw, a_table))
    (ev : xv = nI v := by rfl) (ew : xw = nI w := by rfl) : wpY_inPlace post (f_count, f_place, f_opens, f_top, 0, f_faultAt, f_dry, f_found, fi_m g, a_there, a_kind, a_num, a_open, a_openAt, a_power, a_table) xv xw xat := by
  subst ev ew
  have go : ∀ a : Nat, a ≤ 8 → wY_inPlace_43 post (nI v) (nI w) xat (nI a) f_count f_place f_opens f_top (0) f_faultAt f_dry f_found (fi_m g) a_there a_kind a_num a_open a_openAt a_power a_table := by
    intro a ha
    unfold wY_inPlace_43
    refine yc_size w (by omega) (fun b hb lb lb1 hx => ?_)
    have em : nI a * nI b = nI (a * b) := pk_mul a b
    have hab : a * b ≤ 8 * 20 := Nat.mul_le_mul ha (by omega)
    rw [em]
    by_cases c : a * b ≤ 8
    · refine br_t (nI_le (b := 8) c (by decide)) ?_
      refine yc_put (2 * v) w a 84 b (by omega) (by omega) ha (by omega) (by omega) lb lb1 c (fun g1 f1 _ => ?_) (fi_2 v)
      have k1 : ∀ s, s < 66 → fi_s g1 s = fi_s g s := fun s hs => f1 s (by omega) (by omega) (by omega)
      refine yc_put (2 * v + 1) w a 86 b (by omega) (by omega) ha (by omega) (by omega) (by rw [k1 _ (by omega)]; exact lb) (by rw [k1 _ (by omega)]; exact lb1) c (fun g2 f2 e86 => ?_) (fi_21 v)
      have k2 : ∀ s, s < 66 → fi_s g2 s = fi_s g s := fun s hs => by rw [f2 s (by omega) (by omega) (by omega)]; exact k1 s hs
      have l86 : pf_ln (fi_s g2 86) 9 := by
        rw [e86, k1 _ (by omega), k1 (2 * w) (by omega), k1 (2 * w + 1) (by omega)]
        exact pf_sP_ln (fun i _ => pf_ln_mono (pf_T_ln lb lb1 i a) (by omega))
      refine yc_copy 86 87 (by omega) (by omega) ?_
      have e87 : fi_s (fi_p g2 87 (fi_s g2 86)) 87 = fi_s g2 86 := fi_sp (fi_s_ln _ _)
      refine yc_take v 87 87 hv (by omega) (by omega) (by omega) (by omega) (by omega) (by omega) (by omega) (by omega) (by rw [e87]; exact l86) (by rw [e87]; exact l86) (fun g' m pw fr _ => ?_)
      refine h g' m pw (fun s h1 h2 h3 => ?_)
      rw [fr s h1 h2 (by omega), fi_sq (by omega)]; exact k2 s h3
    · exact br_f (nI_ge (a := 8) (by omega) (by omega)) (br_t rfl h4)
  unfold wpY_inPlace
  refine yc_size v (by omega) (fun a ha la la1 hx => ?_)
  have ha8 : a ≤ 8 := by
    rcases hx with e | e | e
    · omega
    · have := pf_hd_lt e sv.1; omega
    · have := pf_hd_lt e sv.2; omega
  refine yc_size w (by omega) (fun b hb lb lb1 _ => ?_)
  by_cases c : b = 0
  · have e40 : (40 : Int32) * nI w = nI (20 * (2 * w) + 0) := by
      show nI 40 * nI w = _
      rw [pk_mul]; congr 1; omega
    refine br_t (by rw [c]; rfl) ⟨pk_in _ 1800 (by omega) e40, ?_⟩
    refine yc_valueOf (2 * v + 1) (fi_s g (2 * w) 0) (by omega) ?_ (fi_21 v) ?_
    · by_cases c2 : pf_hn (fi_s g (2 * v + 1)) (fi_s g (2 * w) 0) 19 20 = 0
      · refine br_t (by rw [c2]; rfl) (br_t rfl h3)
      · exact br_f (fun e => c2 ((fi_0 _).mp e)) (go a ha8)
    · rw [e40, nI_clamp (by omega), fi_s_at (by omega)]; rfl
  · exact br_f (nI_ne0 (by omega) (by omega)) (go a ha8)
theorem yc_raise {post : SY → Prop} {g : Nat → Fin 5} {xv xn xat : Int32} (v q : Nat) (hv : 2 * v + 1 < 52) (hq : q ≤ 8) (hn : xn = nI q ∨ (xn = -nI q ∧ 1 ≤ q)) (sm : ya_sm v g)
    (h : ∀ (g' : Nat → Fin 5) (m : Int32) (pw : Nat → Int32) (ft fa : Int32), ya_fr v g g' → (ft = 0 → ya_sm v g') → post (f_count, f_place, f_opens, f_top, ft, fa, f_dry, m, fi_m g', a_there, a_kind, a_num, a_open, a_openAt, pw, a_table))
    (ev : xv = nI v := by rfl) : wpY_raise post (f_count, f_place, f_opens, f_top, 0, f_faultAt, f_dry, f_found, fi_m g, a_there, a_kind, a_num, a_open, a_openAt, a_power, a_table) xv xn xat := by
  subst ev
  have l1 : pf_ln (pf_c 1) 9 := pf_ln_mono (pf_c_ln 1) (by omega)
  have loop : ∀ d k (g1 : Nat → Fin 5) (m : Int32) (pw : Nat → Int32) (ft fa : Int32), k + d = q → ya_fr v g g1 → (ft = 0 → ya_sm v g1) → pf_ln (fi_s g1 66) 9 → pf_ln (fi_s g1 67) 9 →
      wY_raise_81 post (nI v) xat (nI q) (d + 1) (nI k) f_count f_place f_opens f_top (ft) (fa) f_dry (m) (fi_m g1) a_there a_kind a_num a_open a_openAt (pw) a_table := by
    intro d
    induction d with
    | zero =>
      intro k g1 m pw ft fa hk fr hs l66 l67
      obtain rfl : k = q := by omega
      exact br_t (nI_le (Nat.le_refl _) (by omega)) (h g1 m pw ft fa fr hs)
    | succ d ih =>
      intro k g1 m pw ft fa hk fr hs l66 l67
      refine br_f (nI_ge (by omega) (by omega)) ?_
      by_cases c : ft = 0
      · subst c
        refine br_t rfl ?_
        refine yc_times v 33 hv (by omega) (by omega) (hs rfl).1 (hs rfl).2 l66 l67 (fun g2 m2 pw2 fr2 _ => ?_)
        have fr3 : ya_fr v g g2 := fun s h1 h2 h3 => by rw [fr2 s h1 h2 (by omega)]; exact fr s h1 h2 h3
        have l66' : pf_ln (fi_s g2 66) 9 := by rw [fr2 66 (by omega) (by omega) (by omega)]; exact l66
        have l67' : pf_ln (fi_s g2 67) 9 := by rw [fr2 67 (by omega) (by omega) (by omega)]; exact l67
        refine yc_large v (by omega) (fun a b => nm_r (nI_1 k) ?_) (fun _ => nm_r (nI_1 k) ?_)
        · exact ih (k + 1) g2 (nI m2) pw2 0 fa (by omega) fr3 (fun _ => ⟨a, b⟩) l66' l67'
        · exact ih (k + 1) g2 (nI m2) pw2 4 xat (by omega) fr3 (fun e => absurd e (by decide)) l66' l67'
      · exact br_f c (h g1 m pw ft fa fr hs)
  have r38 : ∀ g1 : Nat → Fin 5, ya_fr v g g1 → ya_sm v g1 → wY_raise_38 post (nI v) xat (nI q) f_count f_place f_opens f_top (0) f_faultAt f_dry f_found (fi_m g1) a_there a_kind a_num a_open a_openAt a_power a_table := by
    intro g1 fr s1
    unfold wY_raise_38
    refine yc_copy (2 * v) 66 (by omega) (by omega) ?_ (fi_2 v)
    refine yc_copy (2 * v + 1) 67 (by omega) (by omega) ?_ (fi_21 v)
    refine yc_become (2 * v) (by omega) ?_ (fi_2 v)
    refine yc_become (2 * v + 1) (by omega) ⟨q + 1, ?_⟩ (fi_21 v)
    have z1 : fi_z 1 = 1 := by decide
    rw [z1]
    refine loop q 0 _ _ _ _ _ (by omega) (fun s h1 h2 h3 => ?_) (fun _ => ⟨?_, ?_⟩) ?_ ?_
    · rw [fi_sq h2, fi_sq h1, fi_sq (by omega), fi_sq (by omega)]; exact fr s h1 h2 h3
    · rw [fi_sq (by omega), fi_sp (pf_ln_mono l1 (by omega))]; exact l1
    · rw [fi_sp (pf_ln_mono l1 (by omega))]; exact l1
    · rw [fi_sq (by omega), fi_sq (by omega), fi_sq (by omega), fi_sp (fi_s_ln _ _)]; exact s1.1
    · rw [fi_sq (by omega), fi_sq (by omega), fi_sp (fi_s_ln _ _), fi_sq (by omega)]; exact s1.2
  unfold wpY_raise
  rcases hn with e | ⟨e, hq1⟩
  · subst e
    have p0 : (0 : Int32) ≤ nI q := nI_pos' (by omega)
    refine br_t p0 ?_
    unfold wY_raise_19 wY_raise_28
    exact br_t p0 (br_t p0 (r38 g (fun _ _ _ _ => rfl) sm))
  · subst e
    have t : (-nI q).toInt = -(q : Int) := by
      rw [Int32.toInt_neg, nI_toInt (by omega)]
      exact Int.bmod_eq_of_le (by omega) (by omega)
    have p0 : ¬ (0 : Int32) ≤ -nI q := by
      rw [Int32.le_iff_toInt_le, t, fi_00]; omega
    have nn : -(-nI q) = nI q := Int32.neg_neg
    refine br_f p0 ?_
    refine yc_isZero v (by omega) (fun nz => ?_) (fun z => ?_)
    · refine br_t rfl ?_
      unfold wY_raise_19
      refine br_f p0 (yc_flip v hv (fun g' fr hf => ?_))
      unfold wY_raise_28
      refine br_f p0 ?_
      rw [nn]
      refine r38 g' (fun s h1 h2 h3 => fr s h1 h2 (by omega)) ?_
      rcases hf with ⟨_, e0, e1⟩ | ⟨_, c, _, e0, e1⟩
      · unfold ya_sm
        rw [e0, e1]
        exact ⟨pf_ln_mono (pf_c_ln 0) (by omega), l1⟩
      · unfold ya_sm
        rw [e0, e1]
        exact ⟨pf_c_ml _ sm.2, pf_c_ml _ sm.1⟩
    · refine br_f (by decide) (br_t rfl ?_)
      exact h g f_found a_power 3 xat (fun _ _ _ _ => rfl) (fun e => absurd e (by decide))
end
end
section
/-! The reference's carry and carryDown -/
def ya_set (k : Nat) : Prop := k = 3 ∨ k = 5 ∨ k = 6 ∨ k = 7 ∨ k = 8 ∨ k = 11 ∨ k = 12
def ya_rk (k : Nat) : Nat := if k = 11 then 4 else if k = 7 then 3 else if k = 8 then 3 else if k = 12 then 2 else if k = 5 then 1 else if k = 6 then 1 else 0
def ya_bin (os : Nat → Nat) : Nat → Nat
  | 0 => 0
  | o + 1 => ya_bin os o + (if os o = 3 then 0 else if os o = 12 then 0 else 1)
def ya_dep (os : Nat → Nat) : Nat → Nat
  | 0 => 0
  | o + 1 => ya_dep os o + (if os o = 3 then 1 else 0)
def ya_os (a : Nat → Int32) (o : Nat) (os : Nat → Nat) : Prop := ∀ j, j < o → a j = nI (os j) ∧ ya_set (os j)
/-- the stack's slots are small, where they are worked on and there is no fault -/
def ya_in (dry ft : Int32) (t : Nat) (g : Nat → Fin 5) : Prop := dry = 0 → ft = 0 → ∀ s, s < 2 * t → pf_ln (fi_s g s) 9
def ya_pl (g g' : Nat → Fin 5) : Prop := ∀ s, 52 ≤ s → s < 66 → fi_s g' s = fi_s g s
theorem ya_pl_r (g : Nat → Fin 5) : ya_pl g g := fun _ _ _ => rfl
theorem ya_pl_t {g g1 g2 : Nat → Fin 5} (h1 : ya_pl g g1) (h2 : ya_pl g1 g2) : ya_pl g g2 := fun s a b => by rw [h2 s a b, h1 s a b]
theorem fi_t1 (t : Nat) : nI (t + 1) - 1 = nI t := nI_pred t
theorem fi_t2 (t : Nat) : nI (t + 2) - 2 = nI t := by
  show nI (t + 2) - nI 2 = nI t
  rw [pk_sub (by omega)]; rfl
section
variable {f_count f_place f_opens f_top f_fault f_faultAt f_dry f_found : Int32} {a_c a_there a_kind a_num a_open a_openAt a_power a_table : Nat → Int32}
theorem yc_191 {post : SY → Prop} {g : Nat → Fin 5} {x1 xat : Int32} (v : Nat) (hv : 2 * v + 1 < 90) (hx : ¬ x1 = 12)
    (h : ∀ ft fa : Int32, (ft = 0 → ya_sm v g) → post (f_count, f_place, f_opens, f_top, ft, fa, f_dry, f_found, fi_m g, a_there, a_kind, a_num, a_open, a_openAt, a_power, a_table)) : wY_carry_191 post x1 xat (nI v) f_count f_place f_opens f_top f_fault f_faultAt f_dry f_found (fi_m g) a_there a_kind a_num a_open a_openAt a_power a_table := by
  refine br_f hx ?_
  by_cases c : f_fault = 0
  · subst c
    exact br_t rfl (yc_large v hv (fun a b => h 0 f_faultAt (fun _ => ⟨a, b⟩)) (fun _ => h 4 xat (fun e => absurd e (by decide))))
  · exact br_f c (h f_fault f_faultAt (fun e => absurd e c))
theorem yc_carry {post : SY → Prop} {g : Nat → Fin 5} (o k t : Nat) (ho : o < 30) (hk : a_open o = nI k) (kk : k = 5 ∨ k = 6 ∨ k = 7 ∨ k = 8 ∨ k = 11) (ht : t + 2 ≤ 25) (inv : ya_in f_dry f_fault (t + 2) g)
    (h : ∀ (g' : Nat → Fin 5) (m : Int32) (pw : Nat → Int32) (ft fa : Int32), ya_pl g g' → ya_in f_dry ft (t + 1) g' → post (f_count, f_place, nI o, nI (t + 1), ft, fa, f_dry, m, fi_m g', a_there, a_kind, a_num, a_open, a_openAt, pw, a_table)) :
    wpY_carry post (f_count, f_place, nI (o + 1), nI (t + 2), f_fault, f_faultAt, f_dry, f_found, fi_m g, a_there, a_kind, a_num, a_open, a_openAt, a_power, a_table) := by
  unfold wpY_carry
  dsimp only
  refine nm_r (fi_t1 o) ⟨vp_in_nI ho (by omega), ?_⟩
  rw [nI_clamp (by omega)]
  refine nm_r hk ⟨vp_in_nI ho (by omega), nm_e (nm_r (fi_t2 t) (nm_r (fi_t1 (t + 1)) ?_))⟩
  have k12 : ¬ nI k = 12 := by rcases kk with rfl | rfl | rfl | rfl | rfl <;> decide
  refine br_f k12 (nm_r (fi_t1 (t + 1)) ?_)
  unfold wY_carry_61
  by_cases cd : f_dry = 0
  · refine br_t cd ?_
    by_cases cf : f_fault = 0
    · refine br_t cf (br_f k12 ?_)
      have inv2 := inv cd cf
      have sv : ya_sm t g := ⟨inv2 _ (by omega), inv2 _ (by omega)⟩
      have sw : ya_sm (t + 1) g := ⟨inv2 _ (by omega), inv2 _ (by omega)⟩
      -- what every operator does behind its own work
      have last : ∀ (g' : Nat → Fin 5) (m : Int32) (pw : Nat → Int32) (ft fa : Int32), (∀ s, s ≠ 2 * t → s ≠ 2 * t + 1 → s ≠ 2 * (t + 1) → s ≠ 2 * (t + 1) + 1 → s < 66 → fi_s g' s = fi_s g s) →
          wY_carry_191 post (nI k) (a_openAt o) (nI t) f_count f_place (nI o) (nI (t + 1)) (ft) (fa) f_dry (m) (fi_m g') a_there a_kind a_num a_open a_openAt (pw) a_table := by
        intro g' m pw ft fa fr
        refine yc_191 t (by omega) k12 (fun ft' fa' hs => h g' m pw ft' fa' (fun s a b => fr s (by omega) (by omega) (by omega) (by omega) b) ?_)
        intro _ e s hs'
        by_cases c1 : s = 2 * t
        · rw [c1]; exact (hs e).1
        · by_cases c2 : s = 2 * t + 1
          · rw [c2]; exact (hs e).2
          · rw [fr s c1 c2 (by omega) (by omega) (by omega)]; exact inv2 s (by omega)
      subst cf
      rcases kk with rfl | rfl | rfl | rfl | rfl
      · refine br_t rfl ?_
        exact yc_sum t (t + 1) 1 (by omega) (by omega) (by omega) (fun a b => by rw [fi_m1]; grind) sv.1 sv.2 sw.1 sw.2 (fun g' m pw fr _ => last g' _ pw _ _ (fun s h1 h2 _ _ h5 => fr s h1 h2 (by omega)))
      · refine br_f (by decide) (br_t rfl ?_)
        exact yc_sum t (t + 1) (-1) (by omega) (by omega) (by omega) (fun a b => by rw [fi_mn]; grind) sv.1 sv.2 sw.1 sw.2 (fun g' m pw fr _ => last g' _ pw _ _ (fun s h1 h2 _ _ h5 => fr s h1 h2 (by omega)))
      · refine br_f (by decide) (br_f (by decide) (br_t rfl ?_))
        exact yc_times t (t + 1) (by omega) (by omega) (by omega) sv.1 sv.2 sw.1 sw.2 (fun g' m pw fr _ => last g' _ pw _ _ (fun s h1 h2 _ _ h5 => fr s h1 h2 (by omega)))
      · refine br_f (by decide) (br_f (by decide) (br_f (by decide) (br_f (by decide) ?_)))
        refine yc_isZero (t + 1) (by omega) (fun nz => ?_) (fun z => ?_)
        · refine br_t rfl ?_
          refine yc_flip (t + 1) (by omega) (fun g1 fr1 hf => ?_)
          have s1 : ya_sm (t + 1) g1 := by
            rcases hf with ⟨_, e0, e1⟩ | ⟨_, c, _, e0, e1⟩
            · unfold ya_sm
              rw [e0, e1]
              exact ⟨pf_ln_mono (pf_c_ln 0) (by omega), pf_ln_mono (pf_c_ln 1) (by omega)⟩
            · unfold ya_sm
              rw [e0, e1]
              exact ⟨pf_c_ml _ sw.2, pf_c_ml _ sw.1⟩
          refine yc_times t (t + 1) (by omega) (by omega) (by omega) (by rw [fr1 _ (by omega) (by omega) (by omega)]; exact sv.1) (by rw [fr1 _ (by omega) (by omega) (by omega)]; exact sv.2) s1.1 s1.2 (fun g' m pw fr _ => last g' _ pw _ _ (fun s h1 h2 h3 h4 h5 => ?_))
          rw [fr s h1 h2 (by omega)]; exact fr1 s h3 h4 (by omega)
        · refine br_f (by decide) (br_t rfl ?_)
          exact last g _ _ _ _ (fun _ _ _ _ _ _ => rfl)
      · refine br_f (by decide) (br_f (by decide) (br_f (by decide) (br_t rfl ?_)))
        exact yc_inPlace t (t + 1) (by omega) (by omega) (by omega) sv sw (last g _ _ _ _ (fun _ _ _ _ _ _ => rfl)) (last g _ _ _ _ (fun _ _ _ _ _ _ => rfl)) (fun g' m pw fr => last g' _ pw _ _ (fun s h1 h2 _ _ h5 => fr s h1 h2 h5))
    · exact br_f cf (h g f_found a_power f_fault f_faultAt (ya_pl_r g) (fun _ e => absurd e cf))
  · exact br_f cd (h g f_found a_power f_fault f_faultAt (ya_pl_r g) (fun e => absurd e cd))
theorem yc_carry12 {post : SY → Prop} {g : Nat → Fin 5} (o t : Nat) (ho : o < 30) (hk : a_open o = nI 12) (ht : t + 1 ≤ 25) (inv : ya_in f_dry f_fault (t + 1) g)
    (h : ∀ g' : Nat → Fin 5, ya_pl g g' → ya_in f_dry f_fault (t + 1) g' → post (f_count, f_place, nI o, nI (t + 1), f_fault, f_faultAt, f_dry, f_found, fi_m g', a_there, a_kind, a_num, a_open, a_openAt, a_power, a_table)) :
    wpY_carry post (f_count, f_place, nI (o + 1), nI (t + 1), f_fault, f_faultAt, f_dry, f_found, fi_m g, a_there, a_kind, a_num, a_open, a_openAt, a_power, a_table) := by
  unfold wpY_carry
  dsimp only
  refine nm_r (fi_t1 o) ⟨vp_in_nI ho (by omega), ?_⟩
  rw [nI_clamp (by omega)]
  refine nm_r hk ⟨vp_in_nI ho (by omega), nm_e (nm_e (nm_r (fi_t1 t) ?_))⟩
  refine br_t rfl ?_
  unfold wY_carry_61
  by_cases cd : f_dry = 0
  · refine br_t cd ?_
    by_cases cf : f_fault = 0
    · have inv2 := inv cd cf
      refine br_t cf (br_t rfl ?_)
      refine yc_scale (2 * t) 4 (by omega) ?_ (fi_2 t) (by decide)
      refine br_t rfl (h _ (fun s a b => fi_sq (by omega)) ?_)
      intro _ _ s hs
      by_cases c : s = 2 * t
      · subst c
        rw [pf_sc, fi_sp (pf_c_ml _ (fi_s_ln _ _))]
        exact pf_c_ml _ (inv2 _ hs)
      · rw [fi_sq c]; exact inv2 s hs
    · exact br_f cf (h g (ya_pl_r g) (fun _ e => absurd e cf))
  · exact br_f cd (h g (ya_pl_r g) (fun e => absurd e cd))
theorem yc_rank {post : Int32 → Prop} {x : Int32} (k : Nat) (hk : ya_set k) (h : post (nI (ya_rk k))) (e : x = nI k := by rfl) : wpY_rank post (f_count, f_place, f_opens, f_top, f_fault, f_faultAt, f_dry, f_found, a_c, a_there, a_kind, a_num, a_open, a_openAt, a_power, a_table) x := by
  subst e
  unfold wpY_rank
  dsimp only
  rcases hk with rfl | rfl | rfl | rfl | rfl | rfl | rfl
  · exact br_f (by decide) (br_f (by decide) (br_f (by decide) (br_f (by decide) (br_f (by decide) (br_f (by decide) h)))))
  · exact br_f (by decide) (br_f (by decide) (br_f (by decide) (br_f (by decide) (br_t (by decide) h))))
  · exact br_f (by decide) (br_f (by decide) (br_f (by decide) (br_f (by decide) (br_f (by decide) (br_t (by decide) h)))))
  · exact br_f (by decide) (br_t (by decide) h)
  · exact br_f (by decide) (br_f (by decide) (br_t (by decide) h))
  · exact br_t (by decide) h
  · exact br_f (by decide) (br_f (by decide) (br_f (by decide) (br_t (by decide) h)))
theorem yc_down {post : SY → Prop} {os : Nat → Nat} {x : Int32} (l : Nat) (hl : 1 ≤ l) (hl2 : l < 10) (ex : x = nI l) :
    ∀ (o : Nat) (g g0 : Nat → Fin 5) (m : Int32) (pw : Nat → Int32) (ft fa : Int32), o ≤ 24 → ya_os a_open o os → ya_bin os o ≤ 24 → ya_in f_dry ft (ya_bin os o + 1) g → ya_pl g0 g →
      (∀ (o' : Nat) (g' : Nat → Fin 5) (m : Int32) (pw : Nat → Int32) (ft fa : Int32), o' ≤ o → (o' = 0 ∨ ya_rk (os (o' - 1)) < l) → ya_dep os o' = ya_dep os o → ya_bin os o' ≤ ya_bin os o → ya_in f_dry ft (ya_bin os o' + 1) g' → ya_pl g0 g' →
        post (f_count, f_place, nI o', nI (ya_bin os o' + 1), ft, fa, f_dry, m, fi_m g', a_there, a_kind, a_num, a_open, a_openAt, pw, a_table)) →
      wY_carryDown_0 post x (o + 1) f_count f_place (nI o) (nI (ya_bin os o + 1)) (ft) (fa) f_dry (m) (fi_m g) a_there a_kind a_num a_open a_openAt (pw) a_table := by
  subst ex
  intro o
  induction o with
  | zero =>
    intro g g0 m pw ft fa _ _ _ inv pl h
    exact br_t (by decide) (h 0 g m pw ft fa (Nat.le_refl _) (Or.inl rfl) rfl (Nat.le_refl _) inv pl)
  | succ o ih =>
    intro g g0 m pw ft fa ho hos hb inv pl h
    obtain ⟨ho1, ho2⟩ := hos o (by omega)
    refine br_f (nI_nle (by omega) (by omega)) ⟨by rw [fi_t1]; exact vp_in_nI (by omega) (by omega), ?_⟩
    rw [fi_t1, nI_clamp (by omega)]
    refine yc_rank (os o) ho2 ?_ ho1
    have hrk : ya_rk (os o) < 10 := by rcases ho2 with e | e | e | e | e | e | e <;> rw [e] <;> decide
    by_cases c : ya_rk (os o) < l
    · exact br_t (nI_lt c (by omega)) (h (o + 1) g m pw ft fa (Nat.le_refl _) (Or.inr c) rfl (Nat.le_refl _) inv pl)
    · refine br_f (nI_nlt (by omega) (by omega)) ?_
      have n3 : os o ≠ 3 := by intro e; rw [e] at c; exact c (Nat.lt_of_lt_of_le (by decide) hl)
      have ed : ya_dep os (o + 1) = ya_dep os o := by
        show ya_dep os o + (if os o = 3 then 1 else 0) = _
        rw [if_neg n3]; rfl
      have hos' : ya_os a_open o os := fun j hj => hos j (by omega)
      by_cases c12 : os o = 12
      · have eb : ya_bin os (o + 1) = ya_bin os o := by
          show ya_bin os o + (if os o = 3 then 0 else if os o = 12 then 0 else 1) = _
          rw [if_neg n3, if_pos c12]; rfl
        rw [eb] at hb inv ⊢
        rw [c12] at ho1
        refine yc_carry12 o (ya_bin os o) (by omega) ho1 (by omega) inv (fun g' pl' inv' => ?_)
        exact ih g' g0 m pw ft fa (by omega) hos' hb inv' (ya_pl_t pl pl') (fun o' g2 m2 pw2 ft2 fa2 a1 a2 a3 a4 a5 a6 => h o' g2 m2 pw2 ft2 fa2 (by omega) a2 (by rw [ed]; exact a3) (by rw [eb]; exact a4) a5 a6)
      · have eb : ya_bin os (o + 1) = ya_bin os o + 1 := by
          show ya_bin os o + (if os o = 3 then 0 else if os o = 12 then 0 else 1) = _
          rw [if_neg n3, if_neg c12]
        rw [eb] at hb inv ⊢
        have kk : os o = 5 ∨ os o = 6 ∨ os o = 7 ∨ os o = 8 ∨ os o = 11 := by
          rcases ho2 with e | e | e | e | e | e | e
          · exact absurd e n3
          · exact Or.inl e
          · exact Or.inr (Or.inl e)
          · exact Or.inr (Or.inr (Or.inl e))
          · exact Or.inr (Or.inr (Or.inr (Or.inl e)))
          · exact Or.inr (Or.inr (Or.inr (Or.inr e)))
          · exact absurd e c12
        refine yc_carry o (os o) (ya_bin os o) (by omega) ho1 kk (by omega) inv (fun g' m' pw' ft' fa' pl' inv' => ?_)
        exact ih g' g0 m' pw' ft' fa' (by omega) hos' (by omega) inv' (ya_pl_t pl pl') (fun o' g2 m2 pw2 ft2 fa2 a1 a2 a3 a4 a5 a6 => h o' g2 m2 pw2 ft2 fa2 (by omega) a2 (by rw [ed]; exact a3) (by rw [eb]; omega) a5 a6)
end
end
section
/-! The reference's atom and pass: control by the kinds of the tokens alone -/
def ya_eo (k : Nat) : Bool := decide (k ≤ 2) || decide (k = 4) || decide (k = 9) || decide (k = 10)
def ya_fit (k dp : Nat) (op sg : Bool) : Bool := if op then decide (k ≤ 3) || (decide (k = 6) && sg) else decide (5 ≤ k) || (decide (k = 4) && decide (0 < dp))
/-- the place of the first token that no formula has there; none for a formula -/
def ya_sc (kd : Nat → Nat) : Nat → Nat → Nat → Bool → Bool → Option Nat
  | 0, i, dp, op, _ => if op || decide (0 < dp) then some i else none
  | r + 1, i, dp, op, sg => if ya_fit (kd i) dp op sg then ya_sc kd r (i + 1) (if kd i = 3 then dp + 1 else if kd i = 4 then dp - 1 else dp) (!ya_eo (kd i)) (decide (kd i = 3)) else some i
def ya_r : Option Nat → Int32
  | none => -1
  | some p => nI p
def ya_tk (ak an : Nat → Int32) (cnt : Nat) (kd : Nat → Nat) : Prop := ∀ j, j < cnt → ak j = nI (kd j) ∧ kd j ≤ 11 ∧ (kd j = 2 → ∃ n, n < 6 ∧ an j = nI n) ∧ (kd j = 9 → ∃ q, q ≤ 8 ∧ (an j = nI q ∨ (an j = -nI q ∧ 1 ≤ q)))
theorem ya_bin_le (os : Nat → Nat) (o : Nat) : ya_bin os o ≤ o := by
  induction o with
  | zero => exact Nat.le_refl _
  | succ o ih =>
    show ya_bin os o + (if os o = 3 then 0 else if os o = 12 then 0 else 1) ≤ o + 1
    by_cases c : os o = 3
    · rw [if_pos c]; omega
    · rw [if_neg c]
      by_cases c2 : os o = 12
      · rw [if_pos c2]; omega
      · rw [if_neg c2]; omega
def ya_pu (os : Nat → Nat) (o k : Nat) : Nat → Nat := fun j => if j = o then k else os j
theorem ya_pu_b (os : Nat → Nat) (o k : Nat) : ∀ n, n ≤ o → ya_bin (ya_pu os o k) n = ya_bin os n ∧ ya_dep (ya_pu os o k) n = ya_dep os n := by
  intro n
  induction n with
  | zero => intro _; exact ⟨rfl, rfl⟩
  | succ n ih =>
    intro hn
    have e : ya_pu os o k n = os n := if_neg (by omega)
    refine ⟨?_, ?_⟩
    · show ya_bin (ya_pu os o k) n + (if ya_pu os o k n = 3 then 0 else if ya_pu os o k n = 12 then 0 else 1) = _
      rw [(ih (by omega)).1, e]; rfl
    · show ya_dep (ya_pu os o k) n + (if ya_pu os o k n = 3 then 1 else 0) = _
      rw [(ih (by omega)).2, e]; rfl
theorem ya_pu_o (os : Nat → Nat) (o k : Nat) : ya_pu os o k o = k := if_pos rfl
theorem ya_pu_os {a : Nat → Int32} {o : Nat} {os : Nat → Nat} {k : Nat} (h : ya_os a o os) (hk : ya_set k) : ya_os (upd a o (nI k)) (o + 1) (ya_pu os o k) := by
  intro j hj
  by_cases c : j = o
  · subst c; rw [ya_pu_o]; exact ⟨pk_us, hk⟩
  · have e : ya_pu os o k j = os j := if_neg c
    rw [e, pk_un c]; exact h j (by omega)
section
variable {f_count f_place f_opens f_top f_fault f_faultAt f_dry f_found : Int32} {a_c a_there a_kind a_num a_open a_openAt a_power a_table : Nat → Int32}
theorem yc_push {post : SY → Prop} {x xat : Int32} (o : Nat) (ho : o < 30) (h : post (f_count, f_place, nI (o + 1), f_top, f_fault, f_faultAt, f_dry, f_found, a_c, a_there, a_kind, a_num, upd a_open o x, upd a_openAt o xat, a_power, a_table)) : wpY_push post (f_count, f_place, nI o, f_top, f_fault, f_faultAt, f_dry, f_found, a_c, a_there, a_kind, a_num, a_open, a_openAt, a_power, a_table) x xat := by
  unfold wpY_push
  dsimp only
  rw [nI_clamp (by omega)]
  exact ⟨vp_in_nI ho (by omega), nm_e ⟨vp_in_nI ho (by omega), nm_e (nm_r (nI_1 o) h)⟩⟩
theorem yc_atom {post : SY → Prop} {g : Nat → Fin 5} {xk xn xat : Int32} (k t : Nat) (hk : k ≤ 2) (ht : t ≤ 24) (hn : k = 2 → ∃ n, n < 6 ∧ xn = nI n) (pl9 : ∀ s, 52 ≤ s → s < 66 → pf_ln (fi_s g s) 9) (inv : ya_in f_dry f_fault t g)
    (h : ∀ (g' : Nat → Fin 5) (ft fa : Int32), ya_pl g g' → ya_in f_dry ft (t + 1) g' → post (f_count, f_place, f_opens, nI (t + 1), ft, fa, f_dry, f_found, fi_m g', a_there, a_kind, a_num, a_open, a_openAt, a_power, a_table)) (ek : xk = nI k := by rfl) :
    wpY_atom post (f_count, f_place, f_opens, nI t, f_fault, f_faultAt, f_dry, f_found, fi_m g, a_there, a_kind, a_num, a_open, a_openAt, a_power, a_table) xk xn xat := by
  subst ek
  unfold wpY_atom
  dsimp only
  refine nm_r (nI_1 t) ?_
  by_cases cd : f_dry = 0
  · refine br_t cd ?_
    by_cases cf : f_fault = 0
    · have inv2 := inv cd cf
      refine br_t cf ?_
      subst cf
      have e2 : (2 : Int32) * (nI (t + 1) - 1) = nI (2 * t) := by rw [fi_t1, fi_2]
      have e3 : nI (2 * t) + 1 = nI (2 * t + 1) := nI_1 (2 * t)
      refine nm_r e2 ?_
      have lc : ∀ c : Fin 5, pf_ln (pf_c c) 20 := fun c => pf_ln_mono (pf_c_ln c) (by omega)
      -- behind the two becomes: the slots 2t and 2t+1 hold small things
      have go : ∀ z0 : Int32, wY_atom_47 post (nI k) xn xat (nI (2 * t)) z0 (nI (2 * t)) f_count f_place f_opens (nI (t + 1)) (0) f_faultAt f_dry f_found (fi_m g) a_there a_kind a_num a_open a_openAt a_power a_table := by
        intro z0
        unfold wY_atom_47
        refine yc_become (2 * t) (by omega) ?_
        refine yc_become (2 * t + 1) (by omega) ?_ e3
        -- what is left, from any small slots
        have rest : ∀ g1 : Nat → Fin 5, (∀ s, s ≠ 2 * t → s ≠ 2 * t + 1 → fi_s g1 s = fi_s g s) → pf_ln (fi_s g1 (2 * t)) 9 → pf_ln (fi_s g1 (2 * t + 1)) 9 → wY_atom_77 post (nI k) xn xat (nI (2 * t)) f_count f_place f_opens (nI (t + 1)) (0) f_faultAt f_dry f_found (fi_m g1) a_there a_kind a_num a_open a_openAt a_power a_table := by
          intro g1 fr l0 l1
          have fin : ∀ (g2 : Nat → Fin 5) (ft fa : Int32), (∀ s, s ≠ 2 * t → s ≠ 2 * t + 1 → fi_s g2 s = fi_s g s) → pf_ln (fi_s g2 (2 * t)) 9 → pf_ln (fi_s g2 (2 * t + 1)) 9 → post (f_count, f_place, f_opens, nI (t + 1), ft, fa, f_dry, f_found, fi_m g2, a_there, a_kind, a_num, a_open, a_openAt, a_power, a_table) := by
            intro g2 ft fa fr2 a0 a1
            refine h g2 ft fa (fun s h1 h2 => fr2 s (by omega) (by omega)) (fun _ _ s hs => ?_)
            by_cases c1 : s = 2 * t
            · rw [c1]; exact a0
            · by_cases c2 : s = 2 * t + 1
              · rw [c2]; exact a1
              · rw [fr2 s c1 c2]; exact inv2 s (by omega)
          unfold wY_atom_77
          by_cases c2 : k = 2
          · obtain ⟨n, hn6, en⟩ := hn c2
            subst en
            have c98 : ∀ ft fa : Int32, wY_atom_98 post (nI n) (nI (2 * t)) f_count f_place f_opens (nI (t + 1)) (ft) (fa) f_dry f_found (fi_m g1) a_there a_kind a_num a_open a_openAt a_power a_table := by
              intro ft fa
              unfold wY_atom_98
              have e52 : (52 : Int32) + 2 * nI n = nI (52 + 2 * n) := by rw [fi_2]; exact nI_add 52 (2 * n)
              have e53 : (53 : Int32) + 2 * nI n = nI (53 + 2 * n) := by rw [fi_2]; exact nI_add 53 (2 * n)
              refine yc_copy (52 + 2 * n) (2 * t) (by omega) (by omega) ?_ e52
              refine yc_copy (53 + 2 * n) (2 * t + 1) (by omega) (by omega) ?_ e53 e3
              refine fin _ ft fa (fun s h1 h2 => ?_) ?_ ?_
              · rw [fi_sq h2, fi_sq h1]; exact fr s h1 h2
              · rw [fi_sq (by omega), fi_sp (fi_s_ln _ _), fr _ (by omega) (by omega)]; exact pl9 _ (by omega) (by omega)
              · rw [fi_sp (fi_s_ln _ _), fi_sq (by omega), fr _ (by omega) (by omega)]; exact pl9 _ (by omega) (by omega)
            refine br_t (by rw [c2]; rfl) ⟨vp_in_nI (by omega) (by omega), ?_⟩
            refine br_c (fun _ => br_t rfl (c98 2 xat)) (fun _ => c98 0 f_faultAt)
          · exact br_f (fun e => c2 ((nI_eq (b := 2) (by omega) (by omega)).mp e)) (fin g1 0 f_faultAt fr l0 l1)
        by_cases c1 : k = 1
        · have ex : (20 : Int32) * nI (2 * t) + 1 = nI (20 * (2 * t) + 1) := by rw [fi_ix0, nI_1]
          refine br_t (by rw [c1]; rfl) ⟨pk_in (20 * (2 * t) + 1) 1800 (by omega) ex, nm_r (e' := fi_m (fi_p (fi_p g (2 * t + 1) (pf_c (fi_z 1))) (2 * t) (fun k => if k = 1 then 1 else pf_c (fi_z z0) k))) ?_ (rest _ (fun s h1 h2 => ?_) ?_ ?_)⟩
          · rw [ex, nI_clamp (by omega), fi_pcm (by omega)]
            exact fi_pu (x := 1) (by omega) (fun k _ => rfl)
          · rw [fi_sq h1, fi_sq h2]
          · have l2 : pf_ln (fun k => if k = 1 then 1 else pf_c (fi_z z0) k) 2 := fun k hk => by
              show (if k = 1 then 1 else pf_c (fi_z z0) k) = 0
              rw [if_neg (by omega)]; exact pf_c_ln _ k (by omega)
            rw [fi_sp (pf_ln_mono l2 (by omega))]; exact pf_ln_mono l2 (by omega)
          · rw [fi_sq (by omega), fi_sp (lc _)]; exact pf_ln_mono (pf_c_ln _) (by omega)
        · refine br_f (fun e => c1 ((nI_eq (b := 1) (by omega) (by omega)).mp e)) (rest _ (fun s h1 h2 => ?_) ?_ ?_)
          · rw [fi_sq h2, fi_sq h1]
          · rw [fi_sq (by omega), fi_sp (lc _)]; exact pf_ln_mono (pf_c_ln _) (by omega)
          · rw [fi_sp (lc _)]; exact pf_ln_mono (pf_c_ln _) (by omega)
      exact br_c (fun _ => go xn) (fun _ => go 0)
    · exact br_f cf (h g f_fault f_faultAt (ya_pl_r g) (fun _ e => absurd e cf))
  · exact br_f cd (h g f_fault f_faultAt (ya_pl_r g) (fun e => absurd e cd))
end
end
section
/-! The reference's pass -/
theorem ya_sc_f {kd : Nat → Nat} {r i dp : Nat} {op sg : Bool} (h : ya_fit (kd i) dp op sg = false) : ya_sc kd (r + 1) i dp op sg = some i := by
  show (if ya_fit (kd i) dp op sg = true then _ else some i) = some i
  rw [h]; rfl
theorem ya_sc_t {kd : Nat → Nat} {r i dp : Nat} {op sg : Bool} (h : ya_fit (kd i) dp op sg = true) : ya_sc kd (r + 1) i dp op sg = ya_sc kd r (i + 1) (if kd i = 3 then dp + 1 else if kd i = 4 then dp - 1 else dp) (!ya_eo (kd i)) (decide (kd i = 3)) := by
  show (if ya_fit (kd i) dp op sg = true then ya_sc kd r (i + 1) (if kd i = 3 then dp + 1 else if kd i = 4 then dp - 1 else dp) (!ya_eo (kd i)) (decide (kd i = 3)) else some i) = _
  rw [h]; rfl
theorem ya_rk3 {k : Nat} (hk : ya_set k) (h : ya_rk k < 1) : k = 3 := by
  rcases hk with e | e | e | e | e | e | e
  · exact e
  all_goals (rw [e] at h; exact absurd h (by decide))
theorem ya_bin_1 {os : Nat → Nat} {o : Nat} (h1 : os o ≠ 3) (h2 : os o ≠ 12) : ya_bin os (o + 1) = ya_bin os o + 1 := by
  show ya_bin os o + (if os o = 3 then 0 else if os o = 12 then 0 else 1) = _
  rw [if_neg h1, if_neg h2]
theorem ya_bin_3 {os : Nat → Nat} {o : Nat} (h1 : os o = 3) : ya_bin os (o + 1) = ya_bin os o := by
  show ya_bin os o + (if os o = 3 then 0 else if os o = 12 then 0 else 1) = _
  rw [if_pos h1]; rfl
theorem ya_bin_12 {os : Nat → Nat} {o : Nat} (h1 : os o = 12) : ya_bin os (o + 1) = ya_bin os o := by
  show ya_bin os o + (if os o = 3 then 0 else if os o = 12 then 0 else 1) = _
  rw [h1]; rfl
theorem ya_dep_3 {os : Nat → Nat} {o : Nat} (h1 : os o = 3) : ya_dep os (o + 1) = ya_dep os o + 1 := by
  show ya_dep os o + (if os o = 3 then 1 else 0) = _
  rw [if_pos h1]
theorem ya_dep_n {os : Nat → Nat} {o : Nat} (h1 : os o ≠ 3) : ya_dep os (o + 1) = ya_dep os o := by
  show ya_dep os o + (if os o = 3 then 1 else 0) = _
  rw [if_neg h1]; rfl
section
variable {f_count f_place f_opens f_top f_fault f_faultAt f_dry f_found : Int32} {a_c a_there a_kind a_num a_open a_openAt a_power a_table : Nat → Int32}
theorem yc_pass16 {post : Int32 → SY → Prop} {kd : Nat → Nat} {cnt : Nat} {g0 : Nat → Fin 5} {res : Option Nat} (hc : cnt ≤ 24) (tk : ya_tk a_kind a_num cnt kd) (pl9 : ∀ s, 52 ≤ s → s < 66 → pf_ln (fi_s g0 s) 9)
    (H : ∀ (g' : Nat → Fin 5) (ops tp ft fa m : Int32) (pw ao aa : Nat → Int32), ya_pl g0 g' → (res = none → ya_in f_dry ft 1 g') → post (ya_r res) (nI cnt, f_place, ops, tp, ft, fa, f_dry, m, fi_m g', a_there, a_kind, a_num, ao, aa, pw, a_table)) :
    ∀ (r i : Nat) (op sg : Bool) (x1 x2 : Int32) (os : Nat → Nat) (o tp : Nat) (g : Nat → Fin 5) (ft fa m : Int32) (pw ao aa : Nat → Int32), i + r = cnt → ya_sc kd r i (ya_dep os o) op sg = res → x1 = (if op then 1 else 0) → (op = true → (x2 = 0 ↔ sg = false)) → o ≤ i → ya_os ao o os → tp = ya_bin os o + (if op then 0 else 1) → ya_in f_dry ft tp g → ya_pl g0 g →
      wY_pass_16 post (r + 1) x1 x2 (nI i) (nI cnt) f_place (nI o) (nI tp) (ft) (fa) f_dry (m) (fi_m g) a_there a_kind a_num (ao) (aa) (pw) a_table := by
  intro r
  induction r with
  | zero =>
    intro i op sg x1 x2 os o tp g ft fa m pw ao aa hi hres hx1 hx2 ho hos htp inv pl
    obtain rfl : i = cnt := by omega
    have hb := ya_bin_le os o
    refine br_t (nI_le (Nat.le_refl _) (by omega)) ?_
    cases op with
    | true =>
      subst hx1
      refine br_f (by decide) ?_
      have e : res = some i := by rw [← hres]; rfl
      subst e
      exact H g _ _ _ _ _ _ _ _ pl (fun z => nomatch z)
    | false =>
      subst hx1
      refine br_t rfl ⟨o + 1, ?_⟩
      have htp' : tp = ya_bin os o + 1 := htp
      subst htp'
      refine yc_down (os := os) 1 (by omega) (by omega) rfl o g g0 m pw ft fa (by omega) hos (by omega) inv pl (fun o' g' m' pw' ft' fa' h1 h2 h3 h4 h5 h6 => ?_)
      by_cases c : o' = 0
      · subst c
        have e : res = none := by
          rw [← hres]
          show (if false || decide (0 < ya_dep os o) then some i else none) = none
          rw [← h3]; rfl
        subst e
        exact br_t (by decide) (H g' _ _ _ _ _ _ _ _ h6 (fun _ => h5))
      · have h7 : ya_rk (os (o' - 1)) < 1 := by
          rcases h2 with z | z
          · exact absurd z c
          · exact z
        have e3 := ya_rk3 (hos (o' - 1) (by omega)).2 h7
        obtain ⟨q, rfl⟩ : ∃ q, o' = q + 1 := ⟨o' - 1, by omega⟩
        have e : res = some i := by
          rw [← hres]
          show (if false || decide (0 < ya_dep os o) then some i else none) = some i
          rw [← h3, ya_dep_3 (show os q = 3 from e3)]
          have : decide (0 < ya_dep os q + 1) = true := decide_eq_true (by omega)
          rw [this]; rfl
        subst e
        exact br_f (nI_nle (by omega) (by omega)) (H g' _ _ _ _ _ _ _ _ h6 (fun z => nomatch z))
  | succ r ih =>
    intro i op sg x1 x2 os o tp g ft fa m pw ao aa hi hres hx1 hx2 ho hos htp inv pl
    have hb := ya_bin_le os o
    obtain ⟨k1, k2, k3, k4⟩ := tk i (by omega)
    refine br_f (nI_ge (by omega) (by omega)) ⟨vp_in_nI (by omega) (by omega), ?_⟩
    rw [nI_clamp (by omega)]
    refine nm_r k1 ?_
    -- the end with a fault of syntax here
    have stop : ya_fit (kd i) (ya_dep os o) op sg = false → ∀ (g' : Nat → Fin 5) (ops tp ft fa m : Int32) (pw ao aa : Nat → Int32), ya_pl g0 g' → post (nI i) (nI cnt, f_place, ops, tp, ft, fa, f_dry, m, fi_m g', a_there, a_kind, a_num, ao, aa, pw, a_table) := by
      intro hf g' ops tp ft fa m pw ao aa hp
      have e : res = some i := by rw [← hres]; exact ya_sc_f hf
      subst e
      exact H g' _ _ _ _ _ _ _ _ hp (fun z => nomatch z)
    cases op with
    | true =>
      subst hx1
      have htp' : tp = ya_bin os o := htp
      subst htp'
      refine br_f (by decide) ?_
      by_cases c6 : kd i = 6
      · refine br_t (by rw [c6]; rfl) ?_
        cases sg with
        | false =>
          refine br_t ((hx2 rfl).mpr rfl) ?_
          unfold wY_pass_57
          refine br_f (by rw [c6]; decide) (br_t (by rw [c6]; decide) (stop (by rw [c6]; rfl) g _ _ _ _ _ _ _ _ pl))
        | true =>
          refine br_f (fun z => nomatch (hx2 rfl).mp z) ?_
          refine yc_push o (by omega) ?_
          unfold wY_pass_125
          refine br_f (by rw [c6]; decide) (nm_r (nI_1 i) ?_)
          have hb2 := ya_pu_b os o 12 o (Nat.le_refl _)
          refine ih (i + 1) true false 1 0 (ya_pu os o 12) (o + 1) (ya_bin os o) g ft fa m pw _ _ (by omega) ?_ rfl (fun _ => ⟨fun _ => rfl, fun _ => rfl⟩) (by omega) (ya_pu_os (k := 12) hos (Or.inr (Or.inr (Or.inr (Or.inr (Or.inr (Or.inr rfl))))))) ?_ inv pl
          · rw [← hres, ya_sc_t (by rw [c6]; rfl), ya_dep_n (by rw [ya_pu_o]; decide), hb2.2, c6]; rfl
          · rw [ya_bin_12 (ya_pu_o _ _ _), hb2.1]; rfl
      · refine br_f (fun e => c6 ((nI_eq (b := 6) (by omega) (by omega)).mp e)) ?_
        unfold wY_pass_57
        by_cases c3 : kd i = 3
        · refine br_t (by rw [c3]; rfl) ?_
          refine yc_push o (by omega) ?_
          unfold wY_pass_125
          refine br_t (by rw [c3]; rfl) (nm_r (nI_1 i) ?_)
          have hb2 := ya_pu_b os o 3 o (Nat.le_refl _)
          refine ih (i + 1) true true 1 1 (ya_pu os o 3) (o + 1) (ya_bin os o) g ft fa m pw _ _ (by omega) ?_ rfl (fun _ => ⟨fun z => absurd z (by decide), fun z => nomatch z⟩) (by omega) (ya_pu_os (k := 3) hos (Or.inl rfl)) ?_ inv pl
          · rw [← hres, ya_sc_t (by rw [c3]; rfl), ya_dep_3 (ya_pu_o _ _ _), hb2.2, c3]; rfl
          · rw [ya_bin_3 (ya_pu_o _ _ _), hb2.1]; rfl
        · refine br_f (fun e => c3 ((nI_eq (b := 3) (by omega) (by omega)).mp e)) ?_
          by_cases c2 : kd i ≤ 2
          · refine br_f (nI_ge (b := 3) (by omega) (by decide)) ⟨vp_in_nI (by omega) (by omega), ?_⟩
            refine yc_atom (kd i) (ya_bin os o) c2 (by omega) (fun e => by rw [nI_clamp (by omega)]; exact k3 e) (fun s a b => by rw [pl s a b]; exact pl9 s a b) inv (fun g' ft' fa' pl' inv' => ?_)
            have fit : ya_fit (kd i) (ya_dep os o) true sg = true := by
              show (decide (kd i ≤ 3) || (decide (kd i = 6) && sg)) = true
              rw [decide_eq_true (show kd i ≤ 3 by omega)]; rfl
            have heo : ya_eo (kd i) = true := by
              show (decide (kd i ≤ 2) || _ || _ || _) = true
              rw [decide_eq_true c2]; rfl
            have hres2 : ya_sc kd r (i + 1) (ya_dep os o) false (decide (kd i = 3)) = res := by
              rw [← hres, ya_sc_t fit, heo, if_neg c3, if_neg (by omega)]; rfl
            have n3 : ¬ nI (kd i) = 3 := fun e => c3 ((nI_eq (b := 3) (by omega) (by omega)).mp e)
            have p2 : ya_pl g0 g' := ya_pl_t pl pl'
            cases o with
            | zero =>
              refine br_t (by decide) ?_
              unfold wY_pass_125
              refine br_f n3 (nm_r (nI_1 i) ?_)
              exact ih (i + 1) false _ 0 0 os 0 _ g' ft' fa' m pw ao aa (by omega) hres2 rfl (fun z => nomatch z) (by omega) hos rfl inv' p2
            | succ o =>
              refine br_f (nI_nle (by omega) (by omega)) ⟨by rw [fi_t1]; exact vp_in_nI (by omega) (by omega), ?_⟩
              rw [fi_t1, nI_clamp (by omega)]
              obtain ⟨e1, e2⟩ := hos o (by omega)
              by_cases c11 : os o = 11
              · refine br_t (by rw [e1, c11]; rfl) ?_
                have eb := ya_bin_1 (os := os) (o := o) (by omega) (by omega)
                rw [eb] at inv' ⊢
                refine yc_carry o 11 (ya_bin os o) (by omega) (by rw [e1, c11]) (by omega) (by omega) inv' (fun g2 m2 pw2 ft2 fa2 pl2 inv2 => ?_)
                unfold wY_pass_125
                refine br_f n3 (nm_r (nI_1 i) ?_)
                refine ih (i + 1) false (decide (kd i = 3)) 0 0 os o _ g2 ft2 fa2 m2 pw2 ao aa (by omega) ?_ rfl (fun z => nomatch z) (by omega) (fun j hj => hos j (by omega)) rfl inv2 (ya_pl_t p2 pl2)
                rw [← hres2, ya_dep_n (by omega)]
              · refine br_f (by rw [e1]; exact fun e => c11 ((nI_eq (b := 11) (by rcases e2 with z | z | z | z | z | z | z <;> omega) (by omega)).mp e)) ?_
                unfold wY_pass_125
                refine br_f n3 (nm_r (nI_1 i) ?_)
                exact ih (i + 1) false _ 0 0 os (o + 1) _ g' ft' fa' m pw ao aa (by omega) hres2 rfl (fun z => nomatch z) (by omega) hos rfl inv' p2
          · refine br_t (nI_le (a := 3) (by omega) (by omega)) (stop ?_ g _ _ _ _ _ _ _ _ pl)
            show (decide (kd i ≤ 3) || (decide (kd i = 6) && sg)) = false
            rw [decide_eq_false (show ¬ kd i ≤ 3 by omega), decide_eq_false c6]; rfl
    | false =>
      subst hx1
      have htp' : tp = ya_bin os o + 1 := htp
      subst htp'
      refine br_t rfl ?_
      have ne : ∀ q, q < 2 ^ 31 → kd i ≠ q → ¬ nI (kd i) = nI q := fun q hq h e => h ((nI_eq (by omega) hq).mp e)
      by_cases c4 : kd i = 4
      · refine br_t (by rw [c4]; rfl) ⟨o + 1, ?_⟩
        refine yc_down (os := os) 1 (by omega) (by omega) rfl o g g0 m pw ft fa (by omega) hos (by omega) inv pl (fun o' g' m' pw' ft' fa' h1 h2 h3 h4 h5 h6 => ?_)
        cases o' with
        | zero =>
          refine br_t rfl (stop ?_ g' _ _ _ _ _ _ _ _ h6)
          rw [c4, ← h3]; rfl
        | succ q =>
          refine br_f (nI_ne0 (by omega) (by omega)) (nm_r (fi_t1 q) ?_)
          have e3 : os q = 3 := ya_rk3 (hos q (by omega)).2 (by
            rcases h2 with z | z
            · omega
            · exact z)
          have eb := ya_bin_3 (os := os) (o := q) e3
          have ed := ya_dep_3 (os := os) (o := q) e3
          rw [eb] at h5 ⊢
          have hres2 : ya_sc kd r (i + 1) (ya_dep os q) false false = res := by
            have hd : 0 < ya_dep os o := by omega
            rw [← hres, ya_sc_t (by rw [c4]; show (decide (5 ≤ 4) || (decide (4 = 4) && decide (0 < ya_dep os o))) = true; rw [decide_eq_true hd]; rfl), c4]
            show _ = ya_sc kd r (i + 1) (ya_dep os o - 1) false false
            have e5 : ya_dep os o - 1 = ya_dep os q := by omega
            rw [e5]
          cases q with
          | zero =>
            refine br_t (by decide) (nm_r (nI_1 i) ?_)
            exact ih (i + 1) false false 0 x2 os 0 _ g' ft' fa' m' pw' ao aa (by omega) hres2 rfl (fun z => nomatch z) (by omega) (fun j hj => hos j (by omega)) rfl h5 h6
          | succ q =>
            refine br_f (nI_nle (by omega) (by omega)) ⟨by rw [fi_t1]; exact vp_in_nI (by omega) (by omega), ?_⟩
            rw [fi_t1, nI_clamp (by omega)]
            obtain ⟨e1, e2⟩ := hos q (by omega)
            by_cases c11 : os q = 11
            · refine br_t (by rw [e1, c11]; rfl) ?_
              have eb2 := ya_bin_1 (os := os) (o := q) (by omega) (by omega)
              have hb3 := ya_bin_le os q
              rw [eb2] at h5 ⊢
              refine yc_carry q 11 (ya_bin os q) (by omega) (by rw [e1, c11]) (by omega) (by omega) h5 (fun g2 m2 pw2 ft2 fa2 pl2 inv2 => ?_)
              refine nm_r (nI_1 i) ?_
              refine ih (i + 1) false false 0 x2 os q _ g2 ft2 fa2 m2 pw2 ao aa (by omega) ?_ rfl (fun z => nomatch z) (by omega) (fun j hj => hos j (by omega)) rfl inv2 (ya_pl_t h6 pl2)
              rw [← hres2, ya_dep_n (by omega)]
            · refine br_f (by rw [e1]; exact fun e => c11 ((nI_eq (b := 11) (by rcases e2 with z | z | z | z | z | z | z <;> omega) (by omega)).mp e)) (nm_r (nI_1 i) ?_)
              exact ih (i + 1) false false 0 x2 os (q + 1) _ g' ft' fa' m' pw' ao aa (by omega) hres2 rfl (fun z => nomatch z) (by omega) (fun j hj => hos j (by omega)) rfl h5 h6
      · refine br_f (ne 4 (by decide) c4) ?_
        -- the next token, with the same stack
        have next : ∀ (g' : Nat → Fin 5) (ft' fa' m' : Int32) (pw' : Nat → Int32), ya_eo (kd i) = true → 5 ≤ kd i → ya_in f_dry ft' (ya_bin os o + 1) g' → ya_pl g0 g' → wY_pass_16 post (r + 1) 0 x2 (nI (i + 1)) (nI cnt) f_place (nI o) (nI (ya_bin os o + 1)) (ft') (fa') f_dry (m') (fi_m g') a_there a_kind a_num (ao) (aa) (pw') a_table := by
          intro g' ft' fa' m' pw' heo h5 inv' pl'
          refine ih (i + 1) false (decide (kd i = 3)) 0 x2 os o _ g' ft' fa' m' pw' ao aa (by omega) ?_ rfl (fun z => nomatch z) (by omega) hos rfl inv' pl'
          rw [← hres, ya_sc_t (by show (decide (5 ≤ kd i) || _) = true; rw [decide_eq_true h5]; rfl), heo, if_neg (by omega), if_neg c4]; rfl
        have sm : f_dry = 0 → ft = 0 → ya_sm (ya_bin os o) g := fun e1 e2 => ⟨inv e1 e2 _ (by omega), inv e1 e2 _ (by omega)⟩
        have frm : ∀ (g' : Nat → Fin 5) (ft' : Int32), f_dry = 0 → ft = 0 → ya_fr (ya_bin os o) g g' → (ft' = 0 → ya_sm (ya_bin os o) g') → ya_in f_dry ft' (ya_bin os o + 1) g' ∧ ya_pl g0 g' := by
          intro g' ft' e1 e2 fr hs
          refine ⟨fun _ e s hs' => ?_, fun s a b => by rw [fr s (by omega) (by omega) b]; exact pl s a b⟩
          by_cases q1 : s = 2 * ya_bin os o
          · rw [q1]; exact (hs e).1
          · by_cases q2 : s = 2 * ya_bin os o + 1
            · rw [q2]; exact (hs e).2
            · rw [fr s q1 q2 (by omega)]; exact inv e1 e2 s (by omega)
        by_cases c9 : kd i = 9
        · refine br_t (by rw [c9]; rfl) ?_
          have heo : ya_eo (kd i) = true := by rw [c9]; rfl
          have p252 : ∀ (g' : Nat → Fin 5) (ft' fa' m' : Int32) (pw' : Nat → Int32), ya_in f_dry ft' (ya_bin os o + 1) g' → ya_pl g0 g' → wY_pass_252 post (wY_pass_16 post (r + 1)) 0 x2 (nI i) (nI (kd i)) (nI cnt) f_place (nI o) (nI (ya_bin os o + 1)) (ft') (fa') f_dry (m') (fi_m g') a_there a_kind a_num (ao) (aa) (pw') a_table := by
            intro g' ft' fa' m' pw' inv' pl'
            have nx := next g' ft' fa' m' pw' heo (by omega) inv' pl'
            unfold wY_pass_252
            exact br_c (fun _ => br_c (fun _ => br_f (by rw [c9]; decide) (nm_r (nI_1 i) nx)) (fun _ => nm_r (nI_1 i) nx)) (fun _ => nm_r (nI_1 i) nx)
          unfold wY_pass_214
          by_cases cd : f_dry = 0
          · refine br_t cd ?_
            by_cases cf : ft = 0
            · refine br_t cf (br_t (by rw [c9]; rfl) ⟨vp_in_nI (by omega) (by omega), ?_⟩)
              obtain ⟨q, hq, hn⟩ := k4 c9
              subst cf
              rw [fi_t1, nI_clamp (by omega)]
              refine yc_raise (ya_bin os o) q (by omega) hq hn (sm cd rfl) (fun g' m' pw' ft' fa' fr hs => ?_)
              obtain ⟨i1, i2⟩ := frm g' ft' cd rfl fr hs
              exact p252 g' ft' fa' m' pw' i1 i2
            · exact br_f cf (p252 g ft fa m pw inv pl)
          · exact br_f cd (p252 g ft fa m pw inv pl)
        · refine br_f (ne 9 (by decide) c9) ?_
          by_cases c10 : kd i = 10
          · refine br_t (by rw [c10]; rfl) ?_
            have heo : ya_eo (kd i) = true := by rw [c10]; rfl
            unfold wY_pass_214
            have p252 : wY_pass_252 post (wY_pass_16 post (r + 1)) 0 x2 (nI i) (nI (kd i)) (nI cnt) f_place (nI o) (nI (ya_bin os o + 1)) (ft) (fa) f_dry (m) (fi_m g) a_there a_kind a_num (ao) (aa) (pw) a_table := by
              unfold wY_pass_252
              by_cases cd : f_dry = 0
              · refine br_t cd ?_
                by_cases cf : ft = 0
                · refine br_t cf (br_t (by rw [c10]; rfl) ?_)
                  subst cf
                  rw [fi_t1]
                  refine yc_slope (ya_bin os o) (by omega) (sm cd rfl) (fun g' m' pw' ft' fa' fr _ hs => ?_)
                  obtain ⟨i1, i2⟩ := frm g' ft' cd rfl fr (fun e => by
                    rcases hs with ⟨a, _, _⟩ | ⟨_, a, _⟩
                    · exact a
                    · rw [a] at e; exact absurd e (by decide))
                  exact nm_r (nI_1 i) (next g' ft' fa' _ pw' heo (by omega) i1 i2)
                · exact br_f cf (nm_r (nI_1 i) (next g ft fa m pw heo (by omega) inv pl))
              · exact br_f cd (nm_r (nI_1 i) (next g ft fa m pw heo (by omega) inv pl))
            have n9 : ¬ nI (kd i) = 9 := ne 9 (by decide) c9
            exact br_c (fun _ => br_c (fun _ => br_f n9 p252) (fun _ => p252)) (fun _ => p252)
          · refine br_f (ne 10 (by decide) c10) ?_
            by_cases c5 : 5 ≤ kd i
            · refine br_f (nI_ge (a := 4) (by omega) (by omega)) ?_
              have hset : ya_set (kd i) := by unfold ya_set; omega
              have heo : ya_eo (kd i) = false := by
                show (decide (kd i ≤ 2) || decide (kd i = 4) || decide (kd i = 9) || decide (kd i = 10)) = false
                rw [decide_eq_false (show ¬ kd i ≤ 2 by omega), decide_eq_false c4, decide_eq_false c9, decide_eq_false c10]; rfl
              have p317 : ∀ l, 1 ≤ l → l < 10 → wY_pass_317 post (wY_pass_16 post (r + 1)) (nI i) (nI (kd i)) (nI l) (nI cnt) f_place (nI o) (nI (ya_bin os o + 1)) (ft) (fa) f_dry (m) (fi_m g) a_there a_kind a_num (ao) (aa) (pw) a_table := by
                intro l hl hl2
                unfold wY_pass_317
                refine ⟨o + 1, yc_down (os := os) l hl hl2 rfl o g g0 m pw ft fa (by omega) hos (by omega) inv pl (fun o' g' m' pw' ft' fa' h1 h2 h3 h4 h5 h6 => ?_)⟩
                refine yc_push o' (by omega) (nm_r (nI_1 i) ?_)
                have hb2 := ya_pu_b os o' (kd i) o' (Nat.le_refl _)
                refine ih (i + 1) true false 1 0 (ya_pu os o' (kd i)) (o' + 1) (ya_bin os o' + 1) g' ft' fa' m' pw' _ _ (by omega) ?_ rfl (fun _ => ⟨fun _ => rfl, fun _ => rfl⟩) (by omega) (ya_pu_os (fun j hj => hos j (by omega)) hset) ?_ h5 h6
                · rw [← hres, ya_sc_t (by show (decide (5 ≤ kd i) || _) = true; rw [decide_eq_true c5]; rfl), heo, if_neg (by omega), if_neg c4, ya_dep_n (by rw [ya_pu_o]; omega), hb2.2, h3, decide_eq_false (show ¬ kd i = 3 by omega)]; rfl
                · rw [ya_bin_1 (by rw [ya_pu_o]; omega) (by rw [ya_pu_o]; omega), hb2.1]; rfl
              by_cases c11 : kd i = 11
              · exact br_t (by rw [c11]; rfl) (p317 4 (by omega) (by omega))
              · refine br_f (ne 11 (by decide) c11) ?_
                by_cases c6 : kd i ≤ 6
                · exact br_t (nI_le (b := 6) c6 (by decide)) (p317 1 (by omega) (by omega))
                · exact br_f (nI_ge (a := 6) (by omega) (by omega)) (p317 3 (by omega) (by omega))
            · refine br_t (nI_le (b := 4) (by omega) (by decide)) (stop ?_ g _ _ _ _ _ _ _ _ pl)
              show (decide (5 ≤ kd i) || (decide (kd i = 4) && decide (0 < ya_dep os o))) = false
              rw [decide_eq_false c5, decide_eq_false c4]; rfl
end
end
section
/-! The reference's evaluate, store, clear and questions end; the places stay small -/
def ya_9 (g : Nat → Fin 5) : Prop := ∀ s, 52 ≤ s → s < 66 → pf_ln (fi_s g s) 9
theorem ya_9_pl {g g' : Nat → Fin 5} (h : ya_9 g) (p : ya_pl g g') : ya_9 g' := fun s a b => by rw [p s a b]; exact h s a b
section
variable {f_count f_place f_opens f_top f_fault f_faultAt f_dry f_found : Int32} {a_c a_there a_kind a_num a_open a_openAt a_power a_table : Nat → Int32}
theorem yc_pass {post : Int32 → SY → Prop} {kd : Nat → Nat} {cnt : Nat} {g : Nat → Fin 5} (hc : cnt ≤ 24) (tk : ya_tk a_kind a_num cnt kd) (pl9 : ya_9 g)
    (H : ∀ (g' : Nat → Fin 5) (ops tp ft fa m : Int32) (pw ao aa : Nat → Int32), ya_pl g g' → (ya_sc kd cnt 0 0 true true = none → ya_in f_dry ft 1 g') → post (ya_r (ya_sc kd cnt 0 0 true true)) (nI cnt, f_place, ops, tp, ft, fa, f_dry, m, fi_m g', a_there, a_kind, a_num, ao, aa, pw, a_table)) :
    wpY_pass post (nI cnt, f_place, f_opens, f_top, f_fault, f_faultAt, f_dry, f_found, fi_m g, a_there, a_kind, a_num, a_open, a_openAt, a_power, a_table) := by
  unfold wpY_pass
  exact ⟨cnt + 1, yc_pass16 (g0 := g) hc tk pl9 H cnt 0 true true 1 1 (fun _ => 0) 0 0 g f_fault f_faultAt f_found a_power a_open a_openAt (by omega) rfl rfl (fun _ => ⟨fun z => absurd z (by decide), fun z => nomatch z⟩) (Nat.le_refl _) (fun j hj => by omega) rfl (fun _ _ s hs => by omega) (ya_pl_r g)⟩
theorem yc_evaluate {post : Int32 → SY → Prop} {kd : Nat → Nat} {cnt : Nat} {g : Nat → Fin 5} (hc : cnt ≤ 24) (tk : ya_tk a_kind a_num cnt kd) (pl9 : ya_9 g)
    (h : ∀ (r : Int32) (g' : Nat → Fin 5) (f_place f_opens f_top f_fault f_faultAt f_dry f_found : Int32) (a_there a_open a_openAt a_power : Nat → Int32), ya_9 g' → post r (nI cnt, f_place, f_opens, f_top, f_fault, f_faultAt, f_dry, f_found, fi_m g', a_there, a_kind, a_num, a_open, a_openAt, a_power, a_table)) :
    wpY_evaluate post (nI cnt, f_place, f_opens, f_top, f_fault, f_faultAt, f_dry, f_found, fi_m g, a_there, a_kind, a_num, a_open, a_openAt, a_power, a_table) := by
  unfold wpY_evaluate
  refine nm_e (yc_pass hc tk pl9 (fun g1 ops tp ft fa m pw ao aa p1 _ => ?_))
  generalize er : ya_sc kd cnt 0 0 true true = res
  cases res with
  | some p =>
    have hp : ¬ ya_r (some p) < 0 ∨ ya_r (some p) < 0 := by
      by_cases c : ya_r (some p) < 0
      · exact Or.inr c
      · exact Or.inl c
    rcases hp with c | c
    · exact br_f c (h _ _ _ _ _ _ _ _ _ _ _ _ _ (ya_9_pl pl9 p1))
    · refine br_t c (yc_pass hc tk (ya_9_pl pl9 p1) (fun g2 ops tp ft fa m pw ao aa p2 hin => ?_))
      exfalso
      have hq : ∀ r i dp op sg p, ya_sc kd r i dp op sg = some p → p ≤ i + r := by
        intro r
        induction r with
        | zero =>
          intro i dp op sg p e
          have e2 : (if op || decide (0 < dp) then some i else none) = some p := e
          by_cases c2 : (op || decide (0 < dp)) = true
          · rw [if_pos c2] at e2; injection e2 with e3; omega
          · rw [if_neg c2] at e2; exact nomatch e2
        | succ r ih =>
          intro i dp op sg p e
          by_cases c2 : ya_fit (kd i) dp op sg = true
          · rw [ya_sc_t c2] at e
            have := ih _ _ _ _ _ e
            omega
          · rw [ya_sc_f (by simpa using c2)] at e; injection e with e3; omega
      have := hq _ _ _ _ _ _ er
      exact nI_pos (n := p) (by omega) c
  | none =>
    refine br_t (by decide) (yc_pass hc tk (ya_9_pl pl9 p1) (fun g2 ops tp ft fa m pw ao aa p2 hin => ?_))
    have i1 := hin er
    by_cases c : ft = 0
    · subst c
      refine br_t rfl ?_
      refine yc_copy 0 64 (by omega) (by omega) ?_
      refine yc_copy 1 65 (by omega) (by omega) (nm_e (h _ _ _ _ _ _ _ _ _ _ _ _ _ ?_))
      intro s a b
      by_cases c1 : s = 65
      · subst c1
        rw [fi_sp (fi_s_ln _ _), fi_sq (by omega)]; exact i1 rfl rfl 1 (by omega)
      · rw [fi_sq c1]
        by_cases c2 : s = 64
        · subst c2
          rw [fi_sp (fi_s_ln _ _)]; exact i1 rfl rfl 0 (by omega)
        · rw [fi_sq c2]; exact ya_9_pl (ya_9_pl pl9 p1) p2 s a b
    · exact br_f c (h _ _ _ _ _ _ _ _ _ _ _ _ _ (ya_9_pl (ya_9_pl pl9 p1) p2))
theorem yc_store {post : Int32 → SY → Prop} {g : Nat → Fin 5} {x : Int32} (pl9 : ya_9 g) (h : ∀ (r : Int32) (g' : Nat → Fin 5) (a_there : Nat → Int32), ya_9 g' → post r (f_count, f_place, f_opens, f_top, f_fault, f_faultAt, f_dry, f_found, fi_m g', a_there, a_kind, a_num, a_open, a_openAt, a_power, a_table)) : wpY_store post (f_count, f_place, f_opens, f_top, f_fault, f_faultAt, f_dry, f_found, fi_m g, a_there, a_kind, a_num, a_open, a_openAt, a_power, a_table) x := by
  unfold wpY_store
  by_cases c0 : x < 0
  · exact br_t c0 (h _ _ _ pl9)
  · by_cases c5 : 5 < x
    · exact br_f c0 (br_t c5 (h _ _ _ pl9))
    · obtain ⟨n, hn, rfl⟩ := nI_of c0
      have hn5 : n ≤ 5 := (nI_leI (b := 5) hn (by decide)).mp (Int32.not_lt.mp c5)
      have e52 : (52 : Int32) + 2 * nI n = nI (52 + 2 * n) := by rw [fi_2]; exact nI_add 52 (2 * n)
      have e53 : (53 : Int32) + 2 * nI n = nI (53 + 2 * n) := by rw [fi_2]; exact nI_add 53 (2 * n)
      refine br_f c0 (br_f c5 (br_c (fun _ => h _ _ _ pl9) (fun _ => ?_)))
      refine yc_copy 64 (52 + 2 * n) (by omega) (by omega) ?_ rfl e52
      refine yc_copy 65 (53 + 2 * n) (by omega) (by omega) ⟨vp_in_nI (by omega) (by omega), nm_e (h _ _ _ ?_)⟩ rfl e53
      intro s a b
      by_cases c1 : s = 53 + 2 * n
      · subst c1
        rw [fi_sp (fi_s_ln _ _), fi_sq (by omega)]; exact pl9 65 (by omega) (by omega)
      · rw [fi_sq c1]
        by_cases c2 : s = 52 + 2 * n
        · subst c2
          rw [fi_sp (fi_s_ln _ _)]; exact pl9 64 (by omega) (by omega)
        · rw [fi_sq c2]; exact pl9 s a b
theorem yc_clear {post : Int32 → SY → Prop} {x : Int32} (h : ∀ (r : Int32) (a_there : Nat → Int32), post r (f_count, f_place, f_opens, f_top, f_fault, f_faultAt, f_dry, f_found, a_c, a_there, a_kind, a_num, a_open, a_openAt, a_power, a_table)) : wpY_clear post (f_count, f_place, f_opens, f_top, f_fault, f_faultAt, f_dry, f_found, a_c, a_there, a_kind, a_num, a_open, a_openAt, a_power, a_table) x := by
  unfold wpY_clear
  by_cases c0 : x < 0
  · exact br_t c0 (h _ _)
  · by_cases c5 : 5 < x
    · exact br_f c0 (br_t c5 (h _ _))
    · obtain ⟨n, hn, rfl⟩ := nI_of c0
      have hn5 : n ≤ 5 := (nI_leI (b := 5) hn (by decide)).mp (Int32.not_lt.mp c5)
      have i7 : vp_in (nI n) 7 := vp_in_nI (by omega) (by omega)
      exact br_f c0 (br_f c5 ⟨i7, br_c (fun _ => h _ _) (fun _ => ⟨i7, nm_e (h _ _)⟩)⟩)
theorem yc_has {post : Int32 → Prop} {x : Int32} (h0 : post 0) (h1 : ∀ a, a < 7 → x = nI a → post 1) : wpY_has post (f_count, f_place, f_opens, f_top, f_fault, f_faultAt, f_dry, f_found, a_c, a_there, a_kind, a_num, a_open, a_openAt, a_power, a_table) x := by
  unfold wpY_has
  by_cases c0 : x < 0
  · exact br_t c0 h0
  · by_cases c7 : 7 ≤ x
    · exact br_f c0 (br_t c7 h0)
    · obtain ⟨k, hk, rfl⟩ := nI_of c0
      have hk7 : k < 7 := by
        by_cases c : k < 7
        · exact c
        · exact absurd (nI_le (a := 7) (by omega) hk) c7
      exact br_f c0 (br_f c7 ⟨vp_in_nI hk7 (by omega), br_c (fun _ => h0) (fun _ => h1 k hk7 rfl)⟩)
theorem yc_part {post : Int32 → Prop} {x y : Int32} (h0 : post (-1)) (h1 : ∀ a p, a < 7 → p < 2 → x = nI a → y = nI p → post (nI (52 + 2 * a + p))) : wpY_part post (f_count, f_place, f_opens, f_top, f_fault, f_faultAt, f_dry, f_found, a_c, a_there, a_kind, a_num, a_open, a_openAt, a_power, a_table) x y := by
  unfold wpY_part
  refine yc_has (br_t rfl h0) (fun a ha e => br_f (by decide) ?_)
  subst e
  by_cases c0 : y < 0
  · exact br_t c0 h0
  · by_cases c1 : y ≤ 1
    · obtain ⟨p, hp, rfl⟩ := nI_of c0
      have hp1 : p ≤ 1 := (nI_leI (b := 1) hp (by decide)).mp c1
      have e52 : (52 : Int32) + 2 * nI a + nI p = nI (52 + 2 * a + p) := by
        rw [fi_2]
        have e : (52 : Int32) + nI (2 * a) = nI (52 + 2 * a) := nI_add 52 (2 * a)
        rw [e, nI_add]
      refine br_f c0 (br_t c1 ?_)
      rw [e52]
      exact h1 a p ha (by omega) rfl rfl
    · exact br_f c0 (br_f c1 h0)
theorem yc_degree {post : Int32 → Prop} {g : Nat → Fin 5} {x y : Int32} (h : ∀ r : Int32, post r) : wpY_degree post (f_count, f_place, f_opens, f_top, f_fault, f_faultAt, f_dry, f_found, fi_m g, a_there, a_kind, a_num, a_open, a_openAt, a_power, a_table) x y := by
  unfold wpY_degree
  exact yc_part (br_f (by decide) (h _)) (fun a p ha hp _ _ => br_t (nI_pos' (by omega)) (yc_deg (52 + 2 * a + p) (by omega) (fun _ => h _) (fun _ _ _ => h _)))
theorem yc_number {post : Int32 → Prop} {x y z : Int32} (h : ∀ r : Int32, post r) : wpY_number post (f_count, f_place, f_opens, f_top, f_fault, f_faultAt, f_dry, f_found, a_c, a_there, a_kind, a_num, a_open, a_openAt, a_power, a_table) x y z := by
  unfold wpY_number
  refine yc_part (br_t (by decide) (h _)) (fun a p ha hp _ _ => br_f (nI_pos (by omega)) ?_)
  by_cases c0 : z < 0
  · exact br_t c0 (h _)
  · by_cases c8 : z ≤ 8
    · obtain ⟨k, hk, rfl⟩ := nI_of c0
      have hk8 : k ≤ 8 := (nI_leI (b := 8) hk (by decide)).mp c8
      exact br_f c0 (br_t c8 ⟨pk_in (20 * (52 + 2 * a + p) + k) 1800 (by omega) (fi_ix _ _), h _⟩)
    · exact br_f c0 (br_f c8 (h _))
theorem yc_value {post : Int32 → Prop} {g : Nat → Fin 5} {x y : Int32} (h : ∀ r : Int32, post r) : wpY_value post (f_count, f_place, f_opens, f_top, f_fault, f_faultAt, f_dry, f_found, fi_m g, a_there, a_kind, a_num, a_open, a_openAt, a_power, a_table) x y := by
  unfold wpY_value
  refine yc_has (br_t rfl (h _)) (fun a ha e => br_f (by decide) ?_)
  subst e
  have e52 : (52 : Int32) + 2 * nI a = nI (52 + 2 * a) := by rw [fi_2]; exact nI_add 52 (2 * a)
  have e53 : (53 : Int32) + 2 * nI a = nI (53 + 2 * a) := by rw [fi_2]; exact nI_add 53 (2 * a)
  refine yc_mod rfl (yc_valueOf (52 + 2 * a) _ (by omega) (yc_valueOf (53 + 2 * a) _ (by omega) (br_c (fun _ => h _) (fun _ => yc_inv (yc_mod rfl (h _)))) e53) e52)
theorem yc_factors {post : Int32 → SY → Prop} {g : Nat → Fin 5} {x y : Int32} (pl9 : ya_9 g) (h0 : post (-1) (f_count, f_place, f_opens, f_top, f_fault, f_faultAt, f_dry, f_found, fi_m g, a_there, a_kind, a_num, a_open, a_openAt, a_power, a_table))
    (h1 : ∀ (a p m : Nat) (g' : Nat → Fin 5) (pw : Nat → Int32), a < 7 → p < 2 → x = nI a → y = nI p → m ≤ 8 → ys_fr g g' → fi_s g (52 + 2 * a + p) ≠ pf_c 0 → ys_ok g' (fi_s g (52 + 2 * a + p)) m pw → post (nI m) (f_count, f_place, f_opens, f_top, f_fault, f_faultAt, f_dry, nI m, fi_m g', a_there, a_kind, a_num, a_open, a_openAt, pw, a_table)) :
    wpY_factors post (f_count, f_place, f_opens, f_top, f_fault, f_faultAt, f_dry, f_found, fi_m g, a_there, a_kind, a_num, a_open, a_openAt, a_power, a_table) x y := by
  unfold wpY_factors
  refine yc_part (br_t (by decide) h0) (fun a p ha hp ex ey => br_f (nI_pos (by omega)) ?_)
  refine yc_deg (52 + 2 * a + p) (by omega) (fun _ => br_f (by decide) h0) (fun d hd hD => br_t (nI_pos' (by omega)) ?_)
  exact yc_split (52 + 2 * a + p) (by omega) (by omega) (pl9 _ (by omega) (by omega)) (fun g' m pw hm fr ok => h1 a p m g' pw ha hp ex ey hm fr (pf_hd_n0 hD) ok)
theorem ya_9_fr {g g' : Nat → Fin 5} (h : ya_9 g) (f : ys_fr g g') : ya_9 g' := fun s a b => by rw [f s (by omega)]; exact h s a b
theorem yc_factorDegree {post : Int32 → SY → Prop} {g : Nat → Fin 5} {x y z : Int32} (pl9 : ya_9 g) (h : ∀ (r : Int32) (g' : Nat → Fin 5) (f_found : Int32) (a_power : Nat → Int32), ya_9 g' → post r (f_count, f_place, f_opens, f_top, f_fault, f_faultAt, f_dry, f_found, fi_m g', a_there, a_kind, a_num, a_open, a_openAt, a_power, a_table)) : wpY_factorDegree post (f_count, f_place, f_opens, f_top, f_fault, f_faultAt, f_dry, f_found, fi_m g, a_there, a_kind, a_num, a_open, a_openAt, a_power, a_table) x y z := by
  unfold wpY_factorDegree
  by_cases c0 : z < 0
  · exact yc_factors pl9 (br_t c0 (h _ _ _ _ pl9)) (fun a p m g' pw _ _ _ _ hm fr _ _ => br_t c0 (h _ _ _ _ (ya_9_fr pl9 fr)))
  · obtain ⟨i, hi, rfl⟩ := nI_of c0
    refine yc_factors pl9 (br_f c0 (br_f ?_ (h _ _ _ _ pl9))) (fun a p m g' pw _ _ _ _ hm fr _ _ => br_f c0 ?_)
    · have := fi_nm1 hi
      rw [Int32.not_lt]; exact Int32.le_of_lt this
    · by_cases c : i < m
      · exact br_t (nI_lt c (by omega)) (yc_deg (72 + i) (by omega) (fun _ => h _ _ _ _ (ya_9_fr pl9 fr)) (fun _ _ _ => h _ _ _ _ (ya_9_fr pl9 fr)) (fi_72 i))
      · exact br_f (nI_nlt (by omega) (by omega)) (h _ _ _ _ (ya_9_fr pl9 fr))
theorem yc_power {post : Int32 → SY → Prop} {g : Nat → Fin 5} {x y z : Int32} (pl9 : ya_9 g) (h : ∀ (r : Int32) (g' : Nat → Fin 5) (f_found : Int32) (a_power : Nat → Int32), ya_9 g' → post r (f_count, f_place, f_opens, f_top, f_fault, f_faultAt, f_dry, f_found, fi_m g', a_there, a_kind, a_num, a_open, a_openAt, a_power, a_table)) : wpY_power post (f_count, f_place, f_opens, f_top, f_fault, f_faultAt, f_dry, f_found, fi_m g, a_there, a_kind, a_num, a_open, a_openAt, a_power, a_table) x y z := by
  unfold wpY_power
  by_cases c0 : z < 0
  · exact yc_factors pl9 (br_t c0 (h _ _ _ _ pl9)) (fun a p m g' pw _ _ _ _ hm fr _ _ => br_t c0 (h _ _ _ _ (ya_9_fr pl9 fr)))
  · obtain ⟨i, hi, rfl⟩ := nI_of c0
    refine yc_factors pl9 (br_f c0 (br_f ?_ (h _ _ _ _ pl9))) (fun a p m g' pw _ _ _ _ hm fr _ _ => br_f c0 ?_)
    · have := fi_nm1 hi
      rw [Int32.not_lt]; exact Int32.le_of_lt this
    · by_cases c : i < m
      · exact br_t (nI_lt c (by omega)) ⟨vp_in_nI (by omega) (by omega), h _ _ _ _ (ya_9_fr pl9 fr)⟩
      · exact br_f (nI_nlt (by omega) (by omega)) (h _ _ _ _ (ya_9_fr pl9 fr))
theorem yc_factor {post : Int32 → SY → Prop} {g : Nat → Fin 5} {x y z w : Int32} (pl9 : ya_9 g) (h : ∀ (r : Int32) (g' : Nat → Fin 5) (f_found : Int32) (a_power : Nat → Int32), ya_9 g' → post r (f_count, f_place, f_opens, f_top, f_fault, f_faultAt, f_dry, f_found, fi_m g', a_there, a_kind, a_num, a_open, a_openAt, a_power, a_table)) : wpY_factor post (f_count, f_place, f_opens, f_top, f_fault, f_faultAt, f_dry, f_found, fi_m g, a_there, a_kind, a_num, a_open, a_openAt, a_power, a_table) x y z w := by
  unfold wpY_factor
  by_cases c0 : z < 0
  · exact yc_factors pl9 (br_t c0 (h _ _ _ _ pl9)) (fun a p m g' pw _ _ _ _ hm fr _ _ => br_t c0 (h _ _ _ _ (ya_9_fr pl9 fr)))
  · obtain ⟨i, hi, rfl⟩ := nI_of c0
    refine yc_factors pl9 (br_f c0 (br_t ?_ (h _ _ _ _ pl9))) (fun a p m g' pw _ _ _ _ hm fr _ _ => br_f c0 ?_)
    · exact Int32.le_of_lt (fi_nm1 hi)
    · by_cases c : i < m
      · refine br_f (nI_ge c (by omega)) ?_
        by_cases d0 : w < 0
        · exact br_t d0 (h _ _ _ _ (ya_9_fr pl9 fr))
        · by_cases d8 : w ≤ 8
          · obtain ⟨k, hk, rfl⟩ := nI_of d0
            have hk8 : k ≤ 8 := (nI_leI (b := 8) hk (by decide)).mp d8
            exact br_f d0 (br_t d8 ⟨pk_in (20 * (72 + i) + k) 1800 (by omega) (by rw [fi_72, fi_ix]), h _ _ _ _ (ya_9_fr pl9 fr)⟩)
          · exact br_f d0 (br_f d8 (h _ _ _ _ (ya_9_fr pl9 fr)))
      · exact br_t (nI_le (by omega) hi) (h _ _ _ _ (ya_9_fr pl9 fr))
end
end
section
/-! The reference's elimination ends where the system has no kernel -/
theorem fi_9 (r c : Nat) : (9 : Int32) * nI r + nI c = nI (9 * r + c) := by
  show nI 9 * nI r + nI c = _
  rw [pk_mul, nI_add]
theorem fi_i9 {r c : Nat} (hr : r < 9) (hc : c < 9) : vp_in ((9 : Int32) * nI r + nI c) 90 := pk_in (9 * r + c) 90 (by omega) (fi_9 r c)
theorem fi_r9 {T : Nat → Fin 5} {r c : Nat} (hr : r < 9) (hc : c < 9) : fi_m T ((9 : Int32) * nI r + nI c).toNatClampNeg = fi_I (T (9 * r + c)) := by
  rw [fi_9, nI_clamp (by omega)]; rfl
def fi_sw (T : Nat → Fin 5) (p r k : Nat) : Nat → Fin 5 := fun x => if 9 * p ≤ x ∧ x < 9 * p + k then T (9 * r + (x - 9 * p)) else if 9 * r ≤ x ∧ x < 9 * r + k then T (9 * p + (x - 9 * r)) else T x
theorem fi_sw0 (T : Nat → Fin 5) (p r : Nat) : fi_sw T p r 0 = T := by
  funext x
  show (if 9 * p ≤ x ∧ x < 9 * p + 0 then T (9 * r + (x - 9 * p)) else if 9 * r ≤ x ∧ x < 9 * r + 0 then T (9 * p + (x - 9 * r)) else T x) = T x
  rw [if_neg (by omega), if_neg (by omega)]
theorem fi_sws (T : Nat → Fin 5) {p r k : Nat} (hk : k < 9) : fi_u (fi_u (fi_sw T p r k) (9 * p + k) (fi_sw T p r k (9 * r + k))) (9 * r + k) (fi_sw T p r k (9 * p + k)) = fi_sw T p r (k + 1) := by
  have e1 : fi_sw T p r k (9 * r + k) = T (9 * r + k) := by
    show (if 9 * p ≤ 9 * r + k ∧ 9 * r + k < 9 * p + k then T (9 * r + (9 * r + k - 9 * p)) else if 9 * r ≤ 9 * r + k ∧ 9 * r + k < 9 * r + k then T (9 * p + (9 * r + k - 9 * r)) else T (9 * r + k)) = _
    rw [if_neg (by omega), if_neg (by omega)]
  have e2 : fi_sw T p r k (9 * p + k) = T (9 * p + k) := by
    show (if 9 * p ≤ 9 * p + k ∧ 9 * p + k < 9 * p + k then T (9 * r + (9 * p + k - 9 * p)) else if 9 * r ≤ 9 * p + k ∧ 9 * p + k < 9 * r + k then T (9 * p + (9 * p + k - 9 * r)) else T (9 * p + k)) = _
    rw [if_neg (by omega), if_neg (by omega)]
  rw [e1, e2]
  funext x
  show (if x = 9 * r + k then T (9 * p + k) else if x = 9 * p + k then T (9 * r + k) else fi_sw T p r k x) = (if 9 * p ≤ x ∧ x < 9 * p + (k + 1) then T (9 * r + (x - 9 * p)) else if 9 * r ≤ x ∧ x < 9 * r + (k + 1) then T (9 * p + (x - 9 * r)) else T x)
  by_cases c1 : x = 9 * r + k
  · rw [if_pos c1]
    by_cases c3 : p = r
    · subst c3
      rw [if_pos (by omega)]; congr 1; omega
    · rw [if_neg (by omega), if_pos (by omega)]; congr 1; omega
  · rw [if_neg c1]
    by_cases c2 : x = 9 * p + k
    · rw [if_pos c2, if_pos (by omega)]; congr 1; omega
    · rw [if_neg c2]
      show (if 9 * p ≤ x ∧ x < 9 * p + k then T (9 * r + (x - 9 * p)) else if 9 * r ≤ x ∧ x < 9 * r + k then T (9 * p + (x - 9 * r)) else T x) = _
      by_cases c4 : 9 * p ≤ x ∧ x < 9 * p + k
      · rw [if_pos c4, if_pos (by omega)]
      · rw [if_neg c4, if_neg (show ¬ (9 * p ≤ x ∧ x < 9 * p + (k + 1)) by omega)]
        by_cases c5 : 9 * r ≤ x ∧ x < 9 * r + k
        · rw [if_pos c5, if_pos (by omega)]
        · rw [if_neg c5, if_neg (by omega)]
theorem fi_sw_p {T : Nat → Fin 5} {p r n c : Nat} (hc : c < n) : fi_sw T p r n (9 * p + c) = T (9 * r + c) := by
  show (if 9 * p ≤ 9 * p + c ∧ 9 * p + c < 9 * p + n then T (9 * r + (9 * p + c - 9 * p)) else _) = _
  rw [if_pos (by omega)]; congr 1; omega
theorem fi_sw_r {T : Nat → Fin 5} {p r n c : Nat} (hc : c < n) (hn : n ≤ 9) : fi_sw T p r n (9 * r + c) = T (9 * p + c) := by
  by_cases e : p = r
  · subst e; exact fi_sw_p hc
  · show (if 9 * p ≤ 9 * r + c ∧ 9 * r + c < 9 * p + n then _ else if 9 * r ≤ 9 * r + c ∧ 9 * r + c < 9 * r + n then T (9 * p + (9 * r + c - 9 * r)) else _) = _
    rw [if_neg (by omega), if_pos (by omega)]; congr 1; omega
theorem fi_sw_o {T : Nat → Fin 5} {p r n i c : Nat} (hc : c < n) (hn : n ≤ 9) (h1 : i ≠ p) (h2 : i ≠ r) : fi_sw T p r n (9 * i + c) = T (9 * i + c) := by
  show (if 9 * p ≤ 9 * i + c ∧ 9 * i + c < 9 * p + n then _ else if 9 * r ≤ 9 * i + c ∧ 9 * i + c < 9 * r + n then _ else T (9 * i + c)) = _
  rw [if_neg (by omega), if_neg (by omega)]
section
variable {f_count f_place f_opens f_top f_fault f_faultAt f_dry f_found : Int32} {a_c a_there a_kind a_num a_open a_openAt a_power a_table : Nat → Int32}
theorem yc_clearRow {post : SY → Prop} {T : Nat → Fin 5} (q r n : Nat) (hq : q < 9) (hr : r < 9) (hqr : q ≠ r) (hn : n ≤ 8)
    (h : post (f_count, f_place, f_opens, f_top, f_fault, f_faultAt, f_dry, f_found, a_c, a_there, a_kind, a_num, a_open, a_openAt, a_power, fi_m (fi_w T (9 * q) (fun k => T (9 * q + k) - T (9 * q + r) * T (9 * r + k)) (n + 1)))) : wpY_clearRow post (f_count, f_place, f_opens, f_top, f_fault, f_faultAt, f_dry, f_found, a_c, a_there, a_kind, a_num, a_open, a_openAt, a_power, fi_m T) (nI q) (nI r) (nI n) := by
  have key : ∀ d j, j + d = n + 1 → wY_clearRow_16 post (nI q) (nI r) (nI n) (fi_I (T (9 * q + r))) f_count f_place f_opens f_top f_fault f_faultAt f_dry f_found (d + 1) (nI j) a_c a_there a_kind a_num a_open a_openAt a_power (fi_m (fi_w T (9 * q) (fun k => T (9 * q + k) - T (9 * q + r) * T (9 * r + k)) j)) := by
    intro d
    induction d with
    | zero =>
      intro j hj
      obtain rfl : j = n + 1 := by omega
      exact br_t (nI_lt (by omega) (by omega)) h
    | succ d ih =>
      intro j hj
      refine br_f (nI_nlt (by omega) (by omega)) ⟨fi_i9 hq (by omega), fi_i9 hr (by omega), yc_mod (x := T (9 * q + j) - T (9 * q + r) * T (9 * r + j)) ?_ ⟨fi_i9 hq (by omega), nm_r ?_ (nm_r (nI_1 j) (ih (j + 1) (by omega)))⟩⟩
      · rw [fi_r9 hq (by omega), fi_r9 hr (by omega), fi_w_out (by omega), fi_w_out (by omega), fi_ms]
      · rw [← fi_w_s, fi_9, nI_clamp (by omega)]
  unfold wpY_clearRow
  refine ⟨fi_i9 hq hr, nm_r (fi_r9 hq hr) ?_⟩
  have t := key (n + 1) 0 (by omega)
  rw [fi_w_0] at t
  exact ⟨n + 2, t⟩
/-- the columns before r are those of the unit matrix -/
def ya_un (T : Nat → Fin 5) (n r : Nat) : Prop := ∀ c, c < r → ∀ i, i < n → T (9 * i + c) = if i = c then 1 else 0
theorem yc_solve160 {post : SY → Prop} {n r : Nat} (hn : n ≤ 8) (hr : r < n)
    (J : Int32 → Int32 → Int32 → Int32 → Int32 → Int32 → Int32 → Int32 → Int32 → (Nat → Int32) → (Nat → Int32) → (Nat → Int32) → (Nat → Int32) → (Nat → Int32) → (Nat → Int32) → (Nat → Int32) → (Nat → Int32) → Prop)
    (hJ : ∀ T : Nat → Fin 5, pf_inj (fun i c => T (9 * i + c)) n → ya_un T n (r + 1) → J (nI (r + 1)) f_count f_place f_opens f_top f_fault f_faultAt f_dry f_found a_c a_there a_kind a_num a_open a_openAt a_power (fi_m T)) :
    ∀ d q, ∀ T : Nat → Fin 5, q + d = n → pf_inj (fun i c => T (9 * i + c)) n → ya_un T n r → T (9 * r + r) = 1 → (∀ i, i < q → i ≠ r → T (9 * i + r) = 0) → wY_solve_160 post J (nI n) (nI r) (d + 1) (nI q) f_count f_place f_opens f_top f_fault f_faultAt f_dry f_found a_c a_there a_kind a_num a_open a_openAt a_power (fi_m T) := by
  intro d
  induction d with
  | zero =>
    intro q T hq inj un p1 cl
    obtain rfl : q = n := by omega
    refine br_t (nI_le (Nat.le_refl _) (by omega)) (nm_r (nI_1 r) (hJ T inj ?_))
    intro c hc i hi
    by_cases e : c = r
    · subst e
      by_cases e2 : i = c
      · rw [e2, p1, if_pos rfl]
      · rw [cl i hi e2, if_neg e2]
    · exact un c (by omega) i hi
  | succ d ih =>
    intro q T hq inj un p1 cl
    refine br_f (nI_ge (by omega) (by omega)) ?_
    by_cases e : q = r
    · subst e
      refine br_t rfl (nm_r (nI_1 q) (ih (q + 1) T (by omega) inj un p1 (fun i h1 h2 => cl i (by omega) h2)))
    · refine br_f (fun z => e ((nI_eq (by omega) (by omega)).mp z)) (yc_clearRow q r n (by omega) (by omega) e hn (nm_r (nI_1 q) ?_))
      have hin : ∀ c, c < n + 1 → fi_w T (9 * q) (fun k => T (9 * q + k) - T (9 * q + r) * T (9 * r + k)) (n + 1) (9 * q + c) = T (9 * q + c) - T (9 * q + r) * T (9 * r + c) := fun c hc => fi_w_in hc
      have hout : ∀ i c, i ≠ q → c < 9 → fi_w T (9 * q) (fun k => T (9 * q + k) - T (9 * q + r) * T (9 * r + k)) (n + 1) (9 * i + c) = T (9 * i + c) := fun i c h1 h2 => fi_w_out (by omega)
      refine ih (q + 1) _ (by omega) ?_ ?_ ?_ ?_
      · exact pf_inj_clear (b := T (9 * q + r)) inj (by omega) hr e (fun c hc => hin c (by omega)) (fun i hi hiq c hc => hout i c hiq (by omega))
      · intro c hc i hi
        by_cases e2 : i = q
        · subst e2
          rw [hin c (by omega), un c hc i hi, un c hc r hr, if_neg (show ¬ r = c by omega)]; grind
        · rw [hout i c e2 (by omega)]; exact un c hc i hi
      · rw [hout r r (by omega) (by omega)]; exact p1
      · intro i h1 h2
        by_cases e2 : i = q
        · subst e2; rw [hin r (by omega), p1]; grind
        · rw [hout i r e2 (by omega)]; exact cl i (by omega) h2
theorem yc_solve {post : SY → Prop} {T : Nat → Fin 5} (n : Nat) (hn : n ≤ 8) (inj : pf_inj (fun i c => T (9 * i + c)) n) (h : ∀ T' : Nat → Fin 5, post (f_count, f_place, f_opens, f_top, f_fault, f_faultAt, f_dry, f_found, a_c, a_there, a_kind, a_num, a_open, a_openAt, a_power, fi_m T')) : wpY_solve post (f_count, f_place, f_opens, f_top, f_fault, f_faultAt, f_dry, f_found, a_c, a_there, a_kind, a_num, a_open, a_openAt, a_power, fi_m T) (nI n) := by
  have key : ∀ d r, ∀ T : Nat → Fin 5, r + d = n → pf_inj (fun i c => T (9 * i + c)) n → ya_un T n r → wY_solve_2 post (nI n) (d + 1) (nI r) f_count f_place f_opens f_top f_fault f_faultAt f_dry f_found a_c a_there a_kind a_num a_open a_openAt a_power (fi_m T) := by
    intro d
    induction d with
    | zero =>
      intro r T hr _ _
      exact br_t (nI_le (by omega) (by omega)) (h T)
    | succ d ih =>
      intro r T hr inj un
      refine br_f (nI_ge (by omega) (by omega)) ?_
      obtain ⟨ps, hps1, hps2, hps3⟩ := pf_piv inj (by omega) un
      -- the scaling, from a table whose row r has its pivot
      have sc : ∀ T1 : Nat → Fin 5, pf_inj (fun i c => T1 (9 * i + c)) n → ya_un T1 n r → T1 (9 * r + r) ≠ 0 → ∃ n115 : Nat, wY_solve_115 post (wY_solve_2 post (nI n) (d + 1)) (nI n) (nI r) (fi_I (T1 (9 * r + r) * T1 (9 * r + r) * T1 (9 * r + r))) f_count f_place f_opens f_top f_fault f_faultAt f_dry f_found n115 0 a_c a_there a_kind a_num a_open a_openAt a_power (fi_m T1) := by
        intro T1 inj1 un1 nz
        generalize eb : T1 (9 * r + r) * T1 (9 * r + r) * T1 (9 * r + r) = b
        have bz : b ≠ 0 := by rw [← eb]; exact pf_nz _ _ (pf_nz _ _ nz nz) nz
        have l115 : ∀ m j, j + m = n + 1 → wY_solve_115 post (wY_solve_2 post (nI n) (d + 1)) (nI n) (nI r) (fi_I b) f_count f_place f_opens f_top f_fault f_faultAt f_dry f_found (m + 1) (nI j) a_c a_there a_kind a_num a_open a_openAt a_power (fi_m (fi_w T1 (9 * r) (fun k => T1 (9 * r + k) * b) j)) := by
          intro m
          induction m with
          | zero =>
            intro j hj
            obtain rfl : j = n + 1 := by omega
            have hin : ∀ c, c < n + 1 → fi_w T1 (9 * r) (fun k => T1 (9 * r + k) * b) (n + 1) (9 * r + c) = T1 (9 * r + c) * b := fun c hc => fi_w_in hc
            have hout : ∀ i c, i ≠ r → c < 9 → fi_w T1 (9 * r) (fun k => T1 (9 * r + k) * b) (n + 1) (9 * i + c) = T1 (9 * i + c) := fun i c h1 h2 => fi_w_out (by omega)
            refine br_t (nI_lt (by omega) (by omega)) ⟨n + 1, ?_⟩
            refine yc_solve160 hn (by omega) _ (fun T2 i2 u2 => ih (r + 1) T2 (by omega) i2 u2) n 0 _ (by omega) ?_ ?_ ?_ (fun i hi => by omega)
            · exact pf_inj_scale (b := b) inj1 (by omega) bz (fun c hc => hin c (by omega)) (fun i hi hir c hc => hout i c hir (by omega))
            · intro c hc i hi
              by_cases e : i = r
              · subst e
                rw [hin c (by omega), un1 c hc i hi, if_neg (by omega)]; grind
              · rw [hout i c e (by omega)]; exact un1 c hc i hi
            · rw [hin r (by omega), ← eb]
              have := pf_inv _ nz
              grind
          | succ m ihm =>
            intro j hj
            refine br_f (nI_nlt (by omega) (by omega)) ⟨fi_i9 (by omega) (by omega), yc_mod (x := T1 (9 * r + j) * b) ?_ ⟨fi_i9 (by omega) (by omega), nm_r ?_ (nm_r (nI_1 j) (ihm (j + 1) (by omega)))⟩⟩
            · rw [fi_r9 (by omega) (by omega), fi_w_out (by omega), fi_mm]
            · rw [← fi_w_s, fi_9, nI_clamp (by omega)]
        have t := l115 (n + 1) 0 (by omega)
        rw [fi_w_0] at t
        exact ⟨n + 2, t⟩
      -- the swap with row p
      have swp : ∀ p, r ≤ p → p < n → T (9 * p + r) ≠ 0 → ∃ n32 : Nat, wY_solve_32 post (wY_solve_2 post (nI n) (d + 1)) (nI n) (nI r) (nI p) f_count f_place f_opens f_top f_fault f_faultAt f_dry f_found n32 0 a_c a_there a_kind a_num a_open a_openAt a_power (fi_m T) := by
        intro p hp1 hp2 hp3
        have l32 : ∀ m j, j + m = n + 1 → wY_solve_32 post (wY_solve_2 post (nI n) (d + 1)) (nI n) (nI r) (nI p) f_count f_place f_opens f_top f_fault f_faultAt f_dry f_found (m + 1) (nI j) a_c a_there a_kind a_num a_open a_openAt a_power (fi_m (fi_sw T p r j)) := by
          intro m
          induction m with
          | zero =>
            intro j hj
            obtain rfl : j = n + 1 := by omega
            refine br_t (nI_lt (by omega) (by omega)) ⟨fi_i9 (by omega) (by omega), yc_inv' (fi_r9 (by omega) (by omega)) ?_⟩
            refine sc (fi_sw T p r (n + 1)) ?_ ?_ ?_
            · exact pf_inj_swap inj hp2 (by omega) (fun c hc => fi_sw_p (by omega)) (fun c hc => fi_sw_r (by omega) (by omega)) (fun i hi h1 h2 c hc => fi_sw_o (by omega) (by omega) h1 h2)
            · intro c hc i hi
              by_cases e1 : i = p
              · subst e1
                rw [fi_sw_p (by omega), un c hc r (by omega), if_neg (by omega), if_neg (by omega)]
              · by_cases e2 : i = r
                · subst e2
                  rw [fi_sw_r (by omega) (by omega), un c hc p hp2, if_neg (by omega), if_neg (by omega)]
                · rw [fi_sw_o (by omega) (by omega) e1 e2]; exact un c hc i hi
            · rw [fi_sw_r (by omega) (by omega)]; exact hp3
          | succ m ihm =>
            intro j hj
            refine br_f (nI_nlt (by omega) (by omega)) ⟨fi_i9 (by omega) (by omega), nm_r (fi_r9 (by omega) (by omega)) ⟨fi_i9 (by omega) (by omega), fi_i9 (by omega) (by omega), nm_r (e' := fi_m (fi_u (fi_sw T p r j) (9 * p + j) (fi_sw T p r j (9 * r + j)))) ?_ ⟨fi_i9 (by omega) (by omega), nm_r ?_ (nm_r (nI_1 j) (ihm (j + 1) (by omega)))⟩⟩⟩
            · rw [fi_r9 (by omega) (by omega), fi_9, nI_clamp (by omega), fi_upd]
            · rw [fi_9, nI_clamp (by omega), fi_upd, fi_sws T (by omega)]
        have t := l32 (n + 1) 0 (by omega)
        rw [fi_sw0] at t
        exact ⟨n + 2, t⟩
      have l9 : ∀ m p, p + m = ps → r ≤ p → wY_solve_9 post (wY_solve_2 post (nI n) (d + 1)) (nI n) (nI r) f_count f_place f_opens f_top f_fault f_faultAt f_dry f_found a_c a_there a_kind a_num a_open a_openAt a_power (fi_m T) (m + 1) (nI p) := by
        intro m
        induction m with
        | zero =>
          intro p hp hrp
          obtain rfl : p = ps := by omega
          refine ⟨fi_i9 (by omega) (by omega), br_f ?_ (swp p hrp hps2 hps3)⟩
          rw [fi_r9 (by omega) (by omega)]
          exact fun z => hps3 ((fi_0 _).mp z)
        | succ m ihm =>
          intro p hp hrp
          refine ⟨fi_i9 (by omega) (by omega), ?_⟩
          rw [fi_r9 (by omega) (by omega)]
          by_cases c : T (9 * p + r) = 0
          · exact br_t ((fi_0 _).mpr c) (nm_r (nI_1 p) (ihm (p + 1) (by omega) (by omega)))
          · exact br_f (fun z => c ((fi_0 _).mp z)) (swp p hrp (by omega) c)
      exact ⟨ps - r + 1, l9 (ps - r) r (by omega) (Nat.le_refl _)⟩
  unfold wpY_solve
  exact ⟨n + 1, key n 0 T (by omega) inj (fun c hc => by omega)⟩
end
end
section
/-! The system of partial fractions has no kernel -/
theorem pf_chain {A r : PF} {m N : Nat} {F : Nat → PF} {D n : Nat → Nat} (S : pf_Sp A r m F D n) (hA : pf_hd A N) :
    ∃ q : Nat → Nat → PF, (∀ i, i < m → q i 0 = A) ∧ (∀ i, i < m → ∀ j, j < n i → q i j = pf_mul (F i) (q i (j + 1))) ∧ (∀ i, i < m → ∀ j, j ≤ n i → pf_hd (q i j) (N - j * D i) ∧ j * D i ≤ N) ∧ (∀ i, i < m → pf_cp (F i) (q i (n i))) := by
  obtain ⟨s1, s2, s3, s4, s5, s6, _⟩ := S
  have ex : ∀ i : Nat, ∃ q : PF, i < m → pf_fin q ∧ A = pf_mul q (pf_pow (F i) (n i)) := by
    intro i
    by_cases c : i < m
    · obtain ⟨q, h1, h2⟩ := s5 i c
      exact ⟨q, fun _ => ⟨h1, h2⟩⟩
    · exact ⟨pf_c 0, fun h => absurd h c⟩
  obtain ⟨Q, hQ⟩ := Classical.axiomOfChoice ex
  have h0 : ∀ i, i < m → pf_mul (Q i) (pf_pow (F i) (n i - 0)) = A := fun i hi => by rw [Nat.sub_zero]; exact (hQ i hi).2.symm
  have h1 : ∀ i, i < m → ∀ j, j < n i → pf_mul (Q i) (pf_pow (F i) (n i - j)) = pf_mul (F i) (pf_mul (Q i) (pf_pow (F i) (n i - (j + 1)))) := by
    intro i hi j hj
    have e : n i - j = (n i - (j + 1)) + 1 := by omega
    rw [e]
    show pf_mul (Q i) (pf_mul (pf_pow (F i) (n i - (j + 1))) (F i)) = _
    generalize pf_pow (F i) (n i - (j + 1)) = p
    generalize Q i = u
    generalize F i = f
    letI := pf_ring
    show u * (p * f) = f * (u * p)
    grind
  refine ⟨fun i j => pf_mul (Q i) (pf_pow (F i) (n i - j)), h0, h1, ?_, ?_⟩
  · intro i hi j hj
    have hF := (s1 i hi).1
    have e := pf_q_pow (q := fun j => pf_mul (Q i) (pf_pow (F i) (n i - j))) (h1 i hi) j hj
    have e2 : A = pf_mul (pf_mul (Q i) (pf_pow (F i) (n i - j))) (pf_pow (F i) j) := by
      rw [← h0 i hi]
      have e3 : pf_mul (Q i) (pf_pow (F i) (n i - 0)) = pf_mul (pf_pow (F i) j) (pf_mul (Q i) (pf_pow (F i) (n i - j))) := e
      rw [e3, pf_mul_comm]
    rw [e2] at hA
    exact pf_hd_q (pf_pow_hd hF j) (pf_fin_mul (hQ i hi).1 (pf_fin_pow (pf_hd_fin hF) _)) hA
  · intro i hi
    show pf_cp (F i) (pf_mul (Q i) (pf_pow (F i) (n i - n i)))
    have e : n i - n i = 0 := by omega
    rw [e]
    show pf_cp (F i) (pf_mul (Q i) (pf_c 1))
    rw [pf_mul1]
    apply pf_irr_cp (s1 i hi) (hQ i hi).1
    intro dv
    apply s6 i hi
    obtain ⟨u, fu, eu⟩ := dv
    refine ⟨u, fu, ?_⟩
    rw [(hQ i hi).2, eu]
    show pf_mul (pf_mul u (F i)) (pf_pow (F i) (n i)) = pf_mul u (pf_mul (pf_pow (F i) (n i)) (F i))
    generalize pf_pow (F i) (n i) = p
    generalize F i = f
    letI := pf_ring
    show u * f * p = u * (p * f)
    grind
theorem pf_regroup (h : Nat → Fin 5) (n D : Nat → Nat) (m : Nat) : pf_sm h (pf_ns n D m) = pf_sm (fun i => pf_sm (fun b => h (pf_ns n D i + b)) (n i * D i)) m := by
  induction m with
  | zero => rfl
  | succ m ih =>
    show pf_sm h (pf_ns n D m + n m * D m) = pf_sm (fun i => pf_sm (fun b => h (pf_ns n D i + b)) (n i * D i)) m + pf_sm (fun b => h (pf_ns n D m + b)) (n m * D m)
    rw [pf_sm_split, ih]
theorem pf_ns_find {n D : Nat → Nat} {m c : Nat} (h : c < pf_ns n D m) : ∃ i b, i < m ∧ b < n i * D i ∧ c = pf_ns n D i + b := by
  induction m with
  | zero => exact absurd h (Nat.not_lt_zero _)
  | succ m ih =>
    have h2 : c < pf_ns n D m + n m * D m := h
    by_cases c1 : c < pf_ns n D m
    · obtain ⟨i, b, h3, h4, h5⟩ := ih c1
      exact ⟨i, b, by omega, h4, h5⟩
    · exact ⟨m, c - pf_ns n D m, by omega, by omega, by omega⟩
theorem pf_mn_sc (y : Fin 5) (e : Nat) (Q : PF) (k : Nat) : pf_mul (pf_mn y e) Q k = y * pf_mul (pf_mn 1 e) Q k := by
  show pf_cm k (pf_mn y e) Q = y * pf_cm k (pf_mn 1 e) Q
  rw [pf_mn_cm, pf_mn_cm]
  by_cases c : e ≤ k
  · rw [if_pos c, if_pos c]; grind
  · rw [if_neg c, if_neg c]; grind
theorem pf_frinj {A r : PF} {m N : Nat} {F : Nat → PF} {D n : Nat → Nat} {q : Nat → Nat → PF} {T : Nat → Nat → Fin 5} (S : pf_Sp A r m F D n) (hN : pf_ns n D m = N)
    (q0 : ∀ i, i < m → q i 0 = A) (qs : ∀ i, i < m → ∀ j, j < n i → q i j = pf_mul (F i) (q i (j + 1))) (qh : ∀ i, i < m → ∀ j, j ≤ n i → pf_hd (q i j) (N - j * D i) ∧ j * D i ≤ N) (qc : ∀ i, i < m → pf_cp (F i) (q i (n i)))
    (hT : ∀ i, i < m → ∀ b, b < n i * D i → ∀ k, k < N → T k (pf_ns n D i + b) = pf_mul (pf_mn 1 (b % D i)) (q i (1 + b / D i)) k) : pf_inj T N := by
  intro x hx c hc
  have lev : ∀ i, i < m → ∀ b, b < n i * D i → b % D i < D i ∧ 1 + b / D i ≤ n i := by
    intro i hi b hb
    have hD := (S.1 i hi).2.1
    have h1 := Nat.mod_lt b (show D i > 0 by omega)
    have h2 : b / D i < n i := (Nat.div_lt_iff_lt_mul (by omega)).mpr hb
    exact ⟨h1, by omega⟩
  have hs : pf_sP (fun i => pf_sP (fun b => pf_mul (pf_mn (x (pf_ns n D i + b)) (b % D i)) (q i (1 + b / D i))) (n i * D i)) m = pf_c 0 := by
    rw [pf_c0]
    funext k
    rw [pf_sP_at]
    by_cases ck : k < N
    · rw [← hx k ck, ← hN, pf_regroup]
      apply pf_sm_congr
      intro i hi
      rw [pf_sP_at]
      apply pf_sm_congr
      intro b hb
      rw [pf_mn_sc, hT i hi b hb k (by omega)]; grind
    · apply pf_sm_0
      intro i hi
      rw [pf_sP_at]
      apply pf_sm_0
      intro b hb
      obtain ⟨h1, h2⟩ := lev i hi b hb
      obtain ⟨h3, h4⟩ := qh i hi (1 + b / D i) h2
      have h5 : D i ≤ (1 + b / D i) * D i := Nat.le_mul_of_pos_left _ (Nat.lt_of_lt_of_le Nat.zero_lt_one (Nat.le_add_right 1 _))
      generalize (1 + b / D i) * D i = z at h3 h4 h5
      show pf_cm k (pf_mn _ _) _ = 0
      exact pf_cm_ln k _ _ _ _ (pf_mn_ln _ _) h3.1 (by omega)
  obtain ⟨i, b, hi, hb, ec⟩ := pf_ns_find (n := n) (D := D) (m := m) (c := c) (by omega)
  rw [ec]
  exact pf_indep (fun i hi => ⟨(S.1 i hi).1, (S.1 i hi).2.1⟩) S.2.2.2.1 q0 qs (fun i hi => pf_hd_fin (qh i hi (n i) (Nat.le_refl _)).1) qc hs i hi b hb
end
section
/-! The reference's column -/
def ya_cw (T : Nat → Fin 5) (col e : Nat) (Q : PF) (k : Nat) : Nat → Fin 5 := fun x => if x % 9 = col ∧ x / 9 < k then (if e ≤ x / 9 then Q (x / 9 - e) else 0) else T x
theorem ya_cw0 (T : Nat → Fin 5) (col e : Nat) (Q : PF) : ya_cw T col e Q 0 = T := by
  funext x
  show (if x % 9 = col ∧ x / 9 < 0 then (if e ≤ x / 9 then Q (x / 9 - e) else 0) else T x) = T x
  rw [if_neg (by omega)]
theorem ya_cws (T : Nat → Fin 5) {col e k : Nat} (Q : PF) (hc : col < 9) : fi_u (ya_cw T col e Q k) (9 * k + col) (if e ≤ k then Q (k - e) else 0) = ya_cw T col e Q (k + 1) := by
  funext x
  show (if x = 9 * k + col then (if e ≤ k then Q (k - e) else 0) else (if x % 9 = col ∧ x / 9 < k then (if e ≤ x / 9 then Q (x / 9 - e) else 0) else T x)) = (if x % 9 = col ∧ x / 9 < k + 1 then (if e ≤ x / 9 then Q (x / 9 - e) else 0) else T x)
  by_cases c : x = 9 * k + col
  · have e1 : x / 9 = k := by omega
    rw [if_pos c, if_pos (show x % 9 = col ∧ x / 9 < k + 1 by omega), e1]
  · rw [if_neg c]
    by_cases c2 : x % 9 = col ∧ x / 9 < k
    · rw [if_pos c2, if_pos (show x % 9 = col ∧ x / 9 < k + 1 by omega)]
    · rw [if_neg c2, if_neg (show ¬ (x % 9 = col ∧ x / 9 < k + 1) by omega)]
section
variable {f_count f_place f_opens f_top f_fault f_faultAt f_dry f_found : Int32} {a_c a_there a_kind a_num a_open a_openAt a_power a_table : Nat → Int32}
theorem yc_column {post : SY → Prop} {g T : Nat → Fin 5} {xq xa xl xe xc : Int32} (q a lev e col : Nat) {d : Nat} (hq : q < 70) (ha : a < 8) (hl : lev < 20) (he : e < 20) (hc : col < 9) (hF : pf_hd (fi_s g (72 + a)) d) (qs : Nat → PF) (h0 : fi_s g q = qs 0)
    (hs : ∀ t, t < lev → qs t = pf_mul (fi_s g (72 + a)) (qs (t + 1))) (lq : ∀ t, t ≤ lev → pf_ln (qs t) 20)
    (h : ∀ g' : Nat → Fin 5, (∀ s, s ≠ 81 → s ≠ 84 → s ≠ 85 → fi_s g' s = fi_s g s) → post (f_count, f_place, f_opens, f_top, f_fault, f_faultAt, f_dry, f_found, fi_m g', a_there, a_kind, a_num, a_open, a_openAt, a_power, fi_m (ya_cw T col e (qs lev) 9)))
    (eq : xq = nI q := by rfl) (ea : xa = nI a := by rfl) (el : xl = nI lev := by rfl) (ee : xe = nI e := by rfl) (ec : xc = nI col := by rfl) : wpY_column post (f_count, f_place, f_opens, f_top, f_fault, f_faultAt, f_dry, f_found, fi_m g, a_there, a_kind, a_num, a_open, a_openAt, a_power, fi_m T) xq xa xl xe xc := by
  subst eq ea el ee ec
  have c47 : ∀ g1 : Nat → Fin 5, fi_s g1 84 = qs lev → (∀ s, s ≠ 81 → s ≠ 84 → s ≠ 85 → fi_s g1 s = fi_s g s) → ∀ m k, k + m = 9 → wY_column_47 post (nI e) (nI col) f_count f_place f_opens f_top f_fault f_faultAt f_dry f_found (m + 1) (nI k) (fi_m g1) a_there a_kind a_num a_open a_openAt a_power (fi_m (ya_cw T col e (qs lev) k)) := by
    intro g1 e84 fr m
    induction m with
    | zero =>
      intro k hk
      obtain rfl : k = 9 := by omega
      exact br_t (by decide) (h g1 fr)
    | succ m ih =>
      intro k hk
      refine br_f (nI_ge (b := 9) (by omega) (by decide)) ?_
      by_cases c : e ≤ k
      · have ex : (1680 : Int32) + nI k - nI e = nI (20 * 84 + (k - e)) := by
          have e1 : (1680 : Int32) + nI k = nI (1680 + k) := nI_add 1680 k
          rw [e1, pk_sub (by omega)]; congr 1; omega
        refine br_t (nI_le c (by omega)) ⟨pk_in _ 1800 (by omega) ex, fi_i9 (by omega) hc, nm_r ?_ (nm_r (nI_1 k) (ih (k + 1) (by omega)))⟩
        rw [← ya_cws T (qs lev) hc, if_pos c, ← fi_upd, ex, fi_9, nI_clamp (by omega), nI_clamp (by omega), ← e84, fi_s_at (by omega)]; rfl
      · refine br_f (nI_ge (by omega) (by omega)) ⟨fi_i9 (by omega) hc, nm_r ?_ (nm_r (nI_1 k) (ih (k + 1) (by omega)))⟩
        rw [← ya_cws T (qs lev) hc, if_neg c, ← fi_upd, fi_9, nI_clamp (by omega)]; rfl
  have c10 : ∀ m k (g1 : Nat → Fin 5), k + m = lev → fi_s g1 84 = qs k → (∀ s, s ≠ 81 → s ≠ 84 → s ≠ 85 → fi_s g1 s = fi_s g s) → wY_column_10 post (nI a) (nI lev) (nI e) (nI col) (m + 1) (nI k) f_count f_place f_opens f_top f_fault f_faultAt f_dry f_found (fi_m g1) a_there a_kind a_num a_open a_openAt a_power (fi_m T) := by
    intro m
    induction m with
    | zero =>
      intro k g1 hk e84 fr
      obtain rfl : k = lev := by omega
      have t := c47 g1 e84 fr 9 0 rfl
      rw [ya_cw0] at t
      exact br_t (nI_le (Nat.le_refl _) (by omega)) ⟨10, t⟩
    | succ m ih =>
      intro k g1 hk e84 fr
      have eF : fi_s g1 (72 + a) = fi_s g (72 + a) := fr _ (by omega) (by omega) (by omega)
      refine br_f (nI_ge (by omega) (by omega)) ?_
      refine yc_divide 84 (72 + a) 85 81 (by omega) (by omega) (by omega) (by omega) (by omega) (by omega) (by omega) (by rw [eF]; exact hF) (fun Q R hQ hR eQ => ?_) rfl (fi_72 a)
      rw [e84, eF] at eQ
      have hdv : pf_dv (fi_s g (72 + a)) (pf_add (pf_mul Q (fi_s g (72 + a))) R) := by
        rw [← eQ, hs k (by omega)]
        exact pf_dv_mr (pf_dv_r _) ⟨_, lq (k + 1) (by omega)⟩
      have hR0 := pf_dv_rem hF ⟨_, hQ⟩ hR hdv
      rw [hR0, pf_add_0, hs k (by omega), pf_mul_comm] at eQ
      have hQq : Q = qs (k + 1) := pf_cancel hF ⟨_, hQ⟩ ⟨_, lq (k + 1) (by omega)⟩ eQ.symm
      refine yc_copy 85 84 (by omega) (by omega) (nm_r (nI_1 k) (ih (k + 1) _ (by omega) ?_ (fun s h1 h2 h3 => ?_)))
      · rw [fi_sp (fi_s_ln _ _), fi_sp hQ]; exact hQq
      · rw [fi_sq h2, fi_sq h3, fi_sq h1]; exact fr s h1 h2 h3
  unfold wpY_column
  refine yc_copy q 84 (by omega) (by omega) ⟨lev + 1, c10 lev 0 _ (by omega) ?_ (fun s h1 h2 h3 => fi_sq h2)⟩
  rw [fi_sp (fi_s_ln _ _)]; exact h0
end
end
section
/-! The reference's fraction ends -/
def ys_4 (g g' : Nat → Fin 5) : Prop := ∀ s, s ≠ 81 → s ≠ 84 → s ≠ 85 → fi_s g' s = fi_s g s
theorem pf_ns_mono (n D : Nat → Nat) {i j : Nat} (h : i ≤ j) : pf_ns n D i ≤ pf_ns n D j := by
  induction j with
  | zero =>
    obtain rfl : i = 0 := by omega
    exact Nat.le_refl _
  | succ j ih =>
    by_cases c : i = j + 1
    · rw [c]; exact Nat.le_refl _
    · have h1 := ih (by omega)
      have h2 : pf_ns n D (j + 1) = pf_ns n D j + n j * D j := rfl
      omega
theorem pf_ns_lt {n D : Nat → Nat} {i b m : Nat} (hi : i < m) (hb : b < n i * D i) : pf_ns n D i + b < pf_ns n D m := by
  have h1 := pf_ns_mono n D (i := i + 1) (j := m) hi
  have h2 : pf_ns n D (i + 1) = pf_ns n D i + n i * D i := rfl
  omega
def ya_cl (m : Nat) (D n : Nat → Nat) (q : Nat → Nat → PF) (T : Nat → Fin 5) (i b : Nat) : Prop :=
  ∀ i' b' k, i' < m → b' < n i' * D i' → (i' < i ∨ (i' = i ∧ b' < b)) → k < 9 → T (9 * k + (pf_ns n D i' + b')) = pf_mul (pf_mn 1 (b' % D i')) (q i' (1 + b' / D i')) k
theorem ya_cw_o {T : Nat → Fin 5} {col e c k n : Nat} {Q : PF} (h : c ≠ col) (hc : c < 9) : ya_cw T col e Q n (9 * k + c) = T (9 * k + c) := by
  show (if (9 * k + c) % 9 = col ∧ (9 * k + c) / 9 < n then _ else T (9 * k + c)) = _
  rw [if_neg (by omega)]
theorem ya_cw_i {T : Nat → Fin 5} {col e k n : Nat} {Q : PF} (hc : col < 9) (hk : k < n) : ya_cw T col e Q n (9 * k + col) = pf_mul (pf_mn 1 e) Q k := by
  have e1 : (9 * k + col) / 9 = k := by omega
  show (if (9 * k + col) % 9 = col ∧ (9 * k + col) / 9 < n then (if e ≤ (9 * k + col) / 9 then Q ((9 * k + col) / 9 - e) else 0) else T (9 * k + col)) = pf_cm k (pf_mn 1 e) Q
  rw [if_pos (by omega), e1, pf_mn_cm]
  by_cases c : e ≤ k
  · rw [if_pos c, if_pos c]; grind
  · rw [if_neg c, if_neg c]
theorem ya_cl_s {m i b : Nat} {D n : Nat → Nat} {q : Nat → Nat → PF} {T : Nat → Fin 5} (hi : i < m) (hb : b < n i * D i) (hN : pf_ns n D m ≤ 8) (h : ya_cl m D n q T i b) : ya_cl m D n q (ya_cw T (pf_ns n D i + b) (b % D i) (q i (1 + b / D i)) 9) i (b + 1) := by
  intro i' b' k hi' hb' ho hk
  have l0 := pf_ns_lt hi hb
  have l1 := pf_ns_lt hi' hb'
  by_cases c : i' = i ∧ b' = b
  · obtain ⟨rfl, rfl⟩ := c
    exact ya_cw_i (by omega) hk
  · rw [ya_cw_o ?_ (by omega)]
    · exact h i' b' k hi' hb' (by omega) hk
    · rcases ho with ho | ⟨ho, ho2⟩
      · have := pf_ns_lt (n := n) (D := D) ho hb'
        omega
      · subst ho; omega
theorem ya_cl_n {m i : Nat} {D n : Nat → Nat} {q : Nat → Nat → PF} {T : Nat → Fin 5} (h : ya_cl m D n q T i (n i * D i)) : ya_cl m D n q T (i + 1) 0 := by
  intro i' b' k hi' hb' ho hk
  refine h i' b' k hi' hb' ?_ hk
  by_cases c : i' = i
  · subst c; exact Or.inr ⟨rfl, hb'⟩
  · left; omega
/-- wanted is set once its column has been passed -/
def ya_wt (D : Nat → Nat) (ii j1 kk : Nat) (x7 : Int32) (i b col : Nat) : Prop := (ii < i ∨ (ii = i ∧ j1 * D ii + kk < b)) → ∃ w, w < col ∧ x7 = nI w
section
variable {f_count f_place f_opens f_top f_fault f_faultAt f_dry f_found : Int32} {a_c a_there a_kind a_num a_open a_openAt a_power a_table : Nat → Int32}
theorem yc_frac236 {post : Int32 → SY → Prop} {g T : Nat → Fin 5} (N w : Nat) (hN : N ≤ 8) (hw : w < N) (inj : pf_inj (fun i c => T (9 * i + c)) N) (h : ∀ (r : Int32) (T' : Nat → Fin 5), post r (f_count, f_place, f_opens, f_top, f_fault, f_faultAt, f_dry, f_found, fi_m g, a_there, a_kind, a_num, a_open, a_openAt, a_power, fi_m T')) :
    ∃ k, wY_fraction_236 post (nI w) (nI N) f_count f_place f_opens f_top f_fault f_faultAt f_dry f_found k 0 (fi_m g) a_there a_kind a_num a_open a_openAt a_power (fi_m T) := by
  have key : ∀ m k, k + m = N → wY_fraction_236 post (nI w) (nI N) f_count f_place f_opens f_top f_fault f_faultAt f_dry f_found (m + 1) (nI k) (fi_m g) a_there a_kind a_num a_open a_openAt a_power (fi_m (ya_cw T N 0 (fi_s g 83) k)) := by
    intro m
    induction m with
    | zero =>
      intro k hk
      obtain rfl : k = N := by omega
      refine br_t (nI_le (Nat.le_refl _) (by omega)) (yc_solve k hN ?_ (fun T' => ⟨fi_i9 (by omega) (by omega), h _ T'⟩))
      intro x hx
      apply inj x
      intro r hr
      rw [← hx r hr]
      apply pf_sm_congr
      intro c hc
      show T (9 * r + c) * x c = ya_cw T k 0 (fi_s g 83) k (9 * r + c) * x c
      rw [ya_cw_o (by omega) (by omega)]
    | succ m ih =>
      intro k hk
      have ex : (1660 : Int32) + nI k = nI (20 * 83 + k) := nI_add 1660 k
      refine br_f (nI_ge (by omega) (by omega)) ⟨pk_in _ 1800 (by omega) ex, fi_i9 (by omega) (by omega), nm_r ?_ (nm_r (nI_1 k) (ih (k + 1) (by omega)))⟩
      rw [← ya_cws T (fi_s g 83) (show N < 9 by omega), if_pos (Nat.zero_le _), Nat.sub_zero, ← fi_upd, ex, fi_9, nI_clamp (by omega), nI_clamp (by omega), fi_s_at (by omega)]; rfl
  have t := key N 0 (by omega)
  rw [ya_cw0] at t
  exact ⟨N + 1, t⟩
theorem yc_frac119 {post : Int32 → SY → Prop} {g0 : Nat → Fin 5} {A r : PF} {a m N ii j1 kk : Nat} {D n : Nat → Nat} {q : Nat → Nat → PF} (ha : a < 7) (hm : m ≤ 8) (hN : N ≤ 8) (eN : pf_ns n D m = N) (eA : fi_s g0 (53 + 2 * a) = A)
    (S : pf_Sp A r m (fun i => fi_s g0 (72 + i)) D n) (hp : ∀ i, i < m → a_power i = nI (n i))
    (q0 : ∀ i, i < m → q i 0 = A) (qs : ∀ i, i < m → ∀ j, j < n i → q i j = pf_mul (fi_s g0 (72 + i)) (q i (j + 1))) (qh : ∀ i, i < m → ∀ j, j ≤ n i → pf_hd (q i j) (N - j * D i) ∧ j * D i ≤ N) (qc : ∀ i, i < m → pf_cp (fi_s g0 (72 + i)) (q i (n i)))
    (hii : ii < m) (hj1 : j1 < n ii) (hkk : kk < D ii)
    (h : ∀ (r : Int32) (g' T' : Nat → Fin 5), ys_4 g0 g' → post r (f_count, f_place, f_opens, f_top, f_fault, f_faultAt, f_dry, f_found, fi_m g', a_there, a_kind, a_num, a_open, a_openAt, a_power, fi_m T')) :
    ∀ (f i : Nat) (x7 : Int32) (g T : Nat → Fin 5), i + f = m → ys_4 g0 g → ya_cl m D n q T i 0 → ya_wt D ii j1 kk x7 i 0 (pf_ns n D i) →
      wY_fraction_119 post (nI ii) (nI (j1 + 1)) (nI kk) (nI m) (nI (53 + 2 * a)) (f + 1) x7 (nI (pf_ns n D i)) (nI i) f_count f_place f_opens f_top f_fault f_faultAt f_dry f_found (fi_m g) a_there a_kind a_num a_open a_openAt a_power (fi_m T) := by
  intro f
  induction f with
  | zero =>
    intro i x7 g T hi fr cl wt
    obtain rfl : i = m := by omega
    obtain ⟨w, hw, ew⟩ := wt (Or.inl hii)
    subst ew
    rw [eN] at hw ⊢
    refine br_t (nI_le (Nat.le_refl _) (by omega)) (yc_frac236 N w hN hw ?_ (fun r T' => h r g T' fr))
    exact pf_frinj (q := q) S eN q0 qs qh qc (fun i' hi' b' hb' k hk => cl i' b' k hi' hb' (Or.inl hi') (by omega))
  | succ f ih =>
    intro i x7 g T hi fr cl wt
    have him : i < m := by omega
    have hD1 := (S.1 i him).2.1
    have hni : n i * D i ≤ N := by
      have h1 := pf_ns_mono n D (i := i + 1) (j := m) him
      have h2 : pf_ns n D (i + 1) = pf_ns n D i + n i * D i := rfl
      omega
    have hnn := S.2.1 i him
    have hn8 : n i ≤ 8 := by
      have := Nat.le_mul_of_pos_right (n i) (show 0 < D i by omega)
      omega
    have hD8 : D i ≤ 8 := by
      have := Nat.le_mul_of_pos_left (D i) (show 0 < n i by omega)
      omega
    refine br_f (nI_ge (by omega) (by omega)) ⟨n i * D i + 1, ?_⟩
    have l129 : ∀ (k b : Nat) (x7 : Int32) (g T : Nat → Fin 5), b + k = n i * D i → ys_4 g0 g → ya_cl m D n q T i b → ya_wt D ii j1 kk x7 i b (pf_ns n D i + b) →
        wY_fraction_129 post (wY_fraction_119 post (nI ii) (nI (j1 + 1)) (nI kk) (nI m) (nI (53 + 2 * a)) (f + 1)) (nI ii) (nI (j1 + 1)) (nI kk) (nI m) (nI (53 + 2 * a)) (nI i) (k + 1) x7 (nI (pf_ns n D i + b)) (nI b) f_count f_place f_opens f_top f_fault f_faultAt f_dry f_found (fi_m g) a_there a_kind a_num a_open a_openAt a_power (fi_m T) := by
      intro k
      induction k with
      | zero =>
        intro b x7 g T hb fr cl wt
        have eF : fi_s g (72 + i) = fi_s g0 (72 + i) := fr _ (by omega) (by omega) (by omega)
        have hF : pf_hd (fi_s g (72 + i)) (D i) := by rw [eF]; exact (S.1 i him).1
        refine ⟨vp_in_nI (by omega) (by omega), ?_⟩
        refine yc_deg (72 + i) (by omega) (fun z => absurd z (pf_hd_n0 hF)) (fun d hd hd2 => ?_) (fi_72 i)
        obtain rfl := pf_hd_u hd2 hF
        rw [nI_clamp (by omega), hp i him, pk_mul]
        refine br_t (nI_le (by omega) (by omega)) (nm_r (nI_1 i) ?_)
        obtain rfl : b = n i * D i := by omega
        refine ih (i + 1) x7 g T (by omega) fr (ya_cl_n cl) ?_
        intro ho
        refine wt ?_
        by_cases c : ii = i
        · right
          refine ⟨c, ?_⟩
          subst c
          have h1 := Nat.mul_le_mul_right (D ii) (show j1 + 1 ≤ n ii from hj1)
          rw [Nat.succ_mul] at h1
          omega
        · left; omega
      | succ k ihk =>
        intro b x7 g T hb fr cl wt
        have hbn : b < n i * D i := by omega
        have eF : fi_s g (72 + i) = fi_s g0 (72 + i) := fr _ (by omega) (by omega) (by omega)
        have hF : pf_hd (fi_s g (72 + i)) (D i) := by rw [eF]; exact (S.1 i him).1
        have hcol := pf_ns_lt (n := n) (D := D) him hbn
        have hmod := Nat.mod_lt b (show D i > 0 by omega)
        have hdiv : b / D i < n i := (Nat.div_lt_iff_lt_mul (by omega)).mpr hbn
        have e11 : nI b - nI b / nI (D i) * nI (D i) = nI (b % D i) := pk_rem (by omega) (by omega) (by omega)
        have e12 : (1 : Int32) + nI b / nI (D i) = nI (1 + b / D i) := by
          rw [pk_div (by omega) (by omega) (by omega)]; exact nI_add 1 (b / D i)
        refine ⟨vp_in_nI (by omega) (by omega), ?_⟩
        refine yc_deg (72 + i) (by omega) (fun z => absurd z (pf_hd_n0 hF)) (fun d hd hd2 => ?_) (fi_72 i)
        obtain rfl := pf_hd_u hd2 hF
        rw [nI_clamp (by omega), hp i him, pk_mul]
        refine br_f (nI_ge (by omega) (by omega)) ?_
        refine yc_deg (72 + i) (by omega) (fun z => absurd z (pf_hd_n0 hF)) (fun d hd hd2 => ?_) (fi_72 i)
        obtain rfl := pf_hd_u hd2 hF
        refine ⟨nI_ne0 (by omega) (by omega), nm_r e11 ?_⟩
        refine yc_deg (72 + i) (by omega) (fun z => absurd z (pf_hd_n0 hF)) (fun d hd hd2 => ?_) (fi_72 i)
        obtain rfl := pf_hd_u hd2 hF
        refine ⟨nI_ne0 (by omega) (by omega), nm_r e12 ?_⟩
        have col : ∀ x7' : Int32, ya_wt D ii j1 kk x7' i (b + 1) (pf_ns n D i + (b + 1)) → wY_fraction_204 post (wY_fraction_119 post (nI ii) (nI (j1 + 1)) (nI kk) (nI m) (nI (53 + 2 * a)) (f + 1)) (wY_fraction_129 post (wY_fraction_119 post (nI ii) (nI (j1 + 1)) (nI kk) (nI m) (nI (53 + 2 * a)) (f + 1)) (nI ii) (nI (j1 + 1)) (nI kk) (nI m) (nI (53 + 2 * a)) (nI i) (k + 1)) (nI ii) (nI (j1 + 1)) (nI kk) (nI m) (nI (53 + 2 * a)) x7' (nI (pf_ns n D i + b)) (nI i) (nI b) (nI (b % D i)) (nI (1 + b / D i)) f_count f_place f_opens f_top f_fault f_faultAt f_dry f_found (fi_m g) a_there a_kind a_num a_open a_openAt a_power (fi_m T) := by
          intro x7' wt'
          unfold wY_fraction_204
          refine yc_column (53 + 2 * a) i (1 + b / D i) (b % D i) (pf_ns n D i + b) (by omega) (by omega) (by omega) (by omega) (by omega) hF (q i) ?_ (fun t ht => ?_) (fun t ht => ?_) (fun g' fr' => nm_r (nI_1 _) (nm_r (nI_1 b) ?_))
          · rw [fr _ (by omega) (by omega) (by omega), eA, q0 i him]
          · rw [eF]; exact qs i him t (by omega)
          · have h1 := (qh i him t (by omega)).1.1
            exact pf_ln_mono h1 (by omega)
          · refine ihk (b + 1) x7' g' _ (by omega) (fun s h1 h2 h3 => by rw [fr' s h1 h2 h3]; exact fr s h1 h2 h3) (ya_cl_s him hbn (by omega) cl) wt'
        have hbpos : 0 ≤ b / D i := Nat.zero_le _
        have old : ¬ (i = ii ∧ 1 + b / D i = j1 + 1 ∧ b % D i = kk) → ya_wt D ii j1 kk x7 i (b + 1) (pf_ns n D i + (b + 1)) := by
          intro no ho
          have : ∃ w, w < pf_ns n D i + b ∧ x7 = nI w := by
            refine wt ?_
            rcases ho with ho | ⟨ho, ho2⟩
            · exact Or.inl ho
            · right
              refine ⟨ho, ?_⟩
              by_cases c : j1 * D ii + kk = b
              · exfalso; apply no
                subst ho
                have e1 : b / D ii = j1 := by
                  rw [← c, Nat.add_comm, Nat.add_mul_div_right _ _ (by omega), Nat.div_eq_of_lt hkk]; omega
                have e2 : b % D ii = kk := by
                  rw [← c, Nat.add_comm, Nat.add_mul_mod_self_right]; exact Nat.mod_eq_of_lt hkk
                exact ⟨rfl, by rw [e1]; omega, e2⟩
              · omega
          obtain ⟨w, h1, h2⟩ := this
          exact ⟨w, by omega, h2⟩
        have hj8 : j1 < 8 ∨ 8 ≤ j1 := by omega
        have hni2 : n ii ≤ 8 := by
          have hDii := (S.1 ii hii).2.1
          have h1 := pf_ns_mono n D (i := ii + 1) (j := m) hii
          have h2 : pf_ns n D (ii + 1) = pf_ns n D ii + n ii * D ii := rfl
          have := Nat.le_mul_of_pos_right (n ii) (show 0 < D ii by omega)
          omega
        have hDii8 : D ii ≤ 8 := by
          have hnii := S.2.1 ii hii
          have h1 := pf_ns_mono n D (i := ii + 1) (j := m) hii
          have h2 : pf_ns n D (ii + 1) = pf_ns n D ii + n ii * D ii := rfl
          have := Nat.le_mul_of_pos_left (D ii) (show 0 < n ii by omega)
          omega
        by_cases c1 : i = ii
        · refine br_t (by rw [c1]) ?_
          by_cases c2 : 1 + b / D i = j1 + 1
          · refine br_t (by rw [c2]) ?_
            by_cases c3 : b % D i = kk
            · exact br_t (by rw [c3]) (col _ (fun _ => ⟨pf_ns n D i + b, by omega, rfl⟩))
            · exact br_f (fun z => c3 ((nI_eq (by omega) (by omega)).mp z)) (col _ (old (fun z => c3 z.2.2)))
          · exact br_f (fun z => c2 ((nI_eq (by omega) (by omega)).mp z)) (col _ (old (fun z => c2 z.2.1)))
        · exact br_f (fun z => c1 ((nI_eq (by omega) (by omega)).mp z)) (col _ (old (fun z => c1 z.1)))
    refine l129 (n i * D i) 0 x7 g T (by omega) fr cl wt
end
end
section
/-! The reference's fraction -/
section
variable {f_count f_place f_opens f_top f_fault f_faultAt f_dry f_found : Int32} {a_c a_there a_kind a_num a_open a_openAt a_power a_table : Nat → Int32}
theorem yc_fraction {post : Int32 → SY → Prop} {g T : Nat → Fin 5} {xa xi xj xk : Int32} (pl9 : ya_9 g)
    (h : ∀ (r : Int32) (g' T' : Nat → Fin 5) (f_found : Int32) (a_power : Nat → Int32), ya_9 g' → post r (f_count, f_place, f_opens, f_top, f_fault, f_faultAt, f_dry, f_found, fi_m g', a_there, a_kind, a_num, a_open, a_openAt, a_power, fi_m T')) : wpY_fraction post (f_count, f_place, f_opens, f_top, f_fault, f_faultAt, f_dry, f_found, fi_m g, a_there, a_kind, a_num, a_open, a_openAt, a_power, fi_m T) xa xi xj xk := by
  unfold wpY_fraction
  refine yc_factors pl9 (nm_e (br_t (by decide) (h _ _ _ _ _ pl9))) (fun a p m g1 pw ha hp ex ey hm fr nz ok => ?_)
  have hp1 : p = 1 := ((nI_eq (a := p) (b := 1) (by omega) (by omega)).mp ey.symm)
  subst hp1
  subst ex
  have e53 : (53 : Int32) + 2 * nI a = nI (53 + 2 * a) := by rw [fi_2]; exact nI_add 53 (2 * a)
  have e5 : 52 + 2 * a + 1 = 53 + 2 * a := by omega
  rw [e5] at nz ok
  have p1 : ya_9 g1 := ya_9_fr pl9 fr
  refine nm_r e53 (br_f (nI_pos (by omega)) ?_)
  by_cases c0 : xk < 0
  · exact br_t c0 (h _ _ _ _ _ p1)
  refine br_f c0 ?_
  by_cases c8 : 8 < xk
  · exact br_t c8 (h _ _ _ _ _ p1)
  refine br_f c8 ?_
  by_cases cm : xi < (-1)
  · exact br_t cm (h _ _ _ _ _ p1)
  refine br_f cm ?_
  by_cases cr : nI m ≤ xi
  · exact br_t cr (h _ _ _ _ _ p1)
  refine br_f cr ?_
  obtain ⟨kk, hkk, rfl⟩ := nI_of c0
  have hk8 : kk ≤ 8 := (nI_leI (b := 8) hkk (by decide)).mp (Int32.not_lt.mp c8)
  obtain ⟨N, r, D, n, hA, S, hr⟩ : ∃ (N : Nat) (r : PF) (D n : Nat → Nat), pf_hd (fi_s g (53 + 2 * a)) N ∧ ys_sp g1 (fi_s g (53 + 2 * a)) r m pw D n ∧ pf_hd r 0 := by
    rcases ok with ⟨z, _⟩ | t
    · exact absurd z nz
    · exact t
  have eA1 : fi_s g1 (53 + 2 * a) = fi_s g (53 + 2 * a) := fr _ (by omega)
  have hN8 : N ≤ 8 := by
    have := pf_hd_lt hA (pl9 _ (by omega) (by omega))
    omega
  have eN : pf_ns n D m = N := by
    obtain ⟨e, he, h1⟩ := pf_Sp_deg S.1 hA (pf_hd_fin hr)
    have := pf_hd_u he hr
    omega
  have e1 : nI (53 + 2 * a) - 1 = nI (52 + 2 * a) := by
    have : 53 + 2 * a = (52 + 2 * a) + 1 := by omega
    rw [this]; exact nI_pred _
  have f71 : (xi < 0 ∨ ∃ ii j1, ii < m ∧ xi = nI ii ∧ j1 < n ii ∧ xj = nI (j1 + 1)) → wY_fraction_71 post xi xj (nI kk) (nI m) (nI (53 + 2 * a)) (-1) 0 f_count f_place f_opens f_top f_fault f_faultAt f_dry (nI m) (fi_m g1) a_there a_kind a_num a_open a_openAt (pw) (fi_m T) := by
    intro hc
    unfold wY_fraction_71
    refine yc_divide (52 + 2 * a) (53 + 2 * a) 82 83 (d := N) (by omega) (by omega) (by omega) (by omega) (by omega) (by omega) (by omega) (by rw [eA1]; exact hA) (fun Q R _ _ _ => ?_) e1
    have p2 : ya_9 (fi_p (fi_p g1 83 R) 82 Q) := fun s h1 h2 => by rw [fi_sq (by omega), fi_sq (by omega)]; exact p1 s h1 h2
    rcases hc with c | ⟨ii, j1, hii, exi, hj1, exj⟩
    · refine br_f (by rw [Int32.not_le]; exact c) ⟨pk_in (1640 + kk) 1800 (by omega) (nI_add 1640 kk), h _ _ _ _ _ p2⟩
    · subst exi exj
      have hF : pf_hd (fi_s (fi_p (fi_p g1 83 R) 82 Q) (72 + ii)) (D ii) := by
        rw [fi_sq (by omega), fi_sq (by omega)]; exact (S.1.1 ii hii).1
      refine br_t (nI_pos' (by omega)) (yc_deg (72 + ii) (by omega) (fun z => absurd z (pf_hd_n0 hF)) (fun d hd hd2 => ?_) (fi_72 ii))
      obtain rfl := pf_hd_u hd2 hF
      by_cases ck : kk < D ii
      · refine br_t (nI_lt ck (by omega)) ⟨m + 1, ?_⟩
        have eg : ∀ s, s ≠ 82 → s ≠ 83 → fi_s (fi_p (fi_p g1 83 R) 82 Q) s = fi_s g1 s := fun s h1 h2 => by rw [fi_sq h1, fi_sq h2]
        have S2 : ys_sp (fi_p (fi_p g1 83 R) 82 Q) (fi_s g (53 + 2 * a)) r m pw D n := ys_sp_eq S (fun i hi => eg _ (by omega) (by omega))
        obtain ⟨q, q0, qs, qh, qc⟩ := pf_chain S2.1 hA
        have t := yc_frac119 (post := post) (g0 := fi_p (fi_p g1 83 R) 82 Q) (a_power := pw) (f_found := nI m) (f_count := f_count) (f_place := f_place) (f_opens := f_opens) (f_top := f_top) (f_fault := f_fault) (f_faultAt := f_faultAt) (f_dry := f_dry) (a_there := a_there) (a_kind := a_kind) (a_num := a_num) (a_open := a_open) (a_openAt := a_openAt) (a := a) (q := q) ha hm hN8 eN (by rw [eg _ (by omega) (by omega), eA1]) S2.1 S2.2 q0 qs qh qc hii hj1 ck (fun r g' T' fr' => h r g' T' _ _ (fun s h1 h2 => by rw [fr' s (by omega) (by omega) (by omega)]; exact p2 s h1 h2)) m 0 (-1) _ T (by omega) (fun _ _ _ _ => rfl) (fun i' b' k _ _ ho => by omega) (fun ho => by omega)
        exact t
      · exact br_f (nI_nlt (by omega) (by omega)) (h _ _ _ _ _ p2)
  by_cases ci : xi < 0
  · exact br_t ci (f71 (Or.inl ci))
  · refine br_f ci ?_
    obtain ⟨ii, hii, rfl⟩ := nI_of ci
    have hiim : ii < m := by
      by_cases c : ii < m
      · exact c
      · exact absurd (nI_le (by omega) hii) cr
    by_cases cj : xj < 1
    · exact br_t cj (h _ _ _ _ _ p1)
    · refine br_f cj ⟨vp_in_nI (by omega) (by omega), ?_⟩
      rw [nI_clamp (by omega), S.2 ii hiim]
      have hn8 : n ii ≤ 8 := by
        have hDii := (S.1.1 ii hiim).2.1
        have h1 := pf_ns_mono n D (i := ii + 1) (j := m) hiim
        have h2 : pf_ns n D (ii + 1) = pf_ns n D ii + n ii * D ii := rfl
        have := Nat.le_mul_of_pos_right (n ii) (show 0 < D ii by omega)
        omega
      have cj0 : ¬ xj < 0 := fun z => cj (Int32.lt_of_lt_of_le z (by decide))
      obtain ⟨jj, hjj, rfl⟩ := nI_of cj0
      have hj1 : 1 ≤ jj := by
        by_cases c : 1 ≤ jj
        · exact c
        · exact absurd (nI_lt (b := 1) (by omega) (by decide)) cj
      by_cases cl : jj ≤ n ii
      · refine br_t (nI_le cl (by omega)) (f71 (Or.inr ⟨ii, jj - 1, hiim, rfl, by omega, ?_⟩))
        congr 1; omega
      · exact br_f (nI_ge (by omega) hjj) (h _ _ _ _ _ p1)
end
end
section
/-! The class's leaves: they end, whatever the arrays hold (written by wip/p2/gen_x.py) -/
theorem xl_17 {j : Nat} (hj : j < 17) : ¬ (17 : Int32) ≤ nI j := nI_ge (a := j) (b := 17) hj (by decide)
theorem xl_st {p0 p1 : Int32} (c0 : ¬ p0 < 0) (c1 : ¬ 31 ≤ p0) (hp : p1 = 0 ∨ p1 = 1) : ∃ s, s + 9 ≤ 558 ∧ (p0 * 2 + p1) * 9 = nI s := by
  obtain ⟨k, hk, rfl⟩ := nI_of c0
  have hk31 : k < 31 := by
    by_cases c : k < 31
    · exact c
    · exact absurd (nI_le (a := 31) (by omega) hk) c1
  have e2 : nI k * 2 = nI (k * 2) := pk_mul k 2
  rcases hp with rfl | rfl
  · refine ⟨(k * 2 + 0) * 9, by omega, ?_⟩
    have e0 : (0 : Int32) = nI 0 := rfl
    rw [e2, e0, nI_add]; exact pk_mul _ 9
  · refine ⟨(k * 2 + 1) * 9, by omega, ?_⟩
    rw [e2, nI_1]; exact pk_mul _ 9
section
variable {f_tokenCount f_latestPlace f_stepCount f_waitingCount f_stackCount f_factorCount : Int32} {a_tokenKind a_tokenContent a_stepKind a_stepToken a_waitingKind a_waitingToken a_present a_cells a_leftTop a_leftBottom a_rightTop a_rightBottom a_top a_bottom a_product a_quotient a_common a_spare a_rest a_divisor a_inverse a_numerator a_factorDegrees a_factorPowers a_factorCells : Nat → Int32}
theorem xl_setNumber__leftTop {post : SX → Prop} {x : Int32} (h : ∀ a_leftTop : Nat → Int32, post (f_tokenCount, f_latestPlace, f_stepCount, f_waitingCount, f_stackCount, f_factorCount, a_tokenKind, a_tokenContent, a_stepKind, a_stepToken, a_waitingKind, a_waitingToken, a_present, a_cells, a_leftTop, a_leftBottom, a_rightTop, a_rightBottom, a_top, a_bottom, a_product, a_quotient, a_common, a_spare, a_rest, a_divisor, a_inverse, a_numerator, a_factorDegrees, a_factorPowers, a_factorCells)) : wpX_setNumber__leftTop post (f_tokenCount, f_latestPlace, f_stepCount, f_waitingCount, f_stackCount, f_factorCount, a_tokenKind, a_tokenContent, a_stepKind, a_stepToken, a_waitingKind, a_waitingToken, a_present, a_cells, a_leftTop, a_leftBottom, a_rightTop, a_rightBottom, a_top, a_bottom, a_product, a_quotient, a_common, a_spare, a_rest, a_divisor, a_inverse, a_numerator, a_factorDegrees, a_factorPowers, a_factorCells) x := by
  have key : ∀ d j, ∀ a_leftTop : Nat → Int32, j + d = 17 → wX_setNumber__leftTop_2 post x f_tokenCount f_latestPlace f_stepCount f_waitingCount f_stackCount f_factorCount (d + 1) (nI j) a_tokenKind a_tokenContent a_stepKind a_stepToken a_waitingKind a_waitingToken a_present a_cells a_leftTop a_leftBottom a_rightTop a_rightBottom a_top a_bottom a_product a_quotient a_common a_spare a_rest a_divisor a_inverse a_numerator a_factorDegrees a_factorPowers a_factorCells := by
    intro d
    induction d with
    | zero =>
      intro j a_leftTop hj
      obtain rfl : j = 17 := by omega
      exact br_t (by decide) (nm_e (h _))
    | succ d ih =>
      intro j a_leftTop hj
      exact br_f (xl_17 (by omega)) ⟨vp_in_nI (by omega) (by omega), nm_e (nm_r (nI_1 j) (ih (j + 1) _ (by omega)))⟩
  exact ⟨17, key 16 1 a_leftTop rfl⟩
theorem xl_setNumber__leftBottom {post : SX → Prop} {x : Int32} (h : ∀ a_leftBottom : Nat → Int32, post (f_tokenCount, f_latestPlace, f_stepCount, f_waitingCount, f_stackCount, f_factorCount, a_tokenKind, a_tokenContent, a_stepKind, a_stepToken, a_waitingKind, a_waitingToken, a_present, a_cells, a_leftTop, a_leftBottom, a_rightTop, a_rightBottom, a_top, a_bottom, a_product, a_quotient, a_common, a_spare, a_rest, a_divisor, a_inverse, a_numerator, a_factorDegrees, a_factorPowers, a_factorCells)) : wpX_setNumber__leftBottom post (f_tokenCount, f_latestPlace, f_stepCount, f_waitingCount, f_stackCount, f_factorCount, a_tokenKind, a_tokenContent, a_stepKind, a_stepToken, a_waitingKind, a_waitingToken, a_present, a_cells, a_leftTop, a_leftBottom, a_rightTop, a_rightBottom, a_top, a_bottom, a_product, a_quotient, a_common, a_spare, a_rest, a_divisor, a_inverse, a_numerator, a_factorDegrees, a_factorPowers, a_factorCells) x := by
  have key : ∀ d j, ∀ a_leftBottom : Nat → Int32, j + d = 17 → wX_setNumber__leftBottom_2 post x f_tokenCount f_latestPlace f_stepCount f_waitingCount f_stackCount f_factorCount (d + 1) (nI j) a_tokenKind a_tokenContent a_stepKind a_stepToken a_waitingKind a_waitingToken a_present a_cells a_leftTop a_leftBottom a_rightTop a_rightBottom a_top a_bottom a_product a_quotient a_common a_spare a_rest a_divisor a_inverse a_numerator a_factorDegrees a_factorPowers a_factorCells := by
    intro d
    induction d with
    | zero =>
      intro j a_leftBottom hj
      obtain rfl : j = 17 := by omega
      exact br_t (by decide) (nm_e (h _))
    | succ d ih =>
      intro j a_leftBottom hj
      exact br_f (xl_17 (by omega)) ⟨vp_in_nI (by omega) (by omega), nm_e (nm_r (nI_1 j) (ih (j + 1) _ (by omega)))⟩
  exact ⟨17, key 16 1 a_leftBottom rfl⟩
theorem xl_setNumber__rightTop {post : SX → Prop} {x : Int32} (h : ∀ a_rightTop : Nat → Int32, post (f_tokenCount, f_latestPlace, f_stepCount, f_waitingCount, f_stackCount, f_factorCount, a_tokenKind, a_tokenContent, a_stepKind, a_stepToken, a_waitingKind, a_waitingToken, a_present, a_cells, a_leftTop, a_leftBottom, a_rightTop, a_rightBottom, a_top, a_bottom, a_product, a_quotient, a_common, a_spare, a_rest, a_divisor, a_inverse, a_numerator, a_factorDegrees, a_factorPowers, a_factorCells)) : wpX_setNumber__rightTop post (f_tokenCount, f_latestPlace, f_stepCount, f_waitingCount, f_stackCount, f_factorCount, a_tokenKind, a_tokenContent, a_stepKind, a_stepToken, a_waitingKind, a_waitingToken, a_present, a_cells, a_leftTop, a_leftBottom, a_rightTop, a_rightBottom, a_top, a_bottom, a_product, a_quotient, a_common, a_spare, a_rest, a_divisor, a_inverse, a_numerator, a_factorDegrees, a_factorPowers, a_factorCells) x := by
  have key : ∀ d j, ∀ a_rightTop : Nat → Int32, j + d = 17 → wX_setNumber__rightTop_2 post x f_tokenCount f_latestPlace f_stepCount f_waitingCount f_stackCount f_factorCount (d + 1) (nI j) a_tokenKind a_tokenContent a_stepKind a_stepToken a_waitingKind a_waitingToken a_present a_cells a_leftTop a_leftBottom a_rightTop a_rightBottom a_top a_bottom a_product a_quotient a_common a_spare a_rest a_divisor a_inverse a_numerator a_factorDegrees a_factorPowers a_factorCells := by
    intro d
    induction d with
    | zero =>
      intro j a_rightTop hj
      obtain rfl : j = 17 := by omega
      exact br_t (by decide) (nm_e (h _))
    | succ d ih =>
      intro j a_rightTop hj
      exact br_f (xl_17 (by omega)) ⟨vp_in_nI (by omega) (by omega), nm_e (nm_r (nI_1 j) (ih (j + 1) _ (by omega)))⟩
  exact ⟨17, key 16 1 a_rightTop rfl⟩
theorem xl_setNumber__rightBottom {post : SX → Prop} {x : Int32} (h : ∀ a_rightBottom : Nat → Int32, post (f_tokenCount, f_latestPlace, f_stepCount, f_waitingCount, f_stackCount, f_factorCount, a_tokenKind, a_tokenContent, a_stepKind, a_stepToken, a_waitingKind, a_waitingToken, a_present, a_cells, a_leftTop, a_leftBottom, a_rightTop, a_rightBottom, a_top, a_bottom, a_product, a_quotient, a_common, a_spare, a_rest, a_divisor, a_inverse, a_numerator, a_factorDegrees, a_factorPowers, a_factorCells)) : wpX_setNumber__rightBottom post (f_tokenCount, f_latestPlace, f_stepCount, f_waitingCount, f_stackCount, f_factorCount, a_tokenKind, a_tokenContent, a_stepKind, a_stepToken, a_waitingKind, a_waitingToken, a_present, a_cells, a_leftTop, a_leftBottom, a_rightTop, a_rightBottom, a_top, a_bottom, a_product, a_quotient, a_common, a_spare, a_rest, a_divisor, a_inverse, a_numerator, a_factorDegrees, a_factorPowers, a_factorCells) x := by
  have key : ∀ d j, ∀ a_rightBottom : Nat → Int32, j + d = 17 → wX_setNumber__rightBottom_2 post x f_tokenCount f_latestPlace f_stepCount f_waitingCount f_stackCount f_factorCount (d + 1) (nI j) a_tokenKind a_tokenContent a_stepKind a_stepToken a_waitingKind a_waitingToken a_present a_cells a_leftTop a_leftBottom a_rightTop a_rightBottom a_top a_bottom a_product a_quotient a_common a_spare a_rest a_divisor a_inverse a_numerator a_factorDegrees a_factorPowers a_factorCells := by
    intro d
    induction d with
    | zero =>
      intro j a_rightBottom hj
      obtain rfl : j = 17 := by omega
      exact br_t (by decide) (nm_e (h _))
    | succ d ih =>
      intro j a_rightBottom hj
      exact br_f (xl_17 (by omega)) ⟨vp_in_nI (by omega) (by omega), nm_e (nm_r (nI_1 j) (ih (j + 1) _ (by omega)))⟩
  exact ⟨17, key 16 1 a_rightBottom rfl⟩
theorem xl_setNumber__top {post : SX → Prop} {x : Int32} (h : ∀ a_top : Nat → Int32, post (f_tokenCount, f_latestPlace, f_stepCount, f_waitingCount, f_stackCount, f_factorCount, a_tokenKind, a_tokenContent, a_stepKind, a_stepToken, a_waitingKind, a_waitingToken, a_present, a_cells, a_leftTop, a_leftBottom, a_rightTop, a_rightBottom, a_top, a_bottom, a_product, a_quotient, a_common, a_spare, a_rest, a_divisor, a_inverse, a_numerator, a_factorDegrees, a_factorPowers, a_factorCells)) : wpX_setNumber__top post (f_tokenCount, f_latestPlace, f_stepCount, f_waitingCount, f_stackCount, f_factorCount, a_tokenKind, a_tokenContent, a_stepKind, a_stepToken, a_waitingKind, a_waitingToken, a_present, a_cells, a_leftTop, a_leftBottom, a_rightTop, a_rightBottom, a_top, a_bottom, a_product, a_quotient, a_common, a_spare, a_rest, a_divisor, a_inverse, a_numerator, a_factorDegrees, a_factorPowers, a_factorCells) x := by
  have key : ∀ d j, ∀ a_top : Nat → Int32, j + d = 17 → wX_setNumber__top_2 post x f_tokenCount f_latestPlace f_stepCount f_waitingCount f_stackCount f_factorCount (d + 1) (nI j) a_tokenKind a_tokenContent a_stepKind a_stepToken a_waitingKind a_waitingToken a_present a_cells a_leftTop a_leftBottom a_rightTop a_rightBottom a_top a_bottom a_product a_quotient a_common a_spare a_rest a_divisor a_inverse a_numerator a_factorDegrees a_factorPowers a_factorCells := by
    intro d
    induction d with
    | zero =>
      intro j a_top hj
      obtain rfl : j = 17 := by omega
      exact br_t (by decide) (nm_e (h _))
    | succ d ih =>
      intro j a_top hj
      exact br_f (xl_17 (by omega)) ⟨vp_in_nI (by omega) (by omega), nm_e (nm_r (nI_1 j) (ih (j + 1) _ (by omega)))⟩
  exact ⟨17, key 16 1 a_top rfl⟩
theorem xl_setNumber__bottom {post : SX → Prop} {x : Int32} (h : ∀ a_bottom : Nat → Int32, post (f_tokenCount, f_latestPlace, f_stepCount, f_waitingCount, f_stackCount, f_factorCount, a_tokenKind, a_tokenContent, a_stepKind, a_stepToken, a_waitingKind, a_waitingToken, a_present, a_cells, a_leftTop, a_leftBottom, a_rightTop, a_rightBottom, a_top, a_bottom, a_product, a_quotient, a_common, a_spare, a_rest, a_divisor, a_inverse, a_numerator, a_factorDegrees, a_factorPowers, a_factorCells)) : wpX_setNumber__bottom post (f_tokenCount, f_latestPlace, f_stepCount, f_waitingCount, f_stackCount, f_factorCount, a_tokenKind, a_tokenContent, a_stepKind, a_stepToken, a_waitingKind, a_waitingToken, a_present, a_cells, a_leftTop, a_leftBottom, a_rightTop, a_rightBottom, a_top, a_bottom, a_product, a_quotient, a_common, a_spare, a_rest, a_divisor, a_inverse, a_numerator, a_factorDegrees, a_factorPowers, a_factorCells) x := by
  have key : ∀ d j, ∀ a_bottom : Nat → Int32, j + d = 17 → wX_setNumber__bottom_2 post x f_tokenCount f_latestPlace f_stepCount f_waitingCount f_stackCount f_factorCount (d + 1) (nI j) a_tokenKind a_tokenContent a_stepKind a_stepToken a_waitingKind a_waitingToken a_present a_cells a_leftTop a_leftBottom a_rightTop a_rightBottom a_top a_bottom a_product a_quotient a_common a_spare a_rest a_divisor a_inverse a_numerator a_factorDegrees a_factorPowers a_factorCells := by
    intro d
    induction d with
    | zero =>
      intro j a_bottom hj
      obtain rfl : j = 17 := by omega
      exact br_t (by decide) (nm_e (h _))
    | succ d ih =>
      intro j a_bottom hj
      exact br_f (xl_17 (by omega)) ⟨vp_in_nI (by omega) (by omega), nm_e (nm_r (nI_1 j) (ih (j + 1) _ (by omega)))⟩
  exact ⟨17, key 16 1 a_bottom rfl⟩
theorem xl_setNumber__product {post : SX → Prop} {x : Int32} (h : ∀ a_product : Nat → Int32, post (f_tokenCount, f_latestPlace, f_stepCount, f_waitingCount, f_stackCount, f_factorCount, a_tokenKind, a_tokenContent, a_stepKind, a_stepToken, a_waitingKind, a_waitingToken, a_present, a_cells, a_leftTop, a_leftBottom, a_rightTop, a_rightBottom, a_top, a_bottom, a_product, a_quotient, a_common, a_spare, a_rest, a_divisor, a_inverse, a_numerator, a_factorDegrees, a_factorPowers, a_factorCells)) : wpX_setNumber__product post (f_tokenCount, f_latestPlace, f_stepCount, f_waitingCount, f_stackCount, f_factorCount, a_tokenKind, a_tokenContent, a_stepKind, a_stepToken, a_waitingKind, a_waitingToken, a_present, a_cells, a_leftTop, a_leftBottom, a_rightTop, a_rightBottom, a_top, a_bottom, a_product, a_quotient, a_common, a_spare, a_rest, a_divisor, a_inverse, a_numerator, a_factorDegrees, a_factorPowers, a_factorCells) x := by
  have key : ∀ d j, ∀ a_product : Nat → Int32, j + d = 17 → wX_setNumber__product_2 post x f_tokenCount f_latestPlace f_stepCount f_waitingCount f_stackCount f_factorCount (d + 1) (nI j) a_tokenKind a_tokenContent a_stepKind a_stepToken a_waitingKind a_waitingToken a_present a_cells a_leftTop a_leftBottom a_rightTop a_rightBottom a_top a_bottom a_product a_quotient a_common a_spare a_rest a_divisor a_inverse a_numerator a_factorDegrees a_factorPowers a_factorCells := by
    intro d
    induction d with
    | zero =>
      intro j a_product hj
      obtain rfl : j = 17 := by omega
      exact br_t (by decide) (nm_e (h _))
    | succ d ih =>
      intro j a_product hj
      exact br_f (xl_17 (by omega)) ⟨vp_in_nI (by omega) (by omega), nm_e (nm_r (nI_1 j) (ih (j + 1) _ (by omega)))⟩
  exact ⟨17, key 16 1 a_product rfl⟩
theorem xl_setNumber__spare {post : SX → Prop} {x : Int32} (h : ∀ a_spare : Nat → Int32, post (f_tokenCount, f_latestPlace, f_stepCount, f_waitingCount, f_stackCount, f_factorCount, a_tokenKind, a_tokenContent, a_stepKind, a_stepToken, a_waitingKind, a_waitingToken, a_present, a_cells, a_leftTop, a_leftBottom, a_rightTop, a_rightBottom, a_top, a_bottom, a_product, a_quotient, a_common, a_spare, a_rest, a_divisor, a_inverse, a_numerator, a_factorDegrees, a_factorPowers, a_factorCells)) : wpX_setNumber__spare post (f_tokenCount, f_latestPlace, f_stepCount, f_waitingCount, f_stackCount, f_factorCount, a_tokenKind, a_tokenContent, a_stepKind, a_stepToken, a_waitingKind, a_waitingToken, a_present, a_cells, a_leftTop, a_leftBottom, a_rightTop, a_rightBottom, a_top, a_bottom, a_product, a_quotient, a_common, a_spare, a_rest, a_divisor, a_inverse, a_numerator, a_factorDegrees, a_factorPowers, a_factorCells) x := by
  have key : ∀ d j, ∀ a_spare : Nat → Int32, j + d = 17 → wX_setNumber__spare_2 post x f_tokenCount f_latestPlace f_stepCount f_waitingCount f_stackCount f_factorCount (d + 1) (nI j) a_tokenKind a_tokenContent a_stepKind a_stepToken a_waitingKind a_waitingToken a_present a_cells a_leftTop a_leftBottom a_rightTop a_rightBottom a_top a_bottom a_product a_quotient a_common a_spare a_rest a_divisor a_inverse a_numerator a_factorDegrees a_factorPowers a_factorCells := by
    intro d
    induction d with
    | zero =>
      intro j a_spare hj
      obtain rfl : j = 17 := by omega
      exact br_t (by decide) (nm_e (h _))
    | succ d ih =>
      intro j a_spare hj
      exact br_f (xl_17 (by omega)) ⟨vp_in_nI (by omega) (by omega), nm_e (nm_r (nI_1 j) (ih (j + 1) _ (by omega)))⟩
  exact ⟨17, key 16 1 a_spare rfl⟩
theorem xl_setNumber__quotient {post : SX → Prop} {x : Int32} (h : ∀ a_quotient : Nat → Int32, post (f_tokenCount, f_latestPlace, f_stepCount, f_waitingCount, f_stackCount, f_factorCount, a_tokenKind, a_tokenContent, a_stepKind, a_stepToken, a_waitingKind, a_waitingToken, a_present, a_cells, a_leftTop, a_leftBottom, a_rightTop, a_rightBottom, a_top, a_bottom, a_product, a_quotient, a_common, a_spare, a_rest, a_divisor, a_inverse, a_numerator, a_factorDegrees, a_factorPowers, a_factorCells)) : wpX_setNumber__quotient post (f_tokenCount, f_latestPlace, f_stepCount, f_waitingCount, f_stackCount, f_factorCount, a_tokenKind, a_tokenContent, a_stepKind, a_stepToken, a_waitingKind, a_waitingToken, a_present, a_cells, a_leftTop, a_leftBottom, a_rightTop, a_rightBottom, a_top, a_bottom, a_product, a_quotient, a_common, a_spare, a_rest, a_divisor, a_inverse, a_numerator, a_factorDegrees, a_factorPowers, a_factorCells) x := by
  have key : ∀ d j, ∀ a_quotient : Nat → Int32, j + d = 17 → wX_setNumber__quotient_2 post x f_tokenCount f_latestPlace f_stepCount f_waitingCount f_stackCount f_factorCount (d + 1) (nI j) a_tokenKind a_tokenContent a_stepKind a_stepToken a_waitingKind a_waitingToken a_present a_cells a_leftTop a_leftBottom a_rightTop a_rightBottom a_top a_bottom a_product a_quotient a_common a_spare a_rest a_divisor a_inverse a_numerator a_factorDegrees a_factorPowers a_factorCells := by
    intro d
    induction d with
    | zero =>
      intro j a_quotient hj
      obtain rfl : j = 17 := by omega
      exact br_t (by decide) (nm_e (h _))
    | succ d ih =>
      intro j a_quotient hj
      exact br_f (xl_17 (by omega)) ⟨vp_in_nI (by omega) (by omega), nm_e (nm_r (nI_1 j) (ih (j + 1) _ (by omega)))⟩
  exact ⟨17, key 16 1 a_quotient rfl⟩
theorem xl_setNumber__rest {post : SX → Prop} {x : Int32} (h : ∀ a_rest : Nat → Int32, post (f_tokenCount, f_latestPlace, f_stepCount, f_waitingCount, f_stackCount, f_factorCount, a_tokenKind, a_tokenContent, a_stepKind, a_stepToken, a_waitingKind, a_waitingToken, a_present, a_cells, a_leftTop, a_leftBottom, a_rightTop, a_rightBottom, a_top, a_bottom, a_product, a_quotient, a_common, a_spare, a_rest, a_divisor, a_inverse, a_numerator, a_factorDegrees, a_factorPowers, a_factorCells)) : wpX_setNumber__rest post (f_tokenCount, f_latestPlace, f_stepCount, f_waitingCount, f_stackCount, f_factorCount, a_tokenKind, a_tokenContent, a_stepKind, a_stepToken, a_waitingKind, a_waitingToken, a_present, a_cells, a_leftTop, a_leftBottom, a_rightTop, a_rightBottom, a_top, a_bottom, a_product, a_quotient, a_common, a_spare, a_rest, a_divisor, a_inverse, a_numerator, a_factorDegrees, a_factorPowers, a_factorCells) x := by
  have key : ∀ d j, ∀ a_rest : Nat → Int32, j + d = 17 → wX_setNumber__rest_2 post x f_tokenCount f_latestPlace f_stepCount f_waitingCount f_stackCount f_factorCount (d + 1) (nI j) a_tokenKind a_tokenContent a_stepKind a_stepToken a_waitingKind a_waitingToken a_present a_cells a_leftTop a_leftBottom a_rightTop a_rightBottom a_top a_bottom a_product a_quotient a_common a_spare a_rest a_divisor a_inverse a_numerator a_factorDegrees a_factorPowers a_factorCells := by
    intro d
    induction d with
    | zero =>
      intro j a_rest hj
      obtain rfl : j = 17 := by omega
      exact br_t (by decide) (nm_e (h _))
    | succ d ih =>
      intro j a_rest hj
      exact br_f (xl_17 (by omega)) ⟨vp_in_nI (by omega) (by omega), nm_e (nm_r (nI_1 j) (ih (j + 1) _ (by omega)))⟩
  exact ⟨17, key 16 1 a_rest rfl⟩
theorem xl_setNumber__divisor {post : SX → Prop} {x : Int32} (h : ∀ a_divisor : Nat → Int32, post (f_tokenCount, f_latestPlace, f_stepCount, f_waitingCount, f_stackCount, f_factorCount, a_tokenKind, a_tokenContent, a_stepKind, a_stepToken, a_waitingKind, a_waitingToken, a_present, a_cells, a_leftTop, a_leftBottom, a_rightTop, a_rightBottom, a_top, a_bottom, a_product, a_quotient, a_common, a_spare, a_rest, a_divisor, a_inverse, a_numerator, a_factorDegrees, a_factorPowers, a_factorCells)) : wpX_setNumber__divisor post (f_tokenCount, f_latestPlace, f_stepCount, f_waitingCount, f_stackCount, f_factorCount, a_tokenKind, a_tokenContent, a_stepKind, a_stepToken, a_waitingKind, a_waitingToken, a_present, a_cells, a_leftTop, a_leftBottom, a_rightTop, a_rightBottom, a_top, a_bottom, a_product, a_quotient, a_common, a_spare, a_rest, a_divisor, a_inverse, a_numerator, a_factorDegrees, a_factorPowers, a_factorCells) x := by
  have key : ∀ d j, ∀ a_divisor : Nat → Int32, j + d = 17 → wX_setNumber__divisor_2 post x f_tokenCount f_latestPlace f_stepCount f_waitingCount f_stackCount f_factorCount (d + 1) (nI j) a_tokenKind a_tokenContent a_stepKind a_stepToken a_waitingKind a_waitingToken a_present a_cells a_leftTop a_leftBottom a_rightTop a_rightBottom a_top a_bottom a_product a_quotient a_common a_spare a_rest a_divisor a_inverse a_numerator a_factorDegrees a_factorPowers a_factorCells := by
    intro d
    induction d with
    | zero =>
      intro j a_divisor hj
      obtain rfl : j = 17 := by omega
      exact br_t (by decide) (nm_e (h _))
    | succ d ih =>
      intro j a_divisor hj
      exact br_f (xl_17 (by omega)) ⟨vp_in_nI (by omega) (by omega), nm_e (nm_r (nI_1 j) (ih (j + 1) _ (by omega)))⟩
  exact ⟨17, key 16 1 a_divisor rfl⟩
theorem xl_setNumber__inverse {post : SX → Prop} {x : Int32} (h : ∀ a_inverse : Nat → Int32, post (f_tokenCount, f_latestPlace, f_stepCount, f_waitingCount, f_stackCount, f_factorCount, a_tokenKind, a_tokenContent, a_stepKind, a_stepToken, a_waitingKind, a_waitingToken, a_present, a_cells, a_leftTop, a_leftBottom, a_rightTop, a_rightBottom, a_top, a_bottom, a_product, a_quotient, a_common, a_spare, a_rest, a_divisor, a_inverse, a_numerator, a_factorDegrees, a_factorPowers, a_factorCells)) : wpX_setNumber__inverse post (f_tokenCount, f_latestPlace, f_stepCount, f_waitingCount, f_stackCount, f_factorCount, a_tokenKind, a_tokenContent, a_stepKind, a_stepToken, a_waitingKind, a_waitingToken, a_present, a_cells, a_leftTop, a_leftBottom, a_rightTop, a_rightBottom, a_top, a_bottom, a_product, a_quotient, a_common, a_spare, a_rest, a_divisor, a_inverse, a_numerator, a_factorDegrees, a_factorPowers, a_factorCells) x := by
  have key : ∀ d j, ∀ a_inverse : Nat → Int32, j + d = 17 → wX_setNumber__inverse_2 post x f_tokenCount f_latestPlace f_stepCount f_waitingCount f_stackCount f_factorCount (d + 1) (nI j) a_tokenKind a_tokenContent a_stepKind a_stepToken a_waitingKind a_waitingToken a_present a_cells a_leftTop a_leftBottom a_rightTop a_rightBottom a_top a_bottom a_product a_quotient a_common a_spare a_rest a_divisor a_inverse a_numerator a_factorDegrees a_factorPowers a_factorCells := by
    intro d
    induction d with
    | zero =>
      intro j a_inverse hj
      obtain rfl : j = 17 := by omega
      exact br_t (by decide) (nm_e (h _))
    | succ d ih =>
      intro j a_inverse hj
      exact br_f (xl_17 (by omega)) ⟨vp_in_nI (by omega) (by omega), nm_e (nm_r (nI_1 j) (ih (j + 1) _ (by omega)))⟩
  exact ⟨17, key 16 1 a_inverse rfl⟩
end
end
section
/-! The class's leaves: they end, whatever the arrays hold (written by wip/p2/gen_x.py) -/
section
variable {f_tokenCount f_latestPlace f_stepCount f_waitingCount f_stackCount f_factorCount : Int32} {a_tokenKind a_tokenContent a_stepKind a_stepToken a_waitingKind a_waitingToken a_present a_cells a_leftTop a_leftBottom a_rightTop a_rightBottom a_top a_bottom a_product a_quotient a_common a_spare a_rest a_divisor a_inverse a_numerator a_factorDegrees a_factorPowers a_factorCells : Nat → Int32}
theorem xl_load__leftTop {post : SX → Prop} {p0 p1 : Int32} (hp : p1 = 0 ∨ p1 = 1) (h : ∀ a_leftTop : Nat → Int32, post (f_tokenCount, f_latestPlace, f_stepCount, f_waitingCount, f_stackCount, f_factorCount, a_tokenKind, a_tokenContent, a_stepKind, a_stepToken, a_waitingKind, a_waitingToken, a_present, a_cells, a_leftTop, a_leftBottom, a_rightTop, a_rightBottom, a_top, a_bottom, a_product, a_quotient, a_common, a_spare, a_rest, a_divisor, a_inverse, a_numerator, a_factorDegrees, a_factorPowers, a_factorCells)) : wpX_load__leftTop post (f_tokenCount, f_latestPlace, f_stepCount, f_waitingCount, f_stackCount, f_factorCount, a_tokenKind, a_tokenContent, a_stepKind, a_stepToken, a_waitingKind, a_waitingToken, a_present, a_cells, a_leftTop, a_leftBottom, a_rightTop, a_rightBottom, a_top, a_bottom, a_product, a_quotient, a_common, a_spare, a_rest, a_divisor, a_inverse, a_numerator, a_factorDegrees, a_factorPowers, a_factorCells) p0 p1 := by
  have key : ∀ s d j, ∀ a_leftTop : Nat → Int32, s + 9 ≤ 558 → j + d = 9 → wX_load__leftTop_28 post (nI s) f_tokenCount f_latestPlace f_stepCount f_waitingCount f_stackCount f_factorCount (d + 1) (nI j) a_tokenKind a_tokenContent a_stepKind a_stepToken a_waitingKind a_waitingToken a_present a_cells a_leftTop a_leftBottom a_rightTop a_rightBottom a_top a_bottom a_product a_quotient a_common a_spare a_rest a_divisor a_inverse a_numerator a_factorDegrees a_factorPowers a_factorCells := by
    intro s d
    induction d with
    | zero =>
      intro j a_leftTop hs hj
      obtain rfl : j = 9 := by omega
      exact br_t (by decide) (h _)
    | succ d ih =>
      intro j a_leftTop hs hj
      exact br_f (nI_ge (b := 9) (by omega) (by decide)) ⟨pk_in (s + j) 558 (by omega) (nI_add s j), vp_in_nI (by omega) (by omega), nm_e (nm_r (nI_1 j) (ih (j + 1) _ hs (by omega)))⟩
  unfold wpX_load__leftTop
  refine xl_setNumber__leftTop (fun a_leftTop => ?_)
  by_cases c0 : p0 < 0
  · exact br_t c0 (h _)
  · by_cases c1 : 31 ≤ p0
    · exact br_f c0 (br_t c1 (h _))
    · obtain ⟨s, hs, e⟩ := xl_st c0 c1 hp
      refine br_f c0 (br_f c1 (nm_r e ⟨10, key s 9 0 _ hs rfl⟩))
theorem xl_load__leftBottom {post : SX → Prop} {p0 p1 : Int32} (hp : p1 = 0 ∨ p1 = 1) (h : ∀ a_leftBottom : Nat → Int32, post (f_tokenCount, f_latestPlace, f_stepCount, f_waitingCount, f_stackCount, f_factorCount, a_tokenKind, a_tokenContent, a_stepKind, a_stepToken, a_waitingKind, a_waitingToken, a_present, a_cells, a_leftTop, a_leftBottom, a_rightTop, a_rightBottom, a_top, a_bottom, a_product, a_quotient, a_common, a_spare, a_rest, a_divisor, a_inverse, a_numerator, a_factorDegrees, a_factorPowers, a_factorCells)) : wpX_load__leftBottom post (f_tokenCount, f_latestPlace, f_stepCount, f_waitingCount, f_stackCount, f_factorCount, a_tokenKind, a_tokenContent, a_stepKind, a_stepToken, a_waitingKind, a_waitingToken, a_present, a_cells, a_leftTop, a_leftBottom, a_rightTop, a_rightBottom, a_top, a_bottom, a_product, a_quotient, a_common, a_spare, a_rest, a_divisor, a_inverse, a_numerator, a_factorDegrees, a_factorPowers, a_factorCells) p0 p1 := by
  have key : ∀ s d j, ∀ a_leftBottom : Nat → Int32, s + 9 ≤ 558 → j + d = 9 → wX_load__leftBottom_28 post (nI s) f_tokenCount f_latestPlace f_stepCount f_waitingCount f_stackCount f_factorCount (d + 1) (nI j) a_tokenKind a_tokenContent a_stepKind a_stepToken a_waitingKind a_waitingToken a_present a_cells a_leftTop a_leftBottom a_rightTop a_rightBottom a_top a_bottom a_product a_quotient a_common a_spare a_rest a_divisor a_inverse a_numerator a_factorDegrees a_factorPowers a_factorCells := by
    intro s d
    induction d with
    | zero =>
      intro j a_leftBottom hs hj
      obtain rfl : j = 9 := by omega
      exact br_t (by decide) (h _)
    | succ d ih =>
      intro j a_leftBottom hs hj
      exact br_f (nI_ge (b := 9) (by omega) (by decide)) ⟨pk_in (s + j) 558 (by omega) (nI_add s j), vp_in_nI (by omega) (by omega), nm_e (nm_r (nI_1 j) (ih (j + 1) _ hs (by omega)))⟩
  unfold wpX_load__leftBottom
  refine xl_setNumber__leftBottom (fun a_leftBottom => ?_)
  by_cases c0 : p0 < 0
  · exact br_t c0 (h _)
  · by_cases c1 : 31 ≤ p0
    · exact br_f c0 (br_t c1 (h _))
    · obtain ⟨s, hs, e⟩ := xl_st c0 c1 hp
      refine br_f c0 (br_f c1 (nm_r e ⟨10, key s 9 0 _ hs rfl⟩))
theorem xl_load__rightTop {post : SX → Prop} {p0 p1 : Int32} (hp : p1 = 0 ∨ p1 = 1) (h : ∀ a_rightTop : Nat → Int32, post (f_tokenCount, f_latestPlace, f_stepCount, f_waitingCount, f_stackCount, f_factorCount, a_tokenKind, a_tokenContent, a_stepKind, a_stepToken, a_waitingKind, a_waitingToken, a_present, a_cells, a_leftTop, a_leftBottom, a_rightTop, a_rightBottom, a_top, a_bottom, a_product, a_quotient, a_common, a_spare, a_rest, a_divisor, a_inverse, a_numerator, a_factorDegrees, a_factorPowers, a_factorCells)) : wpX_load__rightTop post (f_tokenCount, f_latestPlace, f_stepCount, f_waitingCount, f_stackCount, f_factorCount, a_tokenKind, a_tokenContent, a_stepKind, a_stepToken, a_waitingKind, a_waitingToken, a_present, a_cells, a_leftTop, a_leftBottom, a_rightTop, a_rightBottom, a_top, a_bottom, a_product, a_quotient, a_common, a_spare, a_rest, a_divisor, a_inverse, a_numerator, a_factorDegrees, a_factorPowers, a_factorCells) p0 p1 := by
  have key : ∀ s d j, ∀ a_rightTop : Nat → Int32, s + 9 ≤ 558 → j + d = 9 → wX_load__rightTop_28 post (nI s) f_tokenCount f_latestPlace f_stepCount f_waitingCount f_stackCount f_factorCount (d + 1) (nI j) a_tokenKind a_tokenContent a_stepKind a_stepToken a_waitingKind a_waitingToken a_present a_cells a_leftTop a_leftBottom a_rightTop a_rightBottom a_top a_bottom a_product a_quotient a_common a_spare a_rest a_divisor a_inverse a_numerator a_factorDegrees a_factorPowers a_factorCells := by
    intro s d
    induction d with
    | zero =>
      intro j a_rightTop hs hj
      obtain rfl : j = 9 := by omega
      exact br_t (by decide) (h _)
    | succ d ih =>
      intro j a_rightTop hs hj
      exact br_f (nI_ge (b := 9) (by omega) (by decide)) ⟨pk_in (s + j) 558 (by omega) (nI_add s j), vp_in_nI (by omega) (by omega), nm_e (nm_r (nI_1 j) (ih (j + 1) _ hs (by omega)))⟩
  unfold wpX_load__rightTop
  refine xl_setNumber__rightTop (fun a_rightTop => ?_)
  by_cases c0 : p0 < 0
  · exact br_t c0 (h _)
  · by_cases c1 : 31 ≤ p0
    · exact br_f c0 (br_t c1 (h _))
    · obtain ⟨s, hs, e⟩ := xl_st c0 c1 hp
      refine br_f c0 (br_f c1 (nm_r e ⟨10, key s 9 0 _ hs rfl⟩))
theorem xl_load__rightBottom {post : SX → Prop} {p0 p1 : Int32} (hp : p1 = 0 ∨ p1 = 1) (h : ∀ a_rightBottom : Nat → Int32, post (f_tokenCount, f_latestPlace, f_stepCount, f_waitingCount, f_stackCount, f_factorCount, a_tokenKind, a_tokenContent, a_stepKind, a_stepToken, a_waitingKind, a_waitingToken, a_present, a_cells, a_leftTop, a_leftBottom, a_rightTop, a_rightBottom, a_top, a_bottom, a_product, a_quotient, a_common, a_spare, a_rest, a_divisor, a_inverse, a_numerator, a_factorDegrees, a_factorPowers, a_factorCells)) : wpX_load__rightBottom post (f_tokenCount, f_latestPlace, f_stepCount, f_waitingCount, f_stackCount, f_factorCount, a_tokenKind, a_tokenContent, a_stepKind, a_stepToken, a_waitingKind, a_waitingToken, a_present, a_cells, a_leftTop, a_leftBottom, a_rightTop, a_rightBottom, a_top, a_bottom, a_product, a_quotient, a_common, a_spare, a_rest, a_divisor, a_inverse, a_numerator, a_factorDegrees, a_factorPowers, a_factorCells) p0 p1 := by
  have key : ∀ s d j, ∀ a_rightBottom : Nat → Int32, s + 9 ≤ 558 → j + d = 9 → wX_load__rightBottom_28 post (nI s) f_tokenCount f_latestPlace f_stepCount f_waitingCount f_stackCount f_factorCount (d + 1) (nI j) a_tokenKind a_tokenContent a_stepKind a_stepToken a_waitingKind a_waitingToken a_present a_cells a_leftTop a_leftBottom a_rightTop a_rightBottom a_top a_bottom a_product a_quotient a_common a_spare a_rest a_divisor a_inverse a_numerator a_factorDegrees a_factorPowers a_factorCells := by
    intro s d
    induction d with
    | zero =>
      intro j a_rightBottom hs hj
      obtain rfl : j = 9 := by omega
      exact br_t (by decide) (h _)
    | succ d ih =>
      intro j a_rightBottom hs hj
      exact br_f (nI_ge (b := 9) (by omega) (by decide)) ⟨pk_in (s + j) 558 (by omega) (nI_add s j), vp_in_nI (by omega) (by omega), nm_e (nm_r (nI_1 j) (ih (j + 1) _ hs (by omega)))⟩
  unfold wpX_load__rightBottom
  refine xl_setNumber__rightBottom (fun a_rightBottom => ?_)
  by_cases c0 : p0 < 0
  · exact br_t c0 (h _)
  · by_cases c1 : 31 ≤ p0
    · exact br_f c0 (br_t c1 (h _))
    · obtain ⟨s, hs, e⟩ := xl_st c0 c1 hp
      refine br_f c0 (br_f c1 (nm_r e ⟨10, key s 9 0 _ hs rfl⟩))
theorem xl_load__top {post : SX → Prop} {p0 p1 : Int32} (hp : p1 = 0 ∨ p1 = 1) (h : ∀ a_top : Nat → Int32, post (f_tokenCount, f_latestPlace, f_stepCount, f_waitingCount, f_stackCount, f_factorCount, a_tokenKind, a_tokenContent, a_stepKind, a_stepToken, a_waitingKind, a_waitingToken, a_present, a_cells, a_leftTop, a_leftBottom, a_rightTop, a_rightBottom, a_top, a_bottom, a_product, a_quotient, a_common, a_spare, a_rest, a_divisor, a_inverse, a_numerator, a_factorDegrees, a_factorPowers, a_factorCells)) : wpX_load__top post (f_tokenCount, f_latestPlace, f_stepCount, f_waitingCount, f_stackCount, f_factorCount, a_tokenKind, a_tokenContent, a_stepKind, a_stepToken, a_waitingKind, a_waitingToken, a_present, a_cells, a_leftTop, a_leftBottom, a_rightTop, a_rightBottom, a_top, a_bottom, a_product, a_quotient, a_common, a_spare, a_rest, a_divisor, a_inverse, a_numerator, a_factorDegrees, a_factorPowers, a_factorCells) p0 p1 := by
  have key : ∀ s d j, ∀ a_top : Nat → Int32, s + 9 ≤ 558 → j + d = 9 → wX_load__top_28 post (nI s) f_tokenCount f_latestPlace f_stepCount f_waitingCount f_stackCount f_factorCount (d + 1) (nI j) a_tokenKind a_tokenContent a_stepKind a_stepToken a_waitingKind a_waitingToken a_present a_cells a_leftTop a_leftBottom a_rightTop a_rightBottom a_top a_bottom a_product a_quotient a_common a_spare a_rest a_divisor a_inverse a_numerator a_factorDegrees a_factorPowers a_factorCells := by
    intro s d
    induction d with
    | zero =>
      intro j a_top hs hj
      obtain rfl : j = 9 := by omega
      exact br_t (by decide) (h _)
    | succ d ih =>
      intro j a_top hs hj
      exact br_f (nI_ge (b := 9) (by omega) (by decide)) ⟨pk_in (s + j) 558 (by omega) (nI_add s j), vp_in_nI (by omega) (by omega), nm_e (nm_r (nI_1 j) (ih (j + 1) _ hs (by omega)))⟩
  unfold wpX_load__top
  refine xl_setNumber__top (fun a_top => ?_)
  by_cases c0 : p0 < 0
  · exact br_t c0 (h _)
  · by_cases c1 : 31 ≤ p0
    · exact br_f c0 (br_t c1 (h _))
    · obtain ⟨s, hs, e⟩ := xl_st c0 c1 hp
      refine br_f c0 (br_f c1 (nm_r e ⟨10, key s 9 0 _ hs rfl⟩))
theorem xl_load__bottom {post : SX → Prop} {p0 p1 : Int32} (hp : p1 = 0 ∨ p1 = 1) (h : ∀ a_bottom : Nat → Int32, post (f_tokenCount, f_latestPlace, f_stepCount, f_waitingCount, f_stackCount, f_factorCount, a_tokenKind, a_tokenContent, a_stepKind, a_stepToken, a_waitingKind, a_waitingToken, a_present, a_cells, a_leftTop, a_leftBottom, a_rightTop, a_rightBottom, a_top, a_bottom, a_product, a_quotient, a_common, a_spare, a_rest, a_divisor, a_inverse, a_numerator, a_factorDegrees, a_factorPowers, a_factorCells)) : wpX_load__bottom post (f_tokenCount, f_latestPlace, f_stepCount, f_waitingCount, f_stackCount, f_factorCount, a_tokenKind, a_tokenContent, a_stepKind, a_stepToken, a_waitingKind, a_waitingToken, a_present, a_cells, a_leftTop, a_leftBottom, a_rightTop, a_rightBottom, a_top, a_bottom, a_product, a_quotient, a_common, a_spare, a_rest, a_divisor, a_inverse, a_numerator, a_factorDegrees, a_factorPowers, a_factorCells) p0 p1 := by
  have key : ∀ s d j, ∀ a_bottom : Nat → Int32, s + 9 ≤ 558 → j + d = 9 → wX_load__bottom_28 post (nI s) f_tokenCount f_latestPlace f_stepCount f_waitingCount f_stackCount f_factorCount (d + 1) (nI j) a_tokenKind a_tokenContent a_stepKind a_stepToken a_waitingKind a_waitingToken a_present a_cells a_leftTop a_leftBottom a_rightTop a_rightBottom a_top a_bottom a_product a_quotient a_common a_spare a_rest a_divisor a_inverse a_numerator a_factorDegrees a_factorPowers a_factorCells := by
    intro s d
    induction d with
    | zero =>
      intro j a_bottom hs hj
      obtain rfl : j = 9 := by omega
      exact br_t (by decide) (h _)
    | succ d ih =>
      intro j a_bottom hs hj
      exact br_f (nI_ge (b := 9) (by omega) (by decide)) ⟨pk_in (s + j) 558 (by omega) (nI_add s j), vp_in_nI (by omega) (by omega), nm_e (nm_r (nI_1 j) (ih (j + 1) _ hs (by omega)))⟩
  unfold wpX_load__bottom
  refine xl_setNumber__bottom (fun a_bottom => ?_)
  by_cases c0 : p0 < 0
  · exact br_t c0 (h _)
  · by_cases c1 : 31 ≤ p0
    · exact br_f c0 (br_t c1 (h _))
    · obtain ⟨s, hs, e⟩ := xl_st c0 c1 hp
      refine br_f c0 (br_f c1 (nm_r e ⟨10, key s 9 0 _ hs rfl⟩))
theorem xl_keep__top {post : SX → Prop} {p0 p1 : Int32} (hp : p1 = 0 ∨ p1 = 1) (h : ∀ a_cells : Nat → Int32, post (f_tokenCount, f_latestPlace, f_stepCount, f_waitingCount, f_stackCount, f_factorCount, a_tokenKind, a_tokenContent, a_stepKind, a_stepToken, a_waitingKind, a_waitingToken, a_present, a_cells, a_leftTop, a_leftBottom, a_rightTop, a_rightBottom, a_top, a_bottom, a_product, a_quotient, a_common, a_spare, a_rest, a_divisor, a_inverse, a_numerator, a_factorDegrees, a_factorPowers, a_factorCells)) : wpX_keep__top post (f_tokenCount, f_latestPlace, f_stepCount, f_waitingCount, f_stackCount, f_factorCount, a_tokenKind, a_tokenContent, a_stepKind, a_stepToken, a_waitingKind, a_waitingToken, a_present, a_cells, a_leftTop, a_leftBottom, a_rightTop, a_rightBottom, a_top, a_bottom, a_product, a_quotient, a_common, a_spare, a_rest, a_divisor, a_inverse, a_numerator, a_factorDegrees, a_factorPowers, a_factorCells) p0 p1 := by
  have key : ∀ s d j, ∀ a_cells : Nat → Int32, s + 9 ≤ 558 → j + d = 9 → wX_keep__top_23 post (nI s) f_tokenCount f_latestPlace f_stepCount f_waitingCount f_stackCount f_factorCount (d + 1) (nI j) a_tokenKind a_tokenContent a_stepKind a_stepToken a_waitingKind a_waitingToken a_present a_cells a_leftTop a_leftBottom a_rightTop a_rightBottom a_top a_bottom a_product a_quotient a_common a_spare a_rest a_divisor a_inverse a_numerator a_factorDegrees a_factorPowers a_factorCells := by
    intro s d
    induction d with
    | zero =>
      intro j a_cells hs hj
      obtain rfl : j = 9 := by omega
      exact br_t (by decide) (h _)
    | succ d ih =>
      intro j a_cells hs hj
      exact br_f (nI_ge (b := 9) (by omega) (by decide)) ⟨vp_in_nI (by omega) (by omega), pk_in (s + j) 558 (by omega) (nI_add s j), nm_e (nm_r (nI_1 j) (ih (j + 1) _ hs (by omega)))⟩
  unfold wpX_keep__top
  by_cases c0 : p0 < 0
  · exact br_t c0 (h _)
  · by_cases c1 : 31 ≤ p0
    · exact br_f c0 (br_t c1 (h _))
    · obtain ⟨s, hs, e⟩ := xl_st c0 c1 hp
      refine br_f c0 (br_f c1 (nm_r e ⟨10, key s 9 0 _ hs rfl⟩))
theorem xl_keep__bottom {post : SX → Prop} {p0 p1 : Int32} (hp : p1 = 0 ∨ p1 = 1) (h : ∀ a_cells : Nat → Int32, post (f_tokenCount, f_latestPlace, f_stepCount, f_waitingCount, f_stackCount, f_factorCount, a_tokenKind, a_tokenContent, a_stepKind, a_stepToken, a_waitingKind, a_waitingToken, a_present, a_cells, a_leftTop, a_leftBottom, a_rightTop, a_rightBottom, a_top, a_bottom, a_product, a_quotient, a_common, a_spare, a_rest, a_divisor, a_inverse, a_numerator, a_factorDegrees, a_factorPowers, a_factorCells)) : wpX_keep__bottom post (f_tokenCount, f_latestPlace, f_stepCount, f_waitingCount, f_stackCount, f_factorCount, a_tokenKind, a_tokenContent, a_stepKind, a_stepToken, a_waitingKind, a_waitingToken, a_present, a_cells, a_leftTop, a_leftBottom, a_rightTop, a_rightBottom, a_top, a_bottom, a_product, a_quotient, a_common, a_spare, a_rest, a_divisor, a_inverse, a_numerator, a_factorDegrees, a_factorPowers, a_factorCells) p0 p1 := by
  have key : ∀ s d j, ∀ a_cells : Nat → Int32, s + 9 ≤ 558 → j + d = 9 → wX_keep__bottom_23 post (nI s) f_tokenCount f_latestPlace f_stepCount f_waitingCount f_stackCount f_factorCount (d + 1) (nI j) a_tokenKind a_tokenContent a_stepKind a_stepToken a_waitingKind a_waitingToken a_present a_cells a_leftTop a_leftBottom a_rightTop a_rightBottom a_top a_bottom a_product a_quotient a_common a_spare a_rest a_divisor a_inverse a_numerator a_factorDegrees a_factorPowers a_factorCells := by
    intro s d
    induction d with
    | zero =>
      intro j a_cells hs hj
      obtain rfl : j = 9 := by omega
      exact br_t (by decide) (h _)
    | succ d ih =>
      intro j a_cells hs hj
      exact br_f (nI_ge (b := 9) (by omega) (by decide)) ⟨vp_in_nI (by omega) (by omega), pk_in (s + j) 558 (by omega) (nI_add s j), nm_e (nm_r (nI_1 j) (ih (j + 1) _ hs (by omega)))⟩
  unfold wpX_keep__bottom
  by_cases c0 : p0 < 0
  · exact br_t c0 (h _)
  · by_cases c1 : 31 ≤ p0
    · exact br_f c0 (br_t c1 (h _))
    · obtain ⟨s, hs, e⟩ := xl_st c0 c1 hp
      refine br_f c0 (br_f c1 (nm_r e ⟨10, key s 9 0 _ hs rfl⟩))
theorem xl_load__rest {post : SX → Prop} {p0 p1 : Int32} (hp : p1 = 0 ∨ p1 = 1) (h : ∀ a_rest : Nat → Int32, post (f_tokenCount, f_latestPlace, f_stepCount, f_waitingCount, f_stackCount, f_factorCount, a_tokenKind, a_tokenContent, a_stepKind, a_stepToken, a_waitingKind, a_waitingToken, a_present, a_cells, a_leftTop, a_leftBottom, a_rightTop, a_rightBottom, a_top, a_bottom, a_product, a_quotient, a_common, a_spare, a_rest, a_divisor, a_inverse, a_numerator, a_factorDegrees, a_factorPowers, a_factorCells)) : wpX_load__rest post (f_tokenCount, f_latestPlace, f_stepCount, f_waitingCount, f_stackCount, f_factorCount, a_tokenKind, a_tokenContent, a_stepKind, a_stepToken, a_waitingKind, a_waitingToken, a_present, a_cells, a_leftTop, a_leftBottom, a_rightTop, a_rightBottom, a_top, a_bottom, a_product, a_quotient, a_common, a_spare, a_rest, a_divisor, a_inverse, a_numerator, a_factorDegrees, a_factorPowers, a_factorCells) p0 p1 := by
  have key : ∀ s d j, ∀ a_rest : Nat → Int32, s + 9 ≤ 558 → j + d = 9 → wX_load__rest_28 post (nI s) f_tokenCount f_latestPlace f_stepCount f_waitingCount f_stackCount f_factorCount (d + 1) (nI j) a_tokenKind a_tokenContent a_stepKind a_stepToken a_waitingKind a_waitingToken a_present a_cells a_leftTop a_leftBottom a_rightTop a_rightBottom a_top a_bottom a_product a_quotient a_common a_spare a_rest a_divisor a_inverse a_numerator a_factorDegrees a_factorPowers a_factorCells := by
    intro s d
    induction d with
    | zero =>
      intro j a_rest hs hj
      obtain rfl : j = 9 := by omega
      exact br_t (by decide) (h _)
    | succ d ih =>
      intro j a_rest hs hj
      exact br_f (nI_ge (b := 9) (by omega) (by decide)) ⟨pk_in (s + j) 558 (by omega) (nI_add s j), vp_in_nI (by omega) (by omega), nm_e (nm_r (nI_1 j) (ih (j + 1) _ hs (by omega)))⟩
  unfold wpX_load__rest
  refine xl_setNumber__rest (fun a_rest => ?_)
  by_cases c0 : p0 < 0
  · exact br_t c0 (h _)
  · by_cases c1 : 31 ≤ p0
    · exact br_f c0 (br_t c1 (h _))
    · obtain ⟨s, hs, e⟩ := xl_st c0 c1 hp
      refine br_f c0 (br_f c1 (nm_r e ⟨10, key s 9 0 _ hs rfl⟩))
end
end
section
/-! The class's leaves: they end, whatever the arrays hold (written by wip/p2/gen_x.py) -/
section
variable {f_tokenCount f_latestPlace f_stepCount f_waitingCount f_stackCount f_factorCount : Int32} {a_tokenKind a_tokenContent a_stepKind a_stepToken a_waitingKind a_waitingToken a_present a_cells a_leftTop a_leftBottom a_rightTop a_rightBottom a_top a_bottom a_product a_quotient a_common a_spare a_rest a_divisor a_inverse a_numerator a_factorDegrees a_factorPowers a_factorCells : Nat → Int32}
theorem xl_multiply__leftTop_rightBottom_top {post : SX → Prop} (h : ∀ a_top : Nat → Int32, post (f_tokenCount, f_latestPlace, f_stepCount, f_waitingCount, f_stackCount, f_factorCount, a_tokenKind, a_tokenContent, a_stepKind, a_stepToken, a_waitingKind, a_waitingToken, a_present, a_cells, a_leftTop, a_leftBottom, a_rightTop, a_rightBottom, a_top, a_bottom, a_product, a_quotient, a_common, a_spare, a_rest, a_divisor, a_inverse, a_numerator, a_factorDegrees, a_factorPowers, a_factorCells)) : wpX_multiply__leftTop_rightBottom_top post (f_tokenCount, f_latestPlace, f_stepCount, f_waitingCount, f_stackCount, f_factorCount, a_tokenKind, a_tokenContent, a_stepKind, a_stepToken, a_waitingKind, a_waitingToken, a_present, a_cells, a_leftTop, a_leftBottom, a_rightTop, a_rightBottom, a_top, a_bottom, a_product, a_quotient, a_common, a_spare, a_rest, a_divisor, a_inverse, a_numerator, a_factorDegrees, a_factorPowers, a_factorCells) := by
  have inner : ∀ (J : Int32 → (Nat → Int32) → (Nat → Int32) → (Nat → Int32) → (Nat → Int32) → (Nat → Int32) → (Nat → Int32) → (Nat → Int32) → (Nat → Int32) → (Nat → Int32) → (Nat → Int32) → (Nat → Int32) → (Nat → Int32) → (Nat → Int32) → (Nat → Int32) → (Nat → Int32) → (Nat → Int32) → (Nat → Int32) → (Nat → Int32) → (Nat → Int32) → (Nat → Int32) → (Nat → Int32) → (Nat → Int32) → (Nat → Int32) → (Nat → Int32) → (Nat → Int32) → Prop) (i : Nat), i < 17 → (∀ a_top : Nat → Int32, J (nI (i + 1)) a_tokenKind a_tokenContent a_stepKind a_stepToken a_waitingKind a_waitingToken a_present a_cells a_leftTop a_leftBottom a_rightTop a_rightBottom a_top a_bottom a_product a_quotient a_common a_spare a_rest a_divisor a_inverse a_numerator a_factorDegrees a_factorPowers a_factorCells) → ∀ d j, ∀ a_top : Nat → Int32, i + j + d = 17 → wX_multiply__leftTop_rightBottom_top_16 post J (nI i) f_tokenCount f_latestPlace f_stepCount f_waitingCount f_stackCount f_factorCount (d + 1) (nI j) a_tokenKind a_tokenContent a_stepKind a_stepToken a_waitingKind a_waitingToken a_present a_cells a_leftTop a_leftBottom a_rightTop a_rightBottom a_top a_bottom a_product a_quotient a_common a_spare a_rest a_divisor a_inverse a_numerator a_factorDegrees a_factorPowers a_factorCells := by
    intro J i hi hJ d
    induction d with
    | zero =>
      intro j a_top hj
      refine br_t ?_ (nm_r (nI_1 i) (hJ _))
      rw [nI_add]; exact nI_le (a := 17) (by omega) (by omega)
    | succ d ih =>
      intro j a_top hj
      have e := pk_in (x := nI i + nI j) (i + j) 17 (by omega) (nI_add i j)
      refine br_f ?_ ⟨e, vp_in_nI (by omega) (by omega), vp_in_nI (by omega) (by omega), by decide, e, nm_e (nm_r (nI_1 j) (ih (j + 1) _ (by omega)))⟩
      rw [nI_add]; exact xl_17 (by omega)
  have outer : ∀ d i, ∀ a_top : Nat → Int32, i + d = 17 → wX_multiply__leftTop_rightBottom_top_7 post f_tokenCount f_latestPlace f_stepCount f_waitingCount f_stackCount f_factorCount (d + 1) (nI i) a_tokenKind a_tokenContent a_stepKind a_stepToken a_waitingKind a_waitingToken a_present a_cells a_leftTop a_leftBottom a_rightTop a_rightBottom a_top a_bottom a_product a_quotient a_common a_spare a_rest a_divisor a_inverse a_numerator a_factorDegrees a_factorPowers a_factorCells := by
    intro d
    induction d with
    | zero =>
      intro i a_top hi
      obtain rfl : i = 17 := by omega
      exact br_t (by decide) (h _)
    | succ d ih =>
      intro i a_top hi
      exact br_f (xl_17 (by omega)) ⟨17 - i + 1, inner _ i (by omega) (fun a_top => ih (i + 1) _ (by omega)) (17 - i) 0 _ (by omega)⟩
  unfold wpX_multiply__leftTop_rightBottom_top
  exact xl_setNumber__top (fun a_top => ⟨18, outer 17 0 _ rfl⟩)
theorem xl_multiply__rightTop_leftBottom_product {post : SX → Prop} (h : ∀ a_product : Nat → Int32, post (f_tokenCount, f_latestPlace, f_stepCount, f_waitingCount, f_stackCount, f_factorCount, a_tokenKind, a_tokenContent, a_stepKind, a_stepToken, a_waitingKind, a_waitingToken, a_present, a_cells, a_leftTop, a_leftBottom, a_rightTop, a_rightBottom, a_top, a_bottom, a_product, a_quotient, a_common, a_spare, a_rest, a_divisor, a_inverse, a_numerator, a_factorDegrees, a_factorPowers, a_factorCells)) : wpX_multiply__rightTop_leftBottom_product post (f_tokenCount, f_latestPlace, f_stepCount, f_waitingCount, f_stackCount, f_factorCount, a_tokenKind, a_tokenContent, a_stepKind, a_stepToken, a_waitingKind, a_waitingToken, a_present, a_cells, a_leftTop, a_leftBottom, a_rightTop, a_rightBottom, a_top, a_bottom, a_product, a_quotient, a_common, a_spare, a_rest, a_divisor, a_inverse, a_numerator, a_factorDegrees, a_factorPowers, a_factorCells) := by
  have inner : ∀ (J : Int32 → (Nat → Int32) → (Nat → Int32) → (Nat → Int32) → (Nat → Int32) → (Nat → Int32) → (Nat → Int32) → (Nat → Int32) → (Nat → Int32) → (Nat → Int32) → (Nat → Int32) → (Nat → Int32) → (Nat → Int32) → (Nat → Int32) → (Nat → Int32) → (Nat → Int32) → (Nat → Int32) → (Nat → Int32) → (Nat → Int32) → (Nat → Int32) → (Nat → Int32) → (Nat → Int32) → (Nat → Int32) → (Nat → Int32) → (Nat → Int32) → (Nat → Int32) → Prop) (i : Nat), i < 17 → (∀ a_product : Nat → Int32, J (nI (i + 1)) a_tokenKind a_tokenContent a_stepKind a_stepToken a_waitingKind a_waitingToken a_present a_cells a_leftTop a_leftBottom a_rightTop a_rightBottom a_top a_bottom a_product a_quotient a_common a_spare a_rest a_divisor a_inverse a_numerator a_factorDegrees a_factorPowers a_factorCells) → ∀ d j, ∀ a_product : Nat → Int32, i + j + d = 17 → wX_multiply__rightTop_leftBottom_product_16 post J (nI i) f_tokenCount f_latestPlace f_stepCount f_waitingCount f_stackCount f_factorCount (d + 1) (nI j) a_tokenKind a_tokenContent a_stepKind a_stepToken a_waitingKind a_waitingToken a_present a_cells a_leftTop a_leftBottom a_rightTop a_rightBottom a_top a_bottom a_product a_quotient a_common a_spare a_rest a_divisor a_inverse a_numerator a_factorDegrees a_factorPowers a_factorCells := by
    intro J i hi hJ d
    induction d with
    | zero =>
      intro j a_product hj
      refine br_t ?_ (nm_r (nI_1 i) (hJ _))
      rw [nI_add]; exact nI_le (a := 17) (by omega) (by omega)
    | succ d ih =>
      intro j a_product hj
      have e := pk_in (x := nI i + nI j) (i + j) 17 (by omega) (nI_add i j)
      refine br_f ?_ ⟨e, vp_in_nI (by omega) (by omega), vp_in_nI (by omega) (by omega), by decide, e, nm_e (nm_r (nI_1 j) (ih (j + 1) _ (by omega)))⟩
      rw [nI_add]; exact xl_17 (by omega)
  have outer : ∀ d i, ∀ a_product : Nat → Int32, i + d = 17 → wX_multiply__rightTop_leftBottom_product_7 post f_tokenCount f_latestPlace f_stepCount f_waitingCount f_stackCount f_factorCount (d + 1) (nI i) a_tokenKind a_tokenContent a_stepKind a_stepToken a_waitingKind a_waitingToken a_present a_cells a_leftTop a_leftBottom a_rightTop a_rightBottom a_top a_bottom a_product a_quotient a_common a_spare a_rest a_divisor a_inverse a_numerator a_factorDegrees a_factorPowers a_factorCells := by
    intro d
    induction d with
    | zero =>
      intro i a_product hi
      obtain rfl : i = 17 := by omega
      exact br_t (by decide) (h _)
    | succ d ih =>
      intro i a_product hi
      exact br_f (xl_17 (by omega)) ⟨17 - i + 1, inner _ i (by omega) (fun a_product => ih (i + 1) _ (by omega)) (17 - i) 0 _ (by omega)⟩
  unfold wpX_multiply__rightTop_leftBottom_product
  exact xl_setNumber__product (fun a_product => ⟨18, outer 17 0 _ rfl⟩)
theorem xl_multiply__leftBottom_rightBottom_bottom {post : SX → Prop} (h : ∀ a_bottom : Nat → Int32, post (f_tokenCount, f_latestPlace, f_stepCount, f_waitingCount, f_stackCount, f_factorCount, a_tokenKind, a_tokenContent, a_stepKind, a_stepToken, a_waitingKind, a_waitingToken, a_present, a_cells, a_leftTop, a_leftBottom, a_rightTop, a_rightBottom, a_top, a_bottom, a_product, a_quotient, a_common, a_spare, a_rest, a_divisor, a_inverse, a_numerator, a_factorDegrees, a_factorPowers, a_factorCells)) : wpX_multiply__leftBottom_rightBottom_bottom post (f_tokenCount, f_latestPlace, f_stepCount, f_waitingCount, f_stackCount, f_factorCount, a_tokenKind, a_tokenContent, a_stepKind, a_stepToken, a_waitingKind, a_waitingToken, a_present, a_cells, a_leftTop, a_leftBottom, a_rightTop, a_rightBottom, a_top, a_bottom, a_product, a_quotient, a_common, a_spare, a_rest, a_divisor, a_inverse, a_numerator, a_factorDegrees, a_factorPowers, a_factorCells) := by
  have inner : ∀ (J : Int32 → (Nat → Int32) → (Nat → Int32) → (Nat → Int32) → (Nat → Int32) → (Nat → Int32) → (Nat → Int32) → (Nat → Int32) → (Nat → Int32) → (Nat → Int32) → (Nat → Int32) → (Nat → Int32) → (Nat → Int32) → (Nat → Int32) → (Nat → Int32) → (Nat → Int32) → (Nat → Int32) → (Nat → Int32) → (Nat → Int32) → (Nat → Int32) → (Nat → Int32) → (Nat → Int32) → (Nat → Int32) → (Nat → Int32) → (Nat → Int32) → (Nat → Int32) → Prop) (i : Nat), i < 17 → (∀ a_bottom : Nat → Int32, J (nI (i + 1)) a_tokenKind a_tokenContent a_stepKind a_stepToken a_waitingKind a_waitingToken a_present a_cells a_leftTop a_leftBottom a_rightTop a_rightBottom a_top a_bottom a_product a_quotient a_common a_spare a_rest a_divisor a_inverse a_numerator a_factorDegrees a_factorPowers a_factorCells) → ∀ d j, ∀ a_bottom : Nat → Int32, i + j + d = 17 → wX_multiply__leftBottom_rightBottom_bottom_16 post J (nI i) f_tokenCount f_latestPlace f_stepCount f_waitingCount f_stackCount f_factorCount (d + 1) (nI j) a_tokenKind a_tokenContent a_stepKind a_stepToken a_waitingKind a_waitingToken a_present a_cells a_leftTop a_leftBottom a_rightTop a_rightBottom a_top a_bottom a_product a_quotient a_common a_spare a_rest a_divisor a_inverse a_numerator a_factorDegrees a_factorPowers a_factorCells := by
    intro J i hi hJ d
    induction d with
    | zero =>
      intro j a_bottom hj
      refine br_t ?_ (nm_r (nI_1 i) (hJ _))
      rw [nI_add]; exact nI_le (a := 17) (by omega) (by omega)
    | succ d ih =>
      intro j a_bottom hj
      have e := pk_in (x := nI i + nI j) (i + j) 17 (by omega) (nI_add i j)
      refine br_f ?_ ⟨e, vp_in_nI (by omega) (by omega), vp_in_nI (by omega) (by omega), by decide, e, nm_e (nm_r (nI_1 j) (ih (j + 1) _ (by omega)))⟩
      rw [nI_add]; exact xl_17 (by omega)
  have outer : ∀ d i, ∀ a_bottom : Nat → Int32, i + d = 17 → wX_multiply__leftBottom_rightBottom_bottom_7 post f_tokenCount f_latestPlace f_stepCount f_waitingCount f_stackCount f_factorCount (d + 1) (nI i) a_tokenKind a_tokenContent a_stepKind a_stepToken a_waitingKind a_waitingToken a_present a_cells a_leftTop a_leftBottom a_rightTop a_rightBottom a_top a_bottom a_product a_quotient a_common a_spare a_rest a_divisor a_inverse a_numerator a_factorDegrees a_factorPowers a_factorCells := by
    intro d
    induction d with
    | zero =>
      intro i a_bottom hi
      obtain rfl : i = 17 := by omega
      exact br_t (by decide) (h _)
    | succ d ih =>
      intro i a_bottom hi
      exact br_f (xl_17 (by omega)) ⟨17 - i + 1, inner _ i (by omega) (fun a_bottom => ih (i + 1) _ (by omega)) (17 - i) 0 _ (by omega)⟩
  unfold wpX_multiply__leftBottom_rightBottom_bottom
  exact xl_setNumber__bottom (fun a_bottom => ⟨18, outer 17 0 _ rfl⟩)
theorem xl_multiply__leftTop_rightTop_top {post : SX → Prop} (h : ∀ a_top : Nat → Int32, post (f_tokenCount, f_latestPlace, f_stepCount, f_waitingCount, f_stackCount, f_factorCount, a_tokenKind, a_tokenContent, a_stepKind, a_stepToken, a_waitingKind, a_waitingToken, a_present, a_cells, a_leftTop, a_leftBottom, a_rightTop, a_rightBottom, a_top, a_bottom, a_product, a_quotient, a_common, a_spare, a_rest, a_divisor, a_inverse, a_numerator, a_factorDegrees, a_factorPowers, a_factorCells)) : wpX_multiply__leftTop_rightTop_top post (f_tokenCount, f_latestPlace, f_stepCount, f_waitingCount, f_stackCount, f_factorCount, a_tokenKind, a_tokenContent, a_stepKind, a_stepToken, a_waitingKind, a_waitingToken, a_present, a_cells, a_leftTop, a_leftBottom, a_rightTop, a_rightBottom, a_top, a_bottom, a_product, a_quotient, a_common, a_spare, a_rest, a_divisor, a_inverse, a_numerator, a_factorDegrees, a_factorPowers, a_factorCells) := by
  have inner : ∀ (J : Int32 → (Nat → Int32) → (Nat → Int32) → (Nat → Int32) → (Nat → Int32) → (Nat → Int32) → (Nat → Int32) → (Nat → Int32) → (Nat → Int32) → (Nat → Int32) → (Nat → Int32) → (Nat → Int32) → (Nat → Int32) → (Nat → Int32) → (Nat → Int32) → (Nat → Int32) → (Nat → Int32) → (Nat → Int32) → (Nat → Int32) → (Nat → Int32) → (Nat → Int32) → (Nat → Int32) → (Nat → Int32) → (Nat → Int32) → (Nat → Int32) → (Nat → Int32) → Prop) (i : Nat), i < 17 → (∀ a_top : Nat → Int32, J (nI (i + 1)) a_tokenKind a_tokenContent a_stepKind a_stepToken a_waitingKind a_waitingToken a_present a_cells a_leftTop a_leftBottom a_rightTop a_rightBottom a_top a_bottom a_product a_quotient a_common a_spare a_rest a_divisor a_inverse a_numerator a_factorDegrees a_factorPowers a_factorCells) → ∀ d j, ∀ a_top : Nat → Int32, i + j + d = 17 → wX_multiply__leftTop_rightTop_top_16 post J (nI i) f_tokenCount f_latestPlace f_stepCount f_waitingCount f_stackCount f_factorCount (d + 1) (nI j) a_tokenKind a_tokenContent a_stepKind a_stepToken a_waitingKind a_waitingToken a_present a_cells a_leftTop a_leftBottom a_rightTop a_rightBottom a_top a_bottom a_product a_quotient a_common a_spare a_rest a_divisor a_inverse a_numerator a_factorDegrees a_factorPowers a_factorCells := by
    intro J i hi hJ d
    induction d with
    | zero =>
      intro j a_top hj
      refine br_t ?_ (nm_r (nI_1 i) (hJ _))
      rw [nI_add]; exact nI_le (a := 17) (by omega) (by omega)
    | succ d ih =>
      intro j a_top hj
      have e := pk_in (x := nI i + nI j) (i + j) 17 (by omega) (nI_add i j)
      refine br_f ?_ ⟨e, vp_in_nI (by omega) (by omega), vp_in_nI (by omega) (by omega), by decide, e, nm_e (nm_r (nI_1 j) (ih (j + 1) _ (by omega)))⟩
      rw [nI_add]; exact xl_17 (by omega)
  have outer : ∀ d i, ∀ a_top : Nat → Int32, i + d = 17 → wX_multiply__leftTop_rightTop_top_7 post f_tokenCount f_latestPlace f_stepCount f_waitingCount f_stackCount f_factorCount (d + 1) (nI i) a_tokenKind a_tokenContent a_stepKind a_stepToken a_waitingKind a_waitingToken a_present a_cells a_leftTop a_leftBottom a_rightTop a_rightBottom a_top a_bottom a_product a_quotient a_common a_spare a_rest a_divisor a_inverse a_numerator a_factorDegrees a_factorPowers a_factorCells := by
    intro d
    induction d with
    | zero =>
      intro i a_top hi
      obtain rfl : i = 17 := by omega
      exact br_t (by decide) (h _)
    | succ d ih =>
      intro i a_top hi
      exact br_f (xl_17 (by omega)) ⟨17 - i + 1, inner _ i (by omega) (fun a_top => ih (i + 1) _ (by omega)) (17 - i) 0 _ (by omega)⟩
  unfold wpX_multiply__leftTop_rightTop_top
  exact xl_setNumber__top (fun a_top => ⟨18, outer 17 0 _ rfl⟩)
theorem xl_multiply__leftBottom_rightTop_bottom {post : SX → Prop} (h : ∀ a_bottom : Nat → Int32, post (f_tokenCount, f_latestPlace, f_stepCount, f_waitingCount, f_stackCount, f_factorCount, a_tokenKind, a_tokenContent, a_stepKind, a_stepToken, a_waitingKind, a_waitingToken, a_present, a_cells, a_leftTop, a_leftBottom, a_rightTop, a_rightBottom, a_top, a_bottom, a_product, a_quotient, a_common, a_spare, a_rest, a_divisor, a_inverse, a_numerator, a_factorDegrees, a_factorPowers, a_factorCells)) : wpX_multiply__leftBottom_rightTop_bottom post (f_tokenCount, f_latestPlace, f_stepCount, f_waitingCount, f_stackCount, f_factorCount, a_tokenKind, a_tokenContent, a_stepKind, a_stepToken, a_waitingKind, a_waitingToken, a_present, a_cells, a_leftTop, a_leftBottom, a_rightTop, a_rightBottom, a_top, a_bottom, a_product, a_quotient, a_common, a_spare, a_rest, a_divisor, a_inverse, a_numerator, a_factorDegrees, a_factorPowers, a_factorCells) := by
  have inner : ∀ (J : Int32 → (Nat → Int32) → (Nat → Int32) → (Nat → Int32) → (Nat → Int32) → (Nat → Int32) → (Nat → Int32) → (Nat → Int32) → (Nat → Int32) → (Nat → Int32) → (Nat → Int32) → (Nat → Int32) → (Nat → Int32) → (Nat → Int32) → (Nat → Int32) → (Nat → Int32) → (Nat → Int32) → (Nat → Int32) → (Nat → Int32) → (Nat → Int32) → (Nat → Int32) → (Nat → Int32) → (Nat → Int32) → (Nat → Int32) → (Nat → Int32) → (Nat → Int32) → Prop) (i : Nat), i < 17 → (∀ a_bottom : Nat → Int32, J (nI (i + 1)) a_tokenKind a_tokenContent a_stepKind a_stepToken a_waitingKind a_waitingToken a_present a_cells a_leftTop a_leftBottom a_rightTop a_rightBottom a_top a_bottom a_product a_quotient a_common a_spare a_rest a_divisor a_inverse a_numerator a_factorDegrees a_factorPowers a_factorCells) → ∀ d j, ∀ a_bottom : Nat → Int32, i + j + d = 17 → wX_multiply__leftBottom_rightTop_bottom_16 post J (nI i) f_tokenCount f_latestPlace f_stepCount f_waitingCount f_stackCount f_factorCount (d + 1) (nI j) a_tokenKind a_tokenContent a_stepKind a_stepToken a_waitingKind a_waitingToken a_present a_cells a_leftTop a_leftBottom a_rightTop a_rightBottom a_top a_bottom a_product a_quotient a_common a_spare a_rest a_divisor a_inverse a_numerator a_factorDegrees a_factorPowers a_factorCells := by
    intro J i hi hJ d
    induction d with
    | zero =>
      intro j a_bottom hj
      refine br_t ?_ (nm_r (nI_1 i) (hJ _))
      rw [nI_add]; exact nI_le (a := 17) (by omega) (by omega)
    | succ d ih =>
      intro j a_bottom hj
      have e := pk_in (x := nI i + nI j) (i + j) 17 (by omega) (nI_add i j)
      refine br_f ?_ ⟨e, vp_in_nI (by omega) (by omega), vp_in_nI (by omega) (by omega), by decide, e, nm_e (nm_r (nI_1 j) (ih (j + 1) _ (by omega)))⟩
      rw [nI_add]; exact xl_17 (by omega)
  have outer : ∀ d i, ∀ a_bottom : Nat → Int32, i + d = 17 → wX_multiply__leftBottom_rightTop_bottom_7 post f_tokenCount f_latestPlace f_stepCount f_waitingCount f_stackCount f_factorCount (d + 1) (nI i) a_tokenKind a_tokenContent a_stepKind a_stepToken a_waitingKind a_waitingToken a_present a_cells a_leftTop a_leftBottom a_rightTop a_rightBottom a_top a_bottom a_product a_quotient a_common a_spare a_rest a_divisor a_inverse a_numerator a_factorDegrees a_factorPowers a_factorCells := by
    intro d
    induction d with
    | zero =>
      intro i a_bottom hi
      obtain rfl : i = 17 := by omega
      exact br_t (by decide) (h _)
    | succ d ih =>
      intro i a_bottom hi
      exact br_f (xl_17 (by omega)) ⟨17 - i + 1, inner _ i (by omega) (fun a_bottom => ih (i + 1) _ (by omega)) (17 - i) 0 _ (by omega)⟩
  unfold wpX_multiply__leftBottom_rightTop_bottom
  exact xl_setNumber__bottom (fun a_bottom => ⟨18, outer 17 0 _ rfl⟩)
theorem xl_multiply__top_leftTop_product {post : SX → Prop} (h : ∀ a_product : Nat → Int32, post (f_tokenCount, f_latestPlace, f_stepCount, f_waitingCount, f_stackCount, f_factorCount, a_tokenKind, a_tokenContent, a_stepKind, a_stepToken, a_waitingKind, a_waitingToken, a_present, a_cells, a_leftTop, a_leftBottom, a_rightTop, a_rightBottom, a_top, a_bottom, a_product, a_quotient, a_common, a_spare, a_rest, a_divisor, a_inverse, a_numerator, a_factorDegrees, a_factorPowers, a_factorCells)) : wpX_multiply__top_leftTop_product post (f_tokenCount, f_latestPlace, f_stepCount, f_waitingCount, f_stackCount, f_factorCount, a_tokenKind, a_tokenContent, a_stepKind, a_stepToken, a_waitingKind, a_waitingToken, a_present, a_cells, a_leftTop, a_leftBottom, a_rightTop, a_rightBottom, a_top, a_bottom, a_product, a_quotient, a_common, a_spare, a_rest, a_divisor, a_inverse, a_numerator, a_factorDegrees, a_factorPowers, a_factorCells) := by
  have inner : ∀ (J : Int32 → (Nat → Int32) → (Nat → Int32) → (Nat → Int32) → (Nat → Int32) → (Nat → Int32) → (Nat → Int32) → (Nat → Int32) → (Nat → Int32) → (Nat → Int32) → (Nat → Int32) → (Nat → Int32) → (Nat → Int32) → (Nat → Int32) → (Nat → Int32) → (Nat → Int32) → (Nat → Int32) → (Nat → Int32) → (Nat → Int32) → (Nat → Int32) → (Nat → Int32) → (Nat → Int32) → (Nat → Int32) → (Nat → Int32) → (Nat → Int32) → (Nat → Int32) → Prop) (i : Nat), i < 17 → (∀ a_product : Nat → Int32, J (nI (i + 1)) a_tokenKind a_tokenContent a_stepKind a_stepToken a_waitingKind a_waitingToken a_present a_cells a_leftTop a_leftBottom a_rightTop a_rightBottom a_top a_bottom a_product a_quotient a_common a_spare a_rest a_divisor a_inverse a_numerator a_factorDegrees a_factorPowers a_factorCells) → ∀ d j, ∀ a_product : Nat → Int32, i + j + d = 17 → wX_multiply__top_leftTop_product_16 post J (nI i) f_tokenCount f_latestPlace f_stepCount f_waitingCount f_stackCount f_factorCount (d + 1) (nI j) a_tokenKind a_tokenContent a_stepKind a_stepToken a_waitingKind a_waitingToken a_present a_cells a_leftTop a_leftBottom a_rightTop a_rightBottom a_top a_bottom a_product a_quotient a_common a_spare a_rest a_divisor a_inverse a_numerator a_factorDegrees a_factorPowers a_factorCells := by
    intro J i hi hJ d
    induction d with
    | zero =>
      intro j a_product hj
      refine br_t ?_ (nm_r (nI_1 i) (hJ _))
      rw [nI_add]; exact nI_le (a := 17) (by omega) (by omega)
    | succ d ih =>
      intro j a_product hj
      have e := pk_in (x := nI i + nI j) (i + j) 17 (by omega) (nI_add i j)
      refine br_f ?_ ⟨e, vp_in_nI (by omega) (by omega), vp_in_nI (by omega) (by omega), by decide, e, nm_e (nm_r (nI_1 j) (ih (j + 1) _ (by omega)))⟩
      rw [nI_add]; exact xl_17 (by omega)
  have outer : ∀ d i, ∀ a_product : Nat → Int32, i + d = 17 → wX_multiply__top_leftTop_product_7 post f_tokenCount f_latestPlace f_stepCount f_waitingCount f_stackCount f_factorCount (d + 1) (nI i) a_tokenKind a_tokenContent a_stepKind a_stepToken a_waitingKind a_waitingToken a_present a_cells a_leftTop a_leftBottom a_rightTop a_rightBottom a_top a_bottom a_product a_quotient a_common a_spare a_rest a_divisor a_inverse a_numerator a_factorDegrees a_factorPowers a_factorCells := by
    intro d
    induction d with
    | zero =>
      intro i a_product hi
      obtain rfl : i = 17 := by omega
      exact br_t (by decide) (h _)
    | succ d ih =>
      intro i a_product hi
      exact br_f (xl_17 (by omega)) ⟨17 - i + 1, inner _ i (by omega) (fun a_product => ih (i + 1) _ (by omega)) (17 - i) 0 _ (by omega)⟩
  unfold wpX_multiply__top_leftTop_product
  exact xl_setNumber__product (fun a_product => ⟨18, outer 17 0 _ rfl⟩)
theorem xl_multiply__bottom_leftBottom_product {post : SX → Prop} (h : ∀ a_product : Nat → Int32, post (f_tokenCount, f_latestPlace, f_stepCount, f_waitingCount, f_stackCount, f_factorCount, a_tokenKind, a_tokenContent, a_stepKind, a_stepToken, a_waitingKind, a_waitingToken, a_present, a_cells, a_leftTop, a_leftBottom, a_rightTop, a_rightBottom, a_top, a_bottom, a_product, a_quotient, a_common, a_spare, a_rest, a_divisor, a_inverse, a_numerator, a_factorDegrees, a_factorPowers, a_factorCells)) : wpX_multiply__bottom_leftBottom_product post (f_tokenCount, f_latestPlace, f_stepCount, f_waitingCount, f_stackCount, f_factorCount, a_tokenKind, a_tokenContent, a_stepKind, a_stepToken, a_waitingKind, a_waitingToken, a_present, a_cells, a_leftTop, a_leftBottom, a_rightTop, a_rightBottom, a_top, a_bottom, a_product, a_quotient, a_common, a_spare, a_rest, a_divisor, a_inverse, a_numerator, a_factorDegrees, a_factorPowers, a_factorCells) := by
  have inner : ∀ (J : Int32 → (Nat → Int32) → (Nat → Int32) → (Nat → Int32) → (Nat → Int32) → (Nat → Int32) → (Nat → Int32) → (Nat → Int32) → (Nat → Int32) → (Nat → Int32) → (Nat → Int32) → (Nat → Int32) → (Nat → Int32) → (Nat → Int32) → (Nat → Int32) → (Nat → Int32) → (Nat → Int32) → (Nat → Int32) → (Nat → Int32) → (Nat → Int32) → (Nat → Int32) → (Nat → Int32) → (Nat → Int32) → (Nat → Int32) → (Nat → Int32) → (Nat → Int32) → Prop) (i : Nat), i < 17 → (∀ a_product : Nat → Int32, J (nI (i + 1)) a_tokenKind a_tokenContent a_stepKind a_stepToken a_waitingKind a_waitingToken a_present a_cells a_leftTop a_leftBottom a_rightTop a_rightBottom a_top a_bottom a_product a_quotient a_common a_spare a_rest a_divisor a_inverse a_numerator a_factorDegrees a_factorPowers a_factorCells) → ∀ d j, ∀ a_product : Nat → Int32, i + j + d = 17 → wX_multiply__bottom_leftBottom_product_16 post J (nI i) f_tokenCount f_latestPlace f_stepCount f_waitingCount f_stackCount f_factorCount (d + 1) (nI j) a_tokenKind a_tokenContent a_stepKind a_stepToken a_waitingKind a_waitingToken a_present a_cells a_leftTop a_leftBottom a_rightTop a_rightBottom a_top a_bottom a_product a_quotient a_common a_spare a_rest a_divisor a_inverse a_numerator a_factorDegrees a_factorPowers a_factorCells := by
    intro J i hi hJ d
    induction d with
    | zero =>
      intro j a_product hj
      refine br_t ?_ (nm_r (nI_1 i) (hJ _))
      rw [nI_add]; exact nI_le (a := 17) (by omega) (by omega)
    | succ d ih =>
      intro j a_product hj
      have e := pk_in (x := nI i + nI j) (i + j) 17 (by omega) (nI_add i j)
      refine br_f ?_ ⟨e, vp_in_nI (by omega) (by omega), vp_in_nI (by omega) (by omega), by decide, e, nm_e (nm_r (nI_1 j) (ih (j + 1) _ (by omega)))⟩
      rw [nI_add]; exact xl_17 (by omega)
  have outer : ∀ d i, ∀ a_product : Nat → Int32, i + d = 17 → wX_multiply__bottom_leftBottom_product_7 post f_tokenCount f_latestPlace f_stepCount f_waitingCount f_stackCount f_factorCount (d + 1) (nI i) a_tokenKind a_tokenContent a_stepKind a_stepToken a_waitingKind a_waitingToken a_present a_cells a_leftTop a_leftBottom a_rightTop a_rightBottom a_top a_bottom a_product a_quotient a_common a_spare a_rest a_divisor a_inverse a_numerator a_factorDegrees a_factorPowers a_factorCells := by
    intro d
    induction d with
    | zero =>
      intro i a_product hi
      obtain rfl : i = 17 := by omega
      exact br_t (by decide) (h _)
    | succ d ih =>
      intro i a_product hi
      exact br_f (xl_17 (by omega)) ⟨17 - i + 1, inner _ i (by omega) (fun a_product => ih (i + 1) _ (by omega)) (17 - i) 0 _ (by omega)⟩
  unfold wpX_multiply__bottom_leftBottom_product
  exact xl_setNumber__product (fun a_product => ⟨18, outer 17 0 _ rfl⟩)
theorem xl_multiply__spare_leftBottom_top {post : SX → Prop} (h : ∀ a_top : Nat → Int32, post (f_tokenCount, f_latestPlace, f_stepCount, f_waitingCount, f_stackCount, f_factorCount, a_tokenKind, a_tokenContent, a_stepKind, a_stepToken, a_waitingKind, a_waitingToken, a_present, a_cells, a_leftTop, a_leftBottom, a_rightTop, a_rightBottom, a_top, a_bottom, a_product, a_quotient, a_common, a_spare, a_rest, a_divisor, a_inverse, a_numerator, a_factorDegrees, a_factorPowers, a_factorCells)) : wpX_multiply__spare_leftBottom_top post (f_tokenCount, f_latestPlace, f_stepCount, f_waitingCount, f_stackCount, f_factorCount, a_tokenKind, a_tokenContent, a_stepKind, a_stepToken, a_waitingKind, a_waitingToken, a_present, a_cells, a_leftTop, a_leftBottom, a_rightTop, a_rightBottom, a_top, a_bottom, a_product, a_quotient, a_common, a_spare, a_rest, a_divisor, a_inverse, a_numerator, a_factorDegrees, a_factorPowers, a_factorCells) := by
  have inner : ∀ (J : Int32 → (Nat → Int32) → (Nat → Int32) → (Nat → Int32) → (Nat → Int32) → (Nat → Int32) → (Nat → Int32) → (Nat → Int32) → (Nat → Int32) → (Nat → Int32) → (Nat → Int32) → (Nat → Int32) → (Nat → Int32) → (Nat → Int32) → (Nat → Int32) → (Nat → Int32) → (Nat → Int32) → (Nat → Int32) → (Nat → Int32) → (Nat → Int32) → (Nat → Int32) → (Nat → Int32) → (Nat → Int32) → (Nat → Int32) → (Nat → Int32) → (Nat → Int32) → Prop) (i : Nat), i < 17 → (∀ a_top : Nat → Int32, J (nI (i + 1)) a_tokenKind a_tokenContent a_stepKind a_stepToken a_waitingKind a_waitingToken a_present a_cells a_leftTop a_leftBottom a_rightTop a_rightBottom a_top a_bottom a_product a_quotient a_common a_spare a_rest a_divisor a_inverse a_numerator a_factorDegrees a_factorPowers a_factorCells) → ∀ d j, ∀ a_top : Nat → Int32, i + j + d = 17 → wX_multiply__spare_leftBottom_top_16 post J (nI i) f_tokenCount f_latestPlace f_stepCount f_waitingCount f_stackCount f_factorCount (d + 1) (nI j) a_tokenKind a_tokenContent a_stepKind a_stepToken a_waitingKind a_waitingToken a_present a_cells a_leftTop a_leftBottom a_rightTop a_rightBottom a_top a_bottom a_product a_quotient a_common a_spare a_rest a_divisor a_inverse a_numerator a_factorDegrees a_factorPowers a_factorCells := by
    intro J i hi hJ d
    induction d with
    | zero =>
      intro j a_top hj
      refine br_t ?_ (nm_r (nI_1 i) (hJ _))
      rw [nI_add]; exact nI_le (a := 17) (by omega) (by omega)
    | succ d ih =>
      intro j a_top hj
      have e := pk_in (x := nI i + nI j) (i + j) 17 (by omega) (nI_add i j)
      refine br_f ?_ ⟨e, vp_in_nI (by omega) (by omega), vp_in_nI (by omega) (by omega), by decide, e, nm_e (nm_r (nI_1 j) (ih (j + 1) _ (by omega)))⟩
      rw [nI_add]; exact xl_17 (by omega)
  have outer : ∀ d i, ∀ a_top : Nat → Int32, i + d = 17 → wX_multiply__spare_leftBottom_top_7 post f_tokenCount f_latestPlace f_stepCount f_waitingCount f_stackCount f_factorCount (d + 1) (nI i) a_tokenKind a_tokenContent a_stepKind a_stepToken a_waitingKind a_waitingToken a_present a_cells a_leftTop a_leftBottom a_rightTop a_rightBottom a_top a_bottom a_product a_quotient a_common a_spare a_rest a_divisor a_inverse a_numerator a_factorDegrees a_factorPowers a_factorCells := by
    intro d
    induction d with
    | zero =>
      intro i a_top hi
      obtain rfl : i = 17 := by omega
      exact br_t (by decide) (h _)
    | succ d ih =>
      intro i a_top hi
      exact br_f (xl_17 (by omega)) ⟨17 - i + 1, inner _ i (by omega) (fun a_top => ih (i + 1) _ (by omega)) (17 - i) 0 _ (by omega)⟩
  unfold wpX_multiply__spare_leftBottom_top
  exact xl_setNumber__top (fun a_top => ⟨18, outer 17 0 _ rfl⟩)
theorem xl_multiply__spare_leftTop_product {post : SX → Prop} (h : ∀ a_product : Nat → Int32, post (f_tokenCount, f_latestPlace, f_stepCount, f_waitingCount, f_stackCount, f_factorCount, a_tokenKind, a_tokenContent, a_stepKind, a_stepToken, a_waitingKind, a_waitingToken, a_present, a_cells, a_leftTop, a_leftBottom, a_rightTop, a_rightBottom, a_top, a_bottom, a_product, a_quotient, a_common, a_spare, a_rest, a_divisor, a_inverse, a_numerator, a_factorDegrees, a_factorPowers, a_factorCells)) : wpX_multiply__spare_leftTop_product post (f_tokenCount, f_latestPlace, f_stepCount, f_waitingCount, f_stackCount, f_factorCount, a_tokenKind, a_tokenContent, a_stepKind, a_stepToken, a_waitingKind, a_waitingToken, a_present, a_cells, a_leftTop, a_leftBottom, a_rightTop, a_rightBottom, a_top, a_bottom, a_product, a_quotient, a_common, a_spare, a_rest, a_divisor, a_inverse, a_numerator, a_factorDegrees, a_factorPowers, a_factorCells) := by
  have inner : ∀ (J : Int32 → (Nat → Int32) → (Nat → Int32) → (Nat → Int32) → (Nat → Int32) → (Nat → Int32) → (Nat → Int32) → (Nat → Int32) → (Nat → Int32) → (Nat → Int32) → (Nat → Int32) → (Nat → Int32) → (Nat → Int32) → (Nat → Int32) → (Nat → Int32) → (Nat → Int32) → (Nat → Int32) → (Nat → Int32) → (Nat → Int32) → (Nat → Int32) → (Nat → Int32) → (Nat → Int32) → (Nat → Int32) → (Nat → Int32) → (Nat → Int32) → (Nat → Int32) → Prop) (i : Nat), i < 17 → (∀ a_product : Nat → Int32, J (nI (i + 1)) a_tokenKind a_tokenContent a_stepKind a_stepToken a_waitingKind a_waitingToken a_present a_cells a_leftTop a_leftBottom a_rightTop a_rightBottom a_top a_bottom a_product a_quotient a_common a_spare a_rest a_divisor a_inverse a_numerator a_factorDegrees a_factorPowers a_factorCells) → ∀ d j, ∀ a_product : Nat → Int32, i + j + d = 17 → wX_multiply__spare_leftTop_product_16 post J (nI i) f_tokenCount f_latestPlace f_stepCount f_waitingCount f_stackCount f_factorCount (d + 1) (nI j) a_tokenKind a_tokenContent a_stepKind a_stepToken a_waitingKind a_waitingToken a_present a_cells a_leftTop a_leftBottom a_rightTop a_rightBottom a_top a_bottom a_product a_quotient a_common a_spare a_rest a_divisor a_inverse a_numerator a_factorDegrees a_factorPowers a_factorCells := by
    intro J i hi hJ d
    induction d with
    | zero =>
      intro j a_product hj
      refine br_t ?_ (nm_r (nI_1 i) (hJ _))
      rw [nI_add]; exact nI_le (a := 17) (by omega) (by omega)
    | succ d ih =>
      intro j a_product hj
      have e := pk_in (x := nI i + nI j) (i + j) 17 (by omega) (nI_add i j)
      refine br_f ?_ ⟨e, vp_in_nI (by omega) (by omega), vp_in_nI (by omega) (by omega), by decide, e, nm_e (nm_r (nI_1 j) (ih (j + 1) _ (by omega)))⟩
      rw [nI_add]; exact xl_17 (by omega)
  have outer : ∀ d i, ∀ a_product : Nat → Int32, i + d = 17 → wX_multiply__spare_leftTop_product_7 post f_tokenCount f_latestPlace f_stepCount f_waitingCount f_stackCount f_factorCount (d + 1) (nI i) a_tokenKind a_tokenContent a_stepKind a_stepToken a_waitingKind a_waitingToken a_present a_cells a_leftTop a_leftBottom a_rightTop a_rightBottom a_top a_bottom a_product a_quotient a_common a_spare a_rest a_divisor a_inverse a_numerator a_factorDegrees a_factorPowers a_factorCells := by
    intro d
    induction d with
    | zero =>
      intro i a_product hi
      obtain rfl : i = 17 := by omega
      exact br_t (by decide) (h _)
    | succ d ih =>
      intro i a_product hi
      exact br_f (xl_17 (by omega)) ⟨17 - i + 1, inner _ i (by omega) (fun a_product => ih (i + 1) _ (by omega)) (17 - i) 0 _ (by omega)⟩
  unfold wpX_multiply__spare_leftTop_product
  exact xl_setNumber__product (fun a_product => ⟨18, outer 17 0 _ rfl⟩)
theorem xl_multiply__leftBottom_leftBottom_bottom {post : SX → Prop} (h : ∀ a_bottom : Nat → Int32, post (f_tokenCount, f_latestPlace, f_stepCount, f_waitingCount, f_stackCount, f_factorCount, a_tokenKind, a_tokenContent, a_stepKind, a_stepToken, a_waitingKind, a_waitingToken, a_present, a_cells, a_leftTop, a_leftBottom, a_rightTop, a_rightBottom, a_top, a_bottom, a_product, a_quotient, a_common, a_spare, a_rest, a_divisor, a_inverse, a_numerator, a_factorDegrees, a_factorPowers, a_factorCells)) : wpX_multiply__leftBottom_leftBottom_bottom post (f_tokenCount, f_latestPlace, f_stepCount, f_waitingCount, f_stackCount, f_factorCount, a_tokenKind, a_tokenContent, a_stepKind, a_stepToken, a_waitingKind, a_waitingToken, a_present, a_cells, a_leftTop, a_leftBottom, a_rightTop, a_rightBottom, a_top, a_bottom, a_product, a_quotient, a_common, a_spare, a_rest, a_divisor, a_inverse, a_numerator, a_factorDegrees, a_factorPowers, a_factorCells) := by
  have inner : ∀ (J : Int32 → (Nat → Int32) → (Nat → Int32) → (Nat → Int32) → (Nat → Int32) → (Nat → Int32) → (Nat → Int32) → (Nat → Int32) → (Nat → Int32) → (Nat → Int32) → (Nat → Int32) → (Nat → Int32) → (Nat → Int32) → (Nat → Int32) → (Nat → Int32) → (Nat → Int32) → (Nat → Int32) → (Nat → Int32) → (Nat → Int32) → (Nat → Int32) → (Nat → Int32) → (Nat → Int32) → (Nat → Int32) → (Nat → Int32) → (Nat → Int32) → (Nat → Int32) → Prop) (i : Nat), i < 17 → (∀ a_bottom : Nat → Int32, J (nI (i + 1)) a_tokenKind a_tokenContent a_stepKind a_stepToken a_waitingKind a_waitingToken a_present a_cells a_leftTop a_leftBottom a_rightTop a_rightBottom a_top a_bottom a_product a_quotient a_common a_spare a_rest a_divisor a_inverse a_numerator a_factorDegrees a_factorPowers a_factorCells) → ∀ d j, ∀ a_bottom : Nat → Int32, i + j + d = 17 → wX_multiply__leftBottom_leftBottom_bottom_16 post J (nI i) f_tokenCount f_latestPlace f_stepCount f_waitingCount f_stackCount f_factorCount (d + 1) (nI j) a_tokenKind a_tokenContent a_stepKind a_stepToken a_waitingKind a_waitingToken a_present a_cells a_leftTop a_leftBottom a_rightTop a_rightBottom a_top a_bottom a_product a_quotient a_common a_spare a_rest a_divisor a_inverse a_numerator a_factorDegrees a_factorPowers a_factorCells := by
    intro J i hi hJ d
    induction d with
    | zero =>
      intro j a_bottom hj
      refine br_t ?_ (nm_r (nI_1 i) (hJ _))
      rw [nI_add]; exact nI_le (a := 17) (by omega) (by omega)
    | succ d ih =>
      intro j a_bottom hj
      have e := pk_in (x := nI i + nI j) (i + j) 17 (by omega) (nI_add i j)
      refine br_f ?_ ⟨e, vp_in_nI (by omega) (by omega), vp_in_nI (by omega) (by omega), by decide, e, nm_e (nm_r (nI_1 j) (ih (j + 1) _ (by omega)))⟩
      rw [nI_add]; exact xl_17 (by omega)
  have outer : ∀ d i, ∀ a_bottom : Nat → Int32, i + d = 17 → wX_multiply__leftBottom_leftBottom_bottom_7 post f_tokenCount f_latestPlace f_stepCount f_waitingCount f_stackCount f_factorCount (d + 1) (nI i) a_tokenKind a_tokenContent a_stepKind a_stepToken a_waitingKind a_waitingToken a_present a_cells a_leftTop a_leftBottom a_rightTop a_rightBottom a_top a_bottom a_product a_quotient a_common a_spare a_rest a_divisor a_inverse a_numerator a_factorDegrees a_factorPowers a_factorCells := by
    intro d
    induction d with
    | zero =>
      intro i a_bottom hi
      obtain rfl : i = 17 := by omega
      exact br_t (by decide) (h _)
    | succ d ih =>
      intro i a_bottom hi
      exact br_f (xl_17 (by omega)) ⟨17 - i + 1, inner _ i (by omega) (fun a_bottom => ih (i + 1) _ (by omega)) (17 - i) 0 _ (by omega)⟩
  unfold wpX_multiply__leftBottom_leftBottom_bottom
  exact xl_setNumber__bottom (fun a_bottom => ⟨18, outer 17 0 _ rfl⟩)
theorem xl_multiply__top_rightTop_product {post : SX → Prop} (h : ∀ a_product : Nat → Int32, post (f_tokenCount, f_latestPlace, f_stepCount, f_waitingCount, f_stackCount, f_factorCount, a_tokenKind, a_tokenContent, a_stepKind, a_stepToken, a_waitingKind, a_waitingToken, a_present, a_cells, a_leftTop, a_leftBottom, a_rightTop, a_rightBottom, a_top, a_bottom, a_product, a_quotient, a_common, a_spare, a_rest, a_divisor, a_inverse, a_numerator, a_factorDegrees, a_factorPowers, a_factorCells)) : wpX_multiply__top_rightTop_product post (f_tokenCount, f_latestPlace, f_stepCount, f_waitingCount, f_stackCount, f_factorCount, a_tokenKind, a_tokenContent, a_stepKind, a_stepToken, a_waitingKind, a_waitingToken, a_present, a_cells, a_leftTop, a_leftBottom, a_rightTop, a_rightBottom, a_top, a_bottom, a_product, a_quotient, a_common, a_spare, a_rest, a_divisor, a_inverse, a_numerator, a_factorDegrees, a_factorPowers, a_factorCells) := by
  have inner : ∀ (J : Int32 → (Nat → Int32) → (Nat → Int32) → (Nat → Int32) → (Nat → Int32) → (Nat → Int32) → (Nat → Int32) → (Nat → Int32) → (Nat → Int32) → (Nat → Int32) → (Nat → Int32) → (Nat → Int32) → (Nat → Int32) → (Nat → Int32) → (Nat → Int32) → (Nat → Int32) → (Nat → Int32) → (Nat → Int32) → (Nat → Int32) → (Nat → Int32) → (Nat → Int32) → (Nat → Int32) → (Nat → Int32) → (Nat → Int32) → (Nat → Int32) → (Nat → Int32) → Prop) (i : Nat), i < 17 → (∀ a_product : Nat → Int32, J (nI (i + 1)) a_tokenKind a_tokenContent a_stepKind a_stepToken a_waitingKind a_waitingToken a_present a_cells a_leftTop a_leftBottom a_rightTop a_rightBottom a_top a_bottom a_product a_quotient a_common a_spare a_rest a_divisor a_inverse a_numerator a_factorDegrees a_factorPowers a_factorCells) → ∀ d j, ∀ a_product : Nat → Int32, i + j + d = 17 → wX_multiply__top_rightTop_product_16 post J (nI i) f_tokenCount f_latestPlace f_stepCount f_waitingCount f_stackCount f_factorCount (d + 1) (nI j) a_tokenKind a_tokenContent a_stepKind a_stepToken a_waitingKind a_waitingToken a_present a_cells a_leftTop a_leftBottom a_rightTop a_rightBottom a_top a_bottom a_product a_quotient a_common a_spare a_rest a_divisor a_inverse a_numerator a_factorDegrees a_factorPowers a_factorCells := by
    intro J i hi hJ d
    induction d with
    | zero =>
      intro j a_product hj
      refine br_t ?_ (nm_r (nI_1 i) (hJ _))
      rw [nI_add]; exact nI_le (a := 17) (by omega) (by omega)
    | succ d ih =>
      intro j a_product hj
      have e := pk_in (x := nI i + nI j) (i + j) 17 (by omega) (nI_add i j)
      refine br_f ?_ ⟨e, vp_in_nI (by omega) (by omega), vp_in_nI (by omega) (by omega), by decide, e, nm_e (nm_r (nI_1 j) (ih (j + 1) _ (by omega)))⟩
      rw [nI_add]; exact xl_17 (by omega)
  have outer : ∀ d i, ∀ a_product : Nat → Int32, i + d = 17 → wX_multiply__top_rightTop_product_7 post f_tokenCount f_latestPlace f_stepCount f_waitingCount f_stackCount f_factorCount (d + 1) (nI i) a_tokenKind a_tokenContent a_stepKind a_stepToken a_waitingKind a_waitingToken a_present a_cells a_leftTop a_leftBottom a_rightTop a_rightBottom a_top a_bottom a_product a_quotient a_common a_spare a_rest a_divisor a_inverse a_numerator a_factorDegrees a_factorPowers a_factorCells := by
    intro d
    induction d with
    | zero =>
      intro i a_product hi
      obtain rfl : i = 17 := by omega
      exact br_t (by decide) (h _)
    | succ d ih =>
      intro i a_product hi
      exact br_f (xl_17 (by omega)) ⟨17 - i + 1, inner _ i (by omega) (fun a_product => ih (i + 1) _ (by omega)) (17 - i) 0 _ (by omega)⟩
  unfold wpX_multiply__top_rightTop_product
  exact xl_setNumber__product (fun a_product => ⟨18, outer 17 0 _ rfl⟩)
theorem xl_multiply__spare_rightBottom_product {post : SX → Prop} (h : ∀ a_product : Nat → Int32, post (f_tokenCount, f_latestPlace, f_stepCount, f_waitingCount, f_stackCount, f_factorCount, a_tokenKind, a_tokenContent, a_stepKind, a_stepToken, a_waitingKind, a_waitingToken, a_present, a_cells, a_leftTop, a_leftBottom, a_rightTop, a_rightBottom, a_top, a_bottom, a_product, a_quotient, a_common, a_spare, a_rest, a_divisor, a_inverse, a_numerator, a_factorDegrees, a_factorPowers, a_factorCells)) : wpX_multiply__spare_rightBottom_product post (f_tokenCount, f_latestPlace, f_stepCount, f_waitingCount, f_stackCount, f_factorCount, a_tokenKind, a_tokenContent, a_stepKind, a_stepToken, a_waitingKind, a_waitingToken, a_present, a_cells, a_leftTop, a_leftBottom, a_rightTop, a_rightBottom, a_top, a_bottom, a_product, a_quotient, a_common, a_spare, a_rest, a_divisor, a_inverse, a_numerator, a_factorDegrees, a_factorPowers, a_factorCells) := by
  have inner : ∀ (J : Int32 → (Nat → Int32) → (Nat → Int32) → (Nat → Int32) → (Nat → Int32) → (Nat → Int32) → (Nat → Int32) → (Nat → Int32) → (Nat → Int32) → (Nat → Int32) → (Nat → Int32) → (Nat → Int32) → (Nat → Int32) → (Nat → Int32) → (Nat → Int32) → (Nat → Int32) → (Nat → Int32) → (Nat → Int32) → (Nat → Int32) → (Nat → Int32) → (Nat → Int32) → (Nat → Int32) → (Nat → Int32) → (Nat → Int32) → (Nat → Int32) → (Nat → Int32) → Prop) (i : Nat), i < 17 → (∀ a_product : Nat → Int32, J (nI (i + 1)) a_tokenKind a_tokenContent a_stepKind a_stepToken a_waitingKind a_waitingToken a_present a_cells a_leftTop a_leftBottom a_rightTop a_rightBottom a_top a_bottom a_product a_quotient a_common a_spare a_rest a_divisor a_inverse a_numerator a_factorDegrees a_factorPowers a_factorCells) → ∀ d j, ∀ a_product : Nat → Int32, i + j + d = 17 → wX_multiply__spare_rightBottom_product_16 post J (nI i) f_tokenCount f_latestPlace f_stepCount f_waitingCount f_stackCount f_factorCount (d + 1) (nI j) a_tokenKind a_tokenContent a_stepKind a_stepToken a_waitingKind a_waitingToken a_present a_cells a_leftTop a_leftBottom a_rightTop a_rightBottom a_top a_bottom a_product a_quotient a_common a_spare a_rest a_divisor a_inverse a_numerator a_factorDegrees a_factorPowers a_factorCells := by
    intro J i hi hJ d
    induction d with
    | zero =>
      intro j a_product hj
      refine br_t ?_ (nm_r (nI_1 i) (hJ _))
      rw [nI_add]; exact nI_le (a := 17) (by omega) (by omega)
    | succ d ih =>
      intro j a_product hj
      have e := pk_in (x := nI i + nI j) (i + j) 17 (by omega) (nI_add i j)
      refine br_f ?_ ⟨e, vp_in_nI (by omega) (by omega), vp_in_nI (by omega) (by omega), by decide, e, nm_e (nm_r (nI_1 j) (ih (j + 1) _ (by omega)))⟩
      rw [nI_add]; exact xl_17 (by omega)
  have outer : ∀ d i, ∀ a_product : Nat → Int32, i + d = 17 → wX_multiply__spare_rightBottom_product_7 post f_tokenCount f_latestPlace f_stepCount f_waitingCount f_stackCount f_factorCount (d + 1) (nI i) a_tokenKind a_tokenContent a_stepKind a_stepToken a_waitingKind a_waitingToken a_present a_cells a_leftTop a_leftBottom a_rightTop a_rightBottom a_top a_bottom a_product a_quotient a_common a_spare a_rest a_divisor a_inverse a_numerator a_factorDegrees a_factorPowers a_factorCells := by
    intro d
    induction d with
    | zero =>
      intro i a_product hi
      obtain rfl : i = 17 := by omega
      exact br_t (by decide) (h _)
    | succ d ih =>
      intro i a_product hi
      exact br_f (xl_17 (by omega)) ⟨17 - i + 1, inner _ i (by omega) (fun a_product => ih (i + 1) _ (by omega)) (17 - i) 0 _ (by omega)⟩
  unfold wpX_multiply__spare_rightBottom_product
  exact xl_setNumber__product (fun a_product => ⟨18, outer 17 0 _ rfl⟩)
theorem xl_multiply__bottom_rightTop_product {post : SX → Prop} (h : ∀ a_product : Nat → Int32, post (f_tokenCount, f_latestPlace, f_stepCount, f_waitingCount, f_stackCount, f_factorCount, a_tokenKind, a_tokenContent, a_stepKind, a_stepToken, a_waitingKind, a_waitingToken, a_present, a_cells, a_leftTop, a_leftBottom, a_rightTop, a_rightBottom, a_top, a_bottom, a_product, a_quotient, a_common, a_spare, a_rest, a_divisor, a_inverse, a_numerator, a_factorDegrees, a_factorPowers, a_factorCells)) : wpX_multiply__bottom_rightTop_product post (f_tokenCount, f_latestPlace, f_stepCount, f_waitingCount, f_stackCount, f_factorCount, a_tokenKind, a_tokenContent, a_stepKind, a_stepToken, a_waitingKind, a_waitingToken, a_present, a_cells, a_leftTop, a_leftBottom, a_rightTop, a_rightBottom, a_top, a_bottom, a_product, a_quotient, a_common, a_spare, a_rest, a_divisor, a_inverse, a_numerator, a_factorDegrees, a_factorPowers, a_factorCells) := by
  have inner : ∀ (J : Int32 → (Nat → Int32) → (Nat → Int32) → (Nat → Int32) → (Nat → Int32) → (Nat → Int32) → (Nat → Int32) → (Nat → Int32) → (Nat → Int32) → (Nat → Int32) → (Nat → Int32) → (Nat → Int32) → (Nat → Int32) → (Nat → Int32) → (Nat → Int32) → (Nat → Int32) → (Nat → Int32) → (Nat → Int32) → (Nat → Int32) → (Nat → Int32) → (Nat → Int32) → (Nat → Int32) → (Nat → Int32) → (Nat → Int32) → (Nat → Int32) → (Nat → Int32) → Prop) (i : Nat), i < 17 → (∀ a_product : Nat → Int32, J (nI (i + 1)) a_tokenKind a_tokenContent a_stepKind a_stepToken a_waitingKind a_waitingToken a_present a_cells a_leftTop a_leftBottom a_rightTop a_rightBottom a_top a_bottom a_product a_quotient a_common a_spare a_rest a_divisor a_inverse a_numerator a_factorDegrees a_factorPowers a_factorCells) → ∀ d j, ∀ a_product : Nat → Int32, i + j + d = 17 → wX_multiply__bottom_rightTop_product_16 post J (nI i) f_tokenCount f_latestPlace f_stepCount f_waitingCount f_stackCount f_factorCount (d + 1) (nI j) a_tokenKind a_tokenContent a_stepKind a_stepToken a_waitingKind a_waitingToken a_present a_cells a_leftTop a_leftBottom a_rightTop a_rightBottom a_top a_bottom a_product a_quotient a_common a_spare a_rest a_divisor a_inverse a_numerator a_factorDegrees a_factorPowers a_factorCells := by
    intro J i hi hJ d
    induction d with
    | zero =>
      intro j a_product hj
      refine br_t ?_ (nm_r (nI_1 i) (hJ _))
      rw [nI_add]; exact nI_le (a := 17) (by omega) (by omega)
    | succ d ih =>
      intro j a_product hj
      have e := pk_in (x := nI i + nI j) (i + j) 17 (by omega) (nI_add i j)
      refine br_f ?_ ⟨e, vp_in_nI (by omega) (by omega), vp_in_nI (by omega) (by omega), by decide, e, nm_e (nm_r (nI_1 j) (ih (j + 1) _ (by omega)))⟩
      rw [nI_add]; exact xl_17 (by omega)
  have outer : ∀ d i, ∀ a_product : Nat → Int32, i + d = 17 → wX_multiply__bottom_rightTop_product_7 post f_tokenCount f_latestPlace f_stepCount f_waitingCount f_stackCount f_factorCount (d + 1) (nI i) a_tokenKind a_tokenContent a_stepKind a_stepToken a_waitingKind a_waitingToken a_present a_cells a_leftTop a_leftBottom a_rightTop a_rightBottom a_top a_bottom a_product a_quotient a_common a_spare a_rest a_divisor a_inverse a_numerator a_factorDegrees a_factorPowers a_factorCells := by
    intro d
    induction d with
    | zero =>
      intro i a_product hi
      obtain rfl : i = 17 := by omega
      exact br_t (by decide) (h _)
    | succ d ih =>
      intro i a_product hi
      exact br_f (xl_17 (by omega)) ⟨17 - i + 1, inner _ i (by omega) (fun a_product => ih (i + 1) _ (by omega)) (17 - i) 0 _ (by omega)⟩
  unfold wpX_multiply__bottom_rightTop_product
  exact xl_setNumber__product (fun a_product => ⟨18, outer 17 0 _ rfl⟩)
theorem xl_multiply__spare_common_product {post : SX → Prop} (h : ∀ a_product : Nat → Int32, post (f_tokenCount, f_latestPlace, f_stepCount, f_waitingCount, f_stackCount, f_factorCount, a_tokenKind, a_tokenContent, a_stepKind, a_stepToken, a_waitingKind, a_waitingToken, a_present, a_cells, a_leftTop, a_leftBottom, a_rightTop, a_rightBottom, a_top, a_bottom, a_product, a_quotient, a_common, a_spare, a_rest, a_divisor, a_inverse, a_numerator, a_factorDegrees, a_factorPowers, a_factorCells)) : wpX_multiply__spare_common_product post (f_tokenCount, f_latestPlace, f_stepCount, f_waitingCount, f_stackCount, f_factorCount, a_tokenKind, a_tokenContent, a_stepKind, a_stepToken, a_waitingKind, a_waitingToken, a_present, a_cells, a_leftTop, a_leftBottom, a_rightTop, a_rightBottom, a_top, a_bottom, a_product, a_quotient, a_common, a_spare, a_rest, a_divisor, a_inverse, a_numerator, a_factorDegrees, a_factorPowers, a_factorCells) := by
  have inner : ∀ (J : Int32 → (Nat → Int32) → (Nat → Int32) → (Nat → Int32) → (Nat → Int32) → (Nat → Int32) → (Nat → Int32) → (Nat → Int32) → (Nat → Int32) → (Nat → Int32) → (Nat → Int32) → (Nat → Int32) → (Nat → Int32) → (Nat → Int32) → (Nat → Int32) → (Nat → Int32) → (Nat → Int32) → (Nat → Int32) → (Nat → Int32) → (Nat → Int32) → (Nat → Int32) → (Nat → Int32) → (Nat → Int32) → (Nat → Int32) → (Nat → Int32) → (Nat → Int32) → Prop) (i : Nat), i < 17 → (∀ a_product : Nat → Int32, J (nI (i + 1)) a_tokenKind a_tokenContent a_stepKind a_stepToken a_waitingKind a_waitingToken a_present a_cells a_leftTop a_leftBottom a_rightTop a_rightBottom a_top a_bottom a_product a_quotient a_common a_spare a_rest a_divisor a_inverse a_numerator a_factorDegrees a_factorPowers a_factorCells) → ∀ d j, ∀ a_product : Nat → Int32, i + j + d = 17 → wX_multiply__spare_common_product_16 post J (nI i) f_tokenCount f_latestPlace f_stepCount f_waitingCount f_stackCount f_factorCount (d + 1) (nI j) a_tokenKind a_tokenContent a_stepKind a_stepToken a_waitingKind a_waitingToken a_present a_cells a_leftTop a_leftBottom a_rightTop a_rightBottom a_top a_bottom a_product a_quotient a_common a_spare a_rest a_divisor a_inverse a_numerator a_factorDegrees a_factorPowers a_factorCells := by
    intro J i hi hJ d
    induction d with
    | zero =>
      intro j a_product hj
      refine br_t ?_ (nm_r (nI_1 i) (hJ _))
      rw [nI_add]; exact nI_le (a := 17) (by omega) (by omega)
    | succ d ih =>
      intro j a_product hj
      have e := pk_in (x := nI i + nI j) (i + j) 17 (by omega) (nI_add i j)
      refine br_f ?_ ⟨e, vp_in_nI (by omega) (by omega), vp_in_nI (by omega) (by omega), by decide, e, nm_e (nm_r (nI_1 j) (ih (j + 1) _ (by omega)))⟩
      rw [nI_add]; exact xl_17 (by omega)
  have outer : ∀ d i, ∀ a_product : Nat → Int32, i + d = 17 → wX_multiply__spare_common_product_7 post f_tokenCount f_latestPlace f_stepCount f_waitingCount f_stackCount f_factorCount (d + 1) (nI i) a_tokenKind a_tokenContent a_stepKind a_stepToken a_waitingKind a_waitingToken a_present a_cells a_leftTop a_leftBottom a_rightTop a_rightBottom a_top a_bottom a_product a_quotient a_common a_spare a_rest a_divisor a_inverse a_numerator a_factorDegrees a_factorPowers a_factorCells := by
    intro d
    induction d with
    | zero =>
      intro i a_product hi
      obtain rfl : i = 17 := by omega
      exact br_t (by decide) (h _)
    | succ d ih =>
      intro i a_product hi
      exact br_f (xl_17 (by omega)) ⟨17 - i + 1, inner _ i (by omega) (fun a_product => ih (i + 1) _ (by omega)) (17 - i) 0 _ (by omega)⟩
  unfold wpX_multiply__spare_common_product
  exact xl_setNumber__product (fun a_product => ⟨18, outer 17 0 _ rfl⟩)
theorem xl_multiply__inverse_spare_product {post : SX → Prop} (h : ∀ a_product : Nat → Int32, post (f_tokenCount, f_latestPlace, f_stepCount, f_waitingCount, f_stackCount, f_factorCount, a_tokenKind, a_tokenContent, a_stepKind, a_stepToken, a_waitingKind, a_waitingToken, a_present, a_cells, a_leftTop, a_leftBottom, a_rightTop, a_rightBottom, a_top, a_bottom, a_product, a_quotient, a_common, a_spare, a_rest, a_divisor, a_inverse, a_numerator, a_factorDegrees, a_factorPowers, a_factorCells)) : wpX_multiply__inverse_spare_product post (f_tokenCount, f_latestPlace, f_stepCount, f_waitingCount, f_stackCount, f_factorCount, a_tokenKind, a_tokenContent, a_stepKind, a_stepToken, a_waitingKind, a_waitingToken, a_present, a_cells, a_leftTop, a_leftBottom, a_rightTop, a_rightBottom, a_top, a_bottom, a_product, a_quotient, a_common, a_spare, a_rest, a_divisor, a_inverse, a_numerator, a_factorDegrees, a_factorPowers, a_factorCells) := by
  have inner : ∀ (J : Int32 → (Nat → Int32) → (Nat → Int32) → (Nat → Int32) → (Nat → Int32) → (Nat → Int32) → (Nat → Int32) → (Nat → Int32) → (Nat → Int32) → (Nat → Int32) → (Nat → Int32) → (Nat → Int32) → (Nat → Int32) → (Nat → Int32) → (Nat → Int32) → (Nat → Int32) → (Nat → Int32) → (Nat → Int32) → (Nat → Int32) → (Nat → Int32) → (Nat → Int32) → (Nat → Int32) → (Nat → Int32) → (Nat → Int32) → (Nat → Int32) → (Nat → Int32) → Prop) (i : Nat), i < 17 → (∀ a_product : Nat → Int32, J (nI (i + 1)) a_tokenKind a_tokenContent a_stepKind a_stepToken a_waitingKind a_waitingToken a_present a_cells a_leftTop a_leftBottom a_rightTop a_rightBottom a_top a_bottom a_product a_quotient a_common a_spare a_rest a_divisor a_inverse a_numerator a_factorDegrees a_factorPowers a_factorCells) → ∀ d j, ∀ a_product : Nat → Int32, i + j + d = 17 → wX_multiply__inverse_spare_product_16 post J (nI i) f_tokenCount f_latestPlace f_stepCount f_waitingCount f_stackCount f_factorCount (d + 1) (nI j) a_tokenKind a_tokenContent a_stepKind a_stepToken a_waitingKind a_waitingToken a_present a_cells a_leftTop a_leftBottom a_rightTop a_rightBottom a_top a_bottom a_product a_quotient a_common a_spare a_rest a_divisor a_inverse a_numerator a_factorDegrees a_factorPowers a_factorCells := by
    intro J i hi hJ d
    induction d with
    | zero =>
      intro j a_product hj
      refine br_t ?_ (nm_r (nI_1 i) (hJ _))
      rw [nI_add]; exact nI_le (a := 17) (by omega) (by omega)
    | succ d ih =>
      intro j a_product hj
      have e := pk_in (x := nI i + nI j) (i + j) 17 (by omega) (nI_add i j)
      refine br_f ?_ ⟨e, vp_in_nI (by omega) (by omega), vp_in_nI (by omega) (by omega), by decide, e, nm_e (nm_r (nI_1 j) (ih (j + 1) _ (by omega)))⟩
      rw [nI_add]; exact xl_17 (by omega)
  have outer : ∀ d i, ∀ a_product : Nat → Int32, i + d = 17 → wX_multiply__inverse_spare_product_7 post f_tokenCount f_latestPlace f_stepCount f_waitingCount f_stackCount f_factorCount (d + 1) (nI i) a_tokenKind a_tokenContent a_stepKind a_stepToken a_waitingKind a_waitingToken a_present a_cells a_leftTop a_leftBottom a_rightTop a_rightBottom a_top a_bottom a_product a_quotient a_common a_spare a_rest a_divisor a_inverse a_numerator a_factorDegrees a_factorPowers a_factorCells := by
    intro d
    induction d with
    | zero =>
      intro i a_product hi
      obtain rfl : i = 17 := by omega
      exact br_t (by decide) (h _)
    | succ d ih =>
      intro i a_product hi
      exact br_f (xl_17 (by omega)) ⟨17 - i + 1, inner _ i (by omega) (fun a_product => ih (i + 1) _ (by omega)) (17 - i) 0 _ (by omega)⟩
  unfold wpX_multiply__inverse_spare_product
  exact xl_setNumber__product (fun a_product => ⟨18, outer 17 0 _ rfl⟩)
theorem xl_multiply__numerator_inverse_product {post : SX → Prop} (h : ∀ a_product : Nat → Int32, post (f_tokenCount, f_latestPlace, f_stepCount, f_waitingCount, f_stackCount, f_factorCount, a_tokenKind, a_tokenContent, a_stepKind, a_stepToken, a_waitingKind, a_waitingToken, a_present, a_cells, a_leftTop, a_leftBottom, a_rightTop, a_rightBottom, a_top, a_bottom, a_product, a_quotient, a_common, a_spare, a_rest, a_divisor, a_inverse, a_numerator, a_factorDegrees, a_factorPowers, a_factorCells)) : wpX_multiply__numerator_inverse_product post (f_tokenCount, f_latestPlace, f_stepCount, f_waitingCount, f_stackCount, f_factorCount, a_tokenKind, a_tokenContent, a_stepKind, a_stepToken, a_waitingKind, a_waitingToken, a_present, a_cells, a_leftTop, a_leftBottom, a_rightTop, a_rightBottom, a_top, a_bottom, a_product, a_quotient, a_common, a_spare, a_rest, a_divisor, a_inverse, a_numerator, a_factorDegrees, a_factorPowers, a_factorCells) := by
  have inner : ∀ (J : Int32 → (Nat → Int32) → (Nat → Int32) → (Nat → Int32) → (Nat → Int32) → (Nat → Int32) → (Nat → Int32) → (Nat → Int32) → (Nat → Int32) → (Nat → Int32) → (Nat → Int32) → (Nat → Int32) → (Nat → Int32) → (Nat → Int32) → (Nat → Int32) → (Nat → Int32) → (Nat → Int32) → (Nat → Int32) → (Nat → Int32) → (Nat → Int32) → (Nat → Int32) → (Nat → Int32) → (Nat → Int32) → (Nat → Int32) → (Nat → Int32) → (Nat → Int32) → Prop) (i : Nat), i < 17 → (∀ a_product : Nat → Int32, J (nI (i + 1)) a_tokenKind a_tokenContent a_stepKind a_stepToken a_waitingKind a_waitingToken a_present a_cells a_leftTop a_leftBottom a_rightTop a_rightBottom a_top a_bottom a_product a_quotient a_common a_spare a_rest a_divisor a_inverse a_numerator a_factorDegrees a_factorPowers a_factorCells) → ∀ d j, ∀ a_product : Nat → Int32, i + j + d = 17 → wX_multiply__numerator_inverse_product_16 post J (nI i) f_tokenCount f_latestPlace f_stepCount f_waitingCount f_stackCount f_factorCount (d + 1) (nI j) a_tokenKind a_tokenContent a_stepKind a_stepToken a_waitingKind a_waitingToken a_present a_cells a_leftTop a_leftBottom a_rightTop a_rightBottom a_top a_bottom a_product a_quotient a_common a_spare a_rest a_divisor a_inverse a_numerator a_factorDegrees a_factorPowers a_factorCells := by
    intro J i hi hJ d
    induction d with
    | zero =>
      intro j a_product hj
      refine br_t ?_ (nm_r (nI_1 i) (hJ _))
      rw [nI_add]; exact nI_le (a := 17) (by omega) (by omega)
    | succ d ih =>
      intro j a_product hj
      have e := pk_in (x := nI i + nI j) (i + j) 17 (by omega) (nI_add i j)
      refine br_f ?_ ⟨e, vp_in_nI (by omega) (by omega), vp_in_nI (by omega) (by omega), by decide, e, nm_e (nm_r (nI_1 j) (ih (j + 1) _ (by omega)))⟩
      rw [nI_add]; exact xl_17 (by omega)
  have outer : ∀ d i, ∀ a_product : Nat → Int32, i + d = 17 → wX_multiply__numerator_inverse_product_7 post f_tokenCount f_latestPlace f_stepCount f_waitingCount f_stackCount f_factorCount (d + 1) (nI i) a_tokenKind a_tokenContent a_stepKind a_stepToken a_waitingKind a_waitingToken a_present a_cells a_leftTop a_leftBottom a_rightTop a_rightBottom a_top a_bottom a_product a_quotient a_common a_spare a_rest a_divisor a_inverse a_numerator a_factorDegrees a_factorPowers a_factorCells := by
    intro d
    induction d with
    | zero =>
      intro i a_product hi
      obtain rfl : i = 17 := by omega
      exact br_t (by decide) (h _)
    | succ d ih =>
      intro i a_product hi
      exact br_f (xl_17 (by omega)) ⟨17 - i + 1, inner _ i (by omega) (fun a_product => ih (i + 1) _ (by omega)) (17 - i) 0 _ (by omega)⟩
  unfold wpX_multiply__numerator_inverse_product
  exact xl_setNumber__product (fun a_product => ⟨18, outer 17 0 _ rfl⟩)
theorem xl_multiply__numerator_leftBottom_product {post : SX → Prop} (h : ∀ a_product : Nat → Int32, post (f_tokenCount, f_latestPlace, f_stepCount, f_waitingCount, f_stackCount, f_factorCount, a_tokenKind, a_tokenContent, a_stepKind, a_stepToken, a_waitingKind, a_waitingToken, a_present, a_cells, a_leftTop, a_leftBottom, a_rightTop, a_rightBottom, a_top, a_bottom, a_product, a_quotient, a_common, a_spare, a_rest, a_divisor, a_inverse, a_numerator, a_factorDegrees, a_factorPowers, a_factorCells)) : wpX_multiply__numerator_leftBottom_product post (f_tokenCount, f_latestPlace, f_stepCount, f_waitingCount, f_stackCount, f_factorCount, a_tokenKind, a_tokenContent, a_stepKind, a_stepToken, a_waitingKind, a_waitingToken, a_present, a_cells, a_leftTop, a_leftBottom, a_rightTop, a_rightBottom, a_top, a_bottom, a_product, a_quotient, a_common, a_spare, a_rest, a_divisor, a_inverse, a_numerator, a_factorDegrees, a_factorPowers, a_factorCells) := by
  have inner : ∀ (J : Int32 → (Nat → Int32) → (Nat → Int32) → (Nat → Int32) → (Nat → Int32) → (Nat → Int32) → (Nat → Int32) → (Nat → Int32) → (Nat → Int32) → (Nat → Int32) → (Nat → Int32) → (Nat → Int32) → (Nat → Int32) → (Nat → Int32) → (Nat → Int32) → (Nat → Int32) → (Nat → Int32) → (Nat → Int32) → (Nat → Int32) → (Nat → Int32) → (Nat → Int32) → (Nat → Int32) → (Nat → Int32) → (Nat → Int32) → (Nat → Int32) → (Nat → Int32) → Prop) (i : Nat), i < 17 → (∀ a_product : Nat → Int32, J (nI (i + 1)) a_tokenKind a_tokenContent a_stepKind a_stepToken a_waitingKind a_waitingToken a_present a_cells a_leftTop a_leftBottom a_rightTop a_rightBottom a_top a_bottom a_product a_quotient a_common a_spare a_rest a_divisor a_inverse a_numerator a_factorDegrees a_factorPowers a_factorCells) → ∀ d j, ∀ a_product : Nat → Int32, i + j + d = 17 → wX_multiply__numerator_leftBottom_product_16 post J (nI i) f_tokenCount f_latestPlace f_stepCount f_waitingCount f_stackCount f_factorCount (d + 1) (nI j) a_tokenKind a_tokenContent a_stepKind a_stepToken a_waitingKind a_waitingToken a_present a_cells a_leftTop a_leftBottom a_rightTop a_rightBottom a_top a_bottom a_product a_quotient a_common a_spare a_rest a_divisor a_inverse a_numerator a_factorDegrees a_factorPowers a_factorCells := by
    intro J i hi hJ d
    induction d with
    | zero =>
      intro j a_product hj
      refine br_t ?_ (nm_r (nI_1 i) (hJ _))
      rw [nI_add]; exact nI_le (a := 17) (by omega) (by omega)
    | succ d ih =>
      intro j a_product hj
      have e := pk_in (x := nI i + nI j) (i + j) 17 (by omega) (nI_add i j)
      refine br_f ?_ ⟨e, vp_in_nI (by omega) (by omega), vp_in_nI (by omega) (by omega), by decide, e, nm_e (nm_r (nI_1 j) (ih (j + 1) _ (by omega)))⟩
      rw [nI_add]; exact xl_17 (by omega)
  have outer : ∀ d i, ∀ a_product : Nat → Int32, i + d = 17 → wX_multiply__numerator_leftBottom_product_7 post f_tokenCount f_latestPlace f_stepCount f_waitingCount f_stackCount f_factorCount (d + 1) (nI i) a_tokenKind a_tokenContent a_stepKind a_stepToken a_waitingKind a_waitingToken a_present a_cells a_leftTop a_leftBottom a_rightTop a_rightBottom a_top a_bottom a_product a_quotient a_common a_spare a_rest a_divisor a_inverse a_numerator a_factorDegrees a_factorPowers a_factorCells := by
    intro d
    induction d with
    | zero =>
      intro i a_product hi
      obtain rfl : i = 17 := by omega
      exact br_t (by decide) (h _)
    | succ d ih =>
      intro i a_product hi
      exact br_f (xl_17 (by omega)) ⟨17 - i + 1, inner _ i (by omega) (fun a_product => ih (i + 1) _ (by omega)) (17 - i) 0 _ (by omega)⟩
  unfold wpX_multiply__numerator_leftBottom_product
  exact xl_setNumber__product (fun a_product => ⟨18, outer 17 0 _ rfl⟩)
end
end
section
/-! The class's leaves: they end, whatever the arrays hold (written by wip/p2/gen_x.py) -/
section
variable {f_tokenCount f_latestPlace f_stepCount f_waitingCount f_stackCount f_factorCount : Int32} {a_tokenKind a_tokenContent a_stepKind a_stepToken a_waitingKind a_waitingToken a_present a_cells a_leftTop a_leftBottom a_rightTop a_rightBottom a_top a_bottom a_product a_quotient a_common a_spare a_rest a_divisor a_inverse a_numerator a_factorDegrees a_factorPowers a_factorCells : Nat → Int32}
theorem xl_addMultiple__top_product {post : SX → Prop} {x : Int32} (h : ∀ a_top : Nat → Int32, post (f_tokenCount, f_latestPlace, f_stepCount, f_waitingCount, f_stackCount, f_factorCount, a_tokenKind, a_tokenContent, a_stepKind, a_stepToken, a_waitingKind, a_waitingToken, a_present, a_cells, a_leftTop, a_leftBottom, a_rightTop, a_rightBottom, a_top, a_bottom, a_product, a_quotient, a_common, a_spare, a_rest, a_divisor, a_inverse, a_numerator, a_factorDegrees, a_factorPowers, a_factorCells)) : wpX_addMultiple__top_product post (f_tokenCount, f_latestPlace, f_stepCount, f_waitingCount, f_stackCount, f_factorCount, a_tokenKind, a_tokenContent, a_stepKind, a_stepToken, a_waitingKind, a_waitingToken, a_present, a_cells, a_leftTop, a_leftBottom, a_rightTop, a_rightBottom, a_top, a_bottom, a_product, a_quotient, a_common, a_spare, a_rest, a_divisor, a_inverse, a_numerator, a_factorDegrees, a_factorPowers, a_factorCells) x := by
  have key : ∀ d j, ∀ a_top : Nat → Int32, j + d = 17 → wX_addMultiple__top_product_2 post x f_tokenCount f_latestPlace f_stepCount f_waitingCount f_stackCount f_factorCount (d + 1) (nI j) a_tokenKind a_tokenContent a_stepKind a_stepToken a_waitingKind a_waitingToken a_present a_cells a_leftTop a_leftBottom a_rightTop a_rightBottom a_top a_bottom a_product a_quotient a_common a_spare a_rest a_divisor a_inverse a_numerator a_factorDegrees a_factorPowers a_factorCells := by
    intro d
    induction d with
    | zero =>
      intro j a_top hj
      obtain rfl : j = 17 := by omega
      exact br_t (by decide) (h _)
    | succ d ih =>
      intro j a_top hj
      exact br_f (xl_17 (by omega)) ⟨vp_in_nI (by omega) (by omega), vp_in_nI (by omega) (by omega), by decide, vp_in_nI (by omega) (by omega), nm_e (nm_r (nI_1 j) (ih (j + 1) _ (by omega)))⟩
  exact ⟨18, key 17 0 a_top rfl⟩
theorem xl_degreeOf__rightTop {post : Int32 → Prop} (h : ∀ r : Int32, (r = -1 ∨ ∃ k, k < 17 ∧ r = nI k) → post r) : wpX_degreeOf__rightTop post (f_tokenCount, f_latestPlace, f_stepCount, f_waitingCount, f_stackCount, f_factorCount, a_tokenKind, a_tokenContent, a_stepKind, a_stepToken, a_waitingKind, a_waitingToken, a_present, a_cells, a_leftTop, a_leftBottom, a_rightTop, a_rightBottom, a_top, a_bottom, a_product, a_quotient, a_common, a_spare, a_rest, a_divisor, a_inverse, a_numerator, a_factorDegrees, a_factorPowers, a_factorCells) := by
  have key : ∀ j n, j < n → j ≤ 17 → wX_degreeOf__rightTop_3 post f_tokenCount f_latestPlace f_stepCount f_waitingCount f_stackCount f_factorCount a_tokenKind a_tokenContent a_stepKind a_stepToken a_waitingKind a_waitingToken a_present a_cells a_leftTop a_leftBottom a_rightTop a_rightBottom a_top a_bottom a_product a_quotient a_common a_spare a_rest a_divisor a_inverse a_numerator a_factorDegrees a_factorPowers a_factorCells n (nI j + (-1)) := by
    intro j
    induction j with
    | zero =>
      intro n hn _
      obtain ⟨n, rfl⟩ : ∃ m, n = m + 1 := ⟨n - 1, by omega⟩
      have e0 : nI 0 + (-1) = -1 := by decide
      rw [e0]
      exact br_t (by decide) (h _ (Or.inl rfl))
    | succ j ih =>
      intro n hn hj
      obtain ⟨n, rfl⟩ : ∃ m, n = m + 1 := ⟨n - 1, by omega⟩
      rw [pk_m1]
      exact br_f (nI_pos (by omega)) ⟨vp_in_nI (by omega) (by omega), br_c (fun _ => nm_e (ih n (by omega) (by omega))) (fun _ => h _ (Or.inr ⟨j, by omega, rfl⟩))⟩
  have e16 : nI 17 + (-1) = 16 := by decide
  have t := key 17 18 (by omega) (by omega)
  rw [e16] at t
  exact ⟨18, t⟩
theorem xl_degreeOf__leftTop {post : Int32 → Prop} (h : ∀ r : Int32, (r = -1 ∨ ∃ k, k < 17 ∧ r = nI k) → post r) : wpX_degreeOf__leftTop post (f_tokenCount, f_latestPlace, f_stepCount, f_waitingCount, f_stackCount, f_factorCount, a_tokenKind, a_tokenContent, a_stepKind, a_stepToken, a_waitingKind, a_waitingToken, a_present, a_cells, a_leftTop, a_leftBottom, a_rightTop, a_rightBottom, a_top, a_bottom, a_product, a_quotient, a_common, a_spare, a_rest, a_divisor, a_inverse, a_numerator, a_factorDegrees, a_factorPowers, a_factorCells) := by
  have key : ∀ j n, j < n → j ≤ 17 → wX_degreeOf__leftTop_3 post f_tokenCount f_latestPlace f_stepCount f_waitingCount f_stackCount f_factorCount a_tokenKind a_tokenContent a_stepKind a_stepToken a_waitingKind a_waitingToken a_present a_cells a_leftTop a_leftBottom a_rightTop a_rightBottom a_top a_bottom a_product a_quotient a_common a_spare a_rest a_divisor a_inverse a_numerator a_factorDegrees a_factorPowers a_factorCells n (nI j + (-1)) := by
    intro j
    induction j with
    | zero =>
      intro n hn _
      obtain ⟨n, rfl⟩ : ∃ m, n = m + 1 := ⟨n - 1, by omega⟩
      have e0 : nI 0 + (-1) = -1 := by decide
      rw [e0]
      exact br_t (by decide) (h _ (Or.inl rfl))
    | succ j ih =>
      intro n hn hj
      obtain ⟨n, rfl⟩ : ∃ m, n = m + 1 := ⟨n - 1, by omega⟩
      rw [pk_m1]
      exact br_f (nI_pos (by omega)) ⟨vp_in_nI (by omega) (by omega), br_c (fun _ => nm_e (ih n (by omega) (by omega))) (fun _ => h _ (Or.inr ⟨j, by omega, rfl⟩))⟩
  have e16 : nI 17 + (-1) = 16 := by decide
  have t := key 17 18 (by omega) (by omega)
  rw [e16] at t
  exact ⟨18, t⟩
theorem xl_degreeOf__leftBottom {post : Int32 → Prop} (h : ∀ r : Int32, (r = -1 ∨ ∃ k, k < 17 ∧ r = nI k) → post r) : wpX_degreeOf__leftBottom post (f_tokenCount, f_latestPlace, f_stepCount, f_waitingCount, f_stackCount, f_factorCount, a_tokenKind, a_tokenContent, a_stepKind, a_stepToken, a_waitingKind, a_waitingToken, a_present, a_cells, a_leftTop, a_leftBottom, a_rightTop, a_rightBottom, a_top, a_bottom, a_product, a_quotient, a_common, a_spare, a_rest, a_divisor, a_inverse, a_numerator, a_factorDegrees, a_factorPowers, a_factorCells) := by
  have key : ∀ j n, j < n → j ≤ 17 → wX_degreeOf__leftBottom_3 post f_tokenCount f_latestPlace f_stepCount f_waitingCount f_stackCount f_factorCount a_tokenKind a_tokenContent a_stepKind a_stepToken a_waitingKind a_waitingToken a_present a_cells a_leftTop a_leftBottom a_rightTop a_rightBottom a_top a_bottom a_product a_quotient a_common a_spare a_rest a_divisor a_inverse a_numerator a_factorDegrees a_factorPowers a_factorCells n (nI j + (-1)) := by
    intro j
    induction j with
    | zero =>
      intro n hn _
      obtain ⟨n, rfl⟩ : ∃ m, n = m + 1 := ⟨n - 1, by omega⟩
      have e0 : nI 0 + (-1) = -1 := by decide
      rw [e0]
      exact br_t (by decide) (h _ (Or.inl rfl))
    | succ j ih =>
      intro n hn hj
      obtain ⟨n, rfl⟩ : ∃ m, n = m + 1 := ⟨n - 1, by omega⟩
      rw [pk_m1]
      exact br_f (nI_pos (by omega)) ⟨vp_in_nI (by omega) (by omega), br_c (fun _ => nm_e (ih n (by omega) (by omega))) (fun _ => h _ (Or.inr ⟨j, by omega, rfl⟩))⟩
  have e16 : nI 17 + (-1) = 16 := by decide
  have t := key 17 18 (by omega) (by omega)
  rw [e16] at t
  exact ⟨18, t⟩
theorem xl_exchange__top_bottom {post : SX → Prop} (h : ∀ a_top a_bottom : Nat → Int32, post (f_tokenCount, f_latestPlace, f_stepCount, f_waitingCount, f_stackCount, f_factorCount, a_tokenKind, a_tokenContent, a_stepKind, a_stepToken, a_waitingKind, a_waitingToken, a_present, a_cells, a_leftTop, a_leftBottom, a_rightTop, a_rightBottom, a_top, a_bottom, a_product, a_quotient, a_common, a_spare, a_rest, a_divisor, a_inverse, a_numerator, a_factorDegrees, a_factorPowers, a_factorCells)) : wpX_exchange__top_bottom post (f_tokenCount, f_latestPlace, f_stepCount, f_waitingCount, f_stackCount, f_factorCount, a_tokenKind, a_tokenContent, a_stepKind, a_stepToken, a_waitingKind, a_waitingToken, a_present, a_cells, a_leftTop, a_leftBottom, a_rightTop, a_rightBottom, a_top, a_bottom, a_product, a_quotient, a_common, a_spare, a_rest, a_divisor, a_inverse, a_numerator, a_factorDegrees, a_factorPowers, a_factorCells) := by
  have key : ∀ d j, ∀ a_top a_bottom : Nat → Int32, j + d = 17 → wX_exchange__top_bottom_2 post f_tokenCount f_latestPlace f_stepCount f_waitingCount f_stackCount f_factorCount (d + 1) (nI j) a_tokenKind a_tokenContent a_stepKind a_stepToken a_waitingKind a_waitingToken a_present a_cells a_leftTop a_leftBottom a_rightTop a_rightBottom a_top a_bottom a_product a_quotient a_common a_spare a_rest a_divisor a_inverse a_numerator a_factorDegrees a_factorPowers a_factorCells := by
    intro d
    induction d with
    | zero =>
      intro j a_top a_bottom hj
      obtain rfl : j = 17 := by omega
      exact br_t (by decide) (h _ _)
    | succ d ih =>
      intro j a_top a_bottom hj
      have e : vp_in (nI j) 17 := vp_in_nI (by omega) (by omega)
      exact br_f (xl_17 (by omega)) ⟨e, nm_e ⟨e, e, nm_e ⟨e, nm_e (nm_r (nI_1 j) (ih (j + 1) _ _ (by omega)))⟩⟩⟩
  exact ⟨18, key 17 0 a_top a_bottom rfl⟩
theorem xl_copy__product_top {post : SX → Prop} (h : ∀ a_top : Nat → Int32, post (f_tokenCount, f_latestPlace, f_stepCount, f_waitingCount, f_stackCount, f_factorCount, a_tokenKind, a_tokenContent, a_stepKind, a_stepToken, a_waitingKind, a_waitingToken, a_present, a_cells, a_leftTop, a_leftBottom, a_rightTop, a_rightBottom, a_top, a_bottom, a_product, a_quotient, a_common, a_spare, a_rest, a_divisor, a_inverse, a_numerator, a_factorDegrees, a_factorPowers, a_factorCells)) : wpX_copy__product_top post (f_tokenCount, f_latestPlace, f_stepCount, f_waitingCount, f_stackCount, f_factorCount, a_tokenKind, a_tokenContent, a_stepKind, a_stepToken, a_waitingKind, a_waitingToken, a_present, a_cells, a_leftTop, a_leftBottom, a_rightTop, a_rightBottom, a_top, a_bottom, a_product, a_quotient, a_common, a_spare, a_rest, a_divisor, a_inverse, a_numerator, a_factorDegrees, a_factorPowers, a_factorCells) := by
  have key : ∀ d j, ∀ a_top : Nat → Int32, j + d = 17 → wX_copy__product_top_2 post f_tokenCount f_latestPlace f_stepCount f_waitingCount f_stackCount f_factorCount (d + 1) (nI j) a_tokenKind a_tokenContent a_stepKind a_stepToken a_waitingKind a_waitingToken a_present a_cells a_leftTop a_leftBottom a_rightTop a_rightBottom a_top a_bottom a_product a_quotient a_common a_spare a_rest a_divisor a_inverse a_numerator a_factorDegrees a_factorPowers a_factorCells := by
    intro d
    induction d with
    | zero =>
      intro j a_top hj
      obtain rfl : j = 17 := by omega
      exact br_t (by decide) (h _)
    | succ d ih =>
      intro j a_top hj
      exact br_f (xl_17 (by omega)) ⟨vp_in_nI (by omega) (by omega), vp_in_nI (by omega) (by omega), nm_e (nm_r (nI_1 j) (ih (j + 1) _ (by omega)))⟩
  exact ⟨18, key 17 0 a_top rfl⟩
theorem xl_copy__product_bottom {post : SX → Prop} (h : ∀ a_bottom : Nat → Int32, post (f_tokenCount, f_latestPlace, f_stepCount, f_waitingCount, f_stackCount, f_factorCount, a_tokenKind, a_tokenContent, a_stepKind, a_stepToken, a_waitingKind, a_waitingToken, a_present, a_cells, a_leftTop, a_leftBottom, a_rightTop, a_rightBottom, a_top, a_bottom, a_product, a_quotient, a_common, a_spare, a_rest, a_divisor, a_inverse, a_numerator, a_factorDegrees, a_factorPowers, a_factorCells)) : wpX_copy__product_bottom post (f_tokenCount, f_latestPlace, f_stepCount, f_waitingCount, f_stackCount, f_factorCount, a_tokenKind, a_tokenContent, a_stepKind, a_stepToken, a_waitingKind, a_waitingToken, a_present, a_cells, a_leftTop, a_leftBottom, a_rightTop, a_rightBottom, a_top, a_bottom, a_product, a_quotient, a_common, a_spare, a_rest, a_divisor, a_inverse, a_numerator, a_factorDegrees, a_factorPowers, a_factorCells) := by
  have key : ∀ d j, ∀ a_bottom : Nat → Int32, j + d = 17 → wX_copy__product_bottom_2 post f_tokenCount f_latestPlace f_stepCount f_waitingCount f_stackCount f_factorCount (d + 1) (nI j) a_tokenKind a_tokenContent a_stepKind a_stepToken a_waitingKind a_waitingToken a_present a_cells a_leftTop a_leftBottom a_rightTop a_rightBottom a_top a_bottom a_product a_quotient a_common a_spare a_rest a_divisor a_inverse a_numerator a_factorDegrees a_factorPowers a_factorCells := by
    intro d
    induction d with
    | zero =>
      intro j a_bottom hj
      obtain rfl : j = 17 := by omega
      exact br_t (by decide) (h _)
    | succ d ih =>
      intro j a_bottom hj
      exact br_f (xl_17 (by omega)) ⟨vp_in_nI (by omega) (by omega), vp_in_nI (by omega) (by omega), nm_e (nm_r (nI_1 j) (ih (j + 1) _ (by omega)))⟩
  exact ⟨18, key 17 0 a_bottom rfl⟩
theorem xl_takeDerivative__leftTop_spare {post : SX → Prop} (h : ∀ a_spare : Nat → Int32, post (f_tokenCount, f_latestPlace, f_stepCount, f_waitingCount, f_stackCount, f_factorCount, a_tokenKind, a_tokenContent, a_stepKind, a_stepToken, a_waitingKind, a_waitingToken, a_present, a_cells, a_leftTop, a_leftBottom, a_rightTop, a_rightBottom, a_top, a_bottom, a_product, a_quotient, a_common, a_spare, a_rest, a_divisor, a_inverse, a_numerator, a_factorDegrees, a_factorPowers, a_factorCells)) : wpX_takeDerivative__leftTop_spare post (f_tokenCount, f_latestPlace, f_stepCount, f_waitingCount, f_stackCount, f_factorCount, a_tokenKind, a_tokenContent, a_stepKind, a_stepToken, a_waitingKind, a_waitingToken, a_present, a_cells, a_leftTop, a_leftBottom, a_rightTop, a_rightBottom, a_top, a_bottom, a_product, a_quotient, a_common, a_spare, a_rest, a_divisor, a_inverse, a_numerator, a_factorDegrees, a_factorPowers, a_factorCells) := by
  have key : ∀ d j, ∀ a_spare : Nat → Int32, j + d = 16 → wX_takeDerivative__leftTop_spare_7 post f_tokenCount f_latestPlace f_stepCount f_waitingCount f_stackCount f_factorCount (d + 1) (nI (j + 1)) a_tokenKind a_tokenContent a_stepKind a_stepToken a_waitingKind a_waitingToken a_present a_cells a_leftTop a_leftBottom a_rightTop a_rightBottom a_top a_bottom a_product a_quotient a_common a_spare a_rest a_divisor a_inverse a_numerator a_factorDegrees a_factorPowers a_factorCells := by
    intro d
    induction d with
    | zero =>
      intro j a_spare hj
      obtain rfl : j = 16 := by omega
      exact br_t (by decide) (h _)
    | succ d ih =>
      intro j a_spare hj
      exact br_f (xl_17 (by omega)) ⟨vp_in_nI (by omega) (by omega), by decide, pk_in j 17 (by omega) (nI_pred j), nm_e (nm_r (nI_1 (j + 1)) (ih (j + 1) _ (by omega)))⟩
  unfold wpX_takeDerivative__leftTop_spare
  exact xl_setNumber__spare (fun a_spare => ⟨17, key 16 0 _ rfl⟩)
theorem xl_takeDerivative__leftBottom_spare {post : SX → Prop} (h : ∀ a_spare : Nat → Int32, post (f_tokenCount, f_latestPlace, f_stepCount, f_waitingCount, f_stackCount, f_factorCount, a_tokenKind, a_tokenContent, a_stepKind, a_stepToken, a_waitingKind, a_waitingToken, a_present, a_cells, a_leftTop, a_leftBottom, a_rightTop, a_rightBottom, a_top, a_bottom, a_product, a_quotient, a_common, a_spare, a_rest, a_divisor, a_inverse, a_numerator, a_factorDegrees, a_factorPowers, a_factorCells)) : wpX_takeDerivative__leftBottom_spare post (f_tokenCount, f_latestPlace, f_stepCount, f_waitingCount, f_stackCount, f_factorCount, a_tokenKind, a_tokenContent, a_stepKind, a_stepToken, a_waitingKind, a_waitingToken, a_present, a_cells, a_leftTop, a_leftBottom, a_rightTop, a_rightBottom, a_top, a_bottom, a_product, a_quotient, a_common, a_spare, a_rest, a_divisor, a_inverse, a_numerator, a_factorDegrees, a_factorPowers, a_factorCells) := by
  have key : ∀ d j, ∀ a_spare : Nat → Int32, j + d = 16 → wX_takeDerivative__leftBottom_spare_7 post f_tokenCount f_latestPlace f_stepCount f_waitingCount f_stackCount f_factorCount (d + 1) (nI (j + 1)) a_tokenKind a_tokenContent a_stepKind a_stepToken a_waitingKind a_waitingToken a_present a_cells a_leftTop a_leftBottom a_rightTop a_rightBottom a_top a_bottom a_product a_quotient a_common a_spare a_rest a_divisor a_inverse a_numerator a_factorDegrees a_factorPowers a_factorCells := by
    intro d
    induction d with
    | zero =>
      intro j a_spare hj
      obtain rfl : j = 16 := by omega
      exact br_t (by decide) (h _)
    | succ d ih =>
      intro j a_spare hj
      exact br_f (xl_17 (by omega)) ⟨vp_in_nI (by omega) (by omega), by decide, pk_in j 17 (by omega) (nI_pred j), nm_e (nm_r (nI_1 (j + 1)) (ih (j + 1) _ (by omega)))⟩
  unfold wpX_takeDerivative__leftBottom_spare
  exact xl_setNumber__spare (fun a_spare => ⟨17, key 16 0 _ rfl⟩)
theorem xl_degreeOf__rightBottom {post : Int32 → Prop} (h : ∀ r : Int32, (r = -1 ∨ ∃ k, k < 17 ∧ r = nI k) → post r) : wpX_degreeOf__rightBottom post (f_tokenCount, f_latestPlace, f_stepCount, f_waitingCount, f_stackCount, f_factorCount, a_tokenKind, a_tokenContent, a_stepKind, a_stepToken, a_waitingKind, a_waitingToken, a_present, a_cells, a_leftTop, a_leftBottom, a_rightTop, a_rightBottom, a_top, a_bottom, a_product, a_quotient, a_common, a_spare, a_rest, a_divisor, a_inverse, a_numerator, a_factorDegrees, a_factorPowers, a_factorCells) := by
  have key : ∀ j n, j < n → j ≤ 17 → wX_degreeOf__rightBottom_3 post f_tokenCount f_latestPlace f_stepCount f_waitingCount f_stackCount f_factorCount a_tokenKind a_tokenContent a_stepKind a_stepToken a_waitingKind a_waitingToken a_present a_cells a_leftTop a_leftBottom a_rightTop a_rightBottom a_top a_bottom a_product a_quotient a_common a_spare a_rest a_divisor a_inverse a_numerator a_factorDegrees a_factorPowers a_factorCells n (nI j + (-1)) := by
    intro j
    induction j with
    | zero =>
      intro n hn _
      obtain ⟨n, rfl⟩ : ∃ m, n = m + 1 := ⟨n - 1, by omega⟩
      have e0 : nI 0 + (-1) = -1 := by decide
      rw [e0]
      exact br_t (by decide) (h _ (Or.inl rfl))
    | succ j ih =>
      intro n hn hj
      obtain ⟨n, rfl⟩ : ∃ m, n = m + 1 := ⟨n - 1, by omega⟩
      rw [pk_m1]
      exact br_f (nI_pos (by omega)) ⟨vp_in_nI (by omega) (by omega), br_c (fun _ => nm_e (ih n (by omega) (by omega))) (fun _ => h _ (Or.inr ⟨j, by omega, rfl⟩))⟩
  have e16 : nI 17 + (-1) = 16 := by decide
  have t := key 17 18 (by omega) (by omega)
  rw [e16] at t
  exact ⟨18, t⟩
theorem xl_addMultiple__top_spare {post : SX → Prop} {x : Int32} (h : ∀ a_top : Nat → Int32, post (f_tokenCount, f_latestPlace, f_stepCount, f_waitingCount, f_stackCount, f_factorCount, a_tokenKind, a_tokenContent, a_stepKind, a_stepToken, a_waitingKind, a_waitingToken, a_present, a_cells, a_leftTop, a_leftBottom, a_rightTop, a_rightBottom, a_top, a_bottom, a_product, a_quotient, a_common, a_spare, a_rest, a_divisor, a_inverse, a_numerator, a_factorDegrees, a_factorPowers, a_factorCells)) : wpX_addMultiple__top_spare post (f_tokenCount, f_latestPlace, f_stepCount, f_waitingCount, f_stackCount, f_factorCount, a_tokenKind, a_tokenContent, a_stepKind, a_stepToken, a_waitingKind, a_waitingToken, a_present, a_cells, a_leftTop, a_leftBottom, a_rightTop, a_rightBottom, a_top, a_bottom, a_product, a_quotient, a_common, a_spare, a_rest, a_divisor, a_inverse, a_numerator, a_factorDegrees, a_factorPowers, a_factorCells) x := by
  have key : ∀ d j, ∀ a_top : Nat → Int32, j + d = 17 → wX_addMultiple__top_spare_2 post x f_tokenCount f_latestPlace f_stepCount f_waitingCount f_stackCount f_factorCount (d + 1) (nI j) a_tokenKind a_tokenContent a_stepKind a_stepToken a_waitingKind a_waitingToken a_present a_cells a_leftTop a_leftBottom a_rightTop a_rightBottom a_top a_bottom a_product a_quotient a_common a_spare a_rest a_divisor a_inverse a_numerator a_factorDegrees a_factorPowers a_factorCells := by
    intro d
    induction d with
    | zero =>
      intro j a_top hj
      obtain rfl : j = 17 := by omega
      exact br_t (by decide) (h _)
    | succ d ih =>
      intro j a_top hj
      exact br_f (xl_17 (by omega)) ⟨vp_in_nI (by omega) (by omega), vp_in_nI (by omega) (by omega), by decide, vp_in_nI (by omega) (by omega), nm_e (nm_r (nI_1 j) (ih (j + 1) _ (by omega)))⟩
  exact ⟨18, key 17 0 a_top rfl⟩
theorem xl_copy__product_spare {post : SX → Prop} (h : ∀ a_spare : Nat → Int32, post (f_tokenCount, f_latestPlace, f_stepCount, f_waitingCount, f_stackCount, f_factorCount, a_tokenKind, a_tokenContent, a_stepKind, a_stepToken, a_waitingKind, a_waitingToken, a_present, a_cells, a_leftTop, a_leftBottom, a_rightTop, a_rightBottom, a_top, a_bottom, a_product, a_quotient, a_common, a_spare, a_rest, a_divisor, a_inverse, a_numerator, a_factorDegrees, a_factorPowers, a_factorCells)) : wpX_copy__product_spare post (f_tokenCount, f_latestPlace, f_stepCount, f_waitingCount, f_stackCount, f_factorCount, a_tokenKind, a_tokenContent, a_stepKind, a_stepToken, a_waitingKind, a_waitingToken, a_present, a_cells, a_leftTop, a_leftBottom, a_rightTop, a_rightBottom, a_top, a_bottom, a_product, a_quotient, a_common, a_spare, a_rest, a_divisor, a_inverse, a_numerator, a_factorDegrees, a_factorPowers, a_factorCells) := by
  have key : ∀ d j, ∀ a_spare : Nat → Int32, j + d = 17 → wX_copy__product_spare_2 post f_tokenCount f_latestPlace f_stepCount f_waitingCount f_stackCount f_factorCount (d + 1) (nI j) a_tokenKind a_tokenContent a_stepKind a_stepToken a_waitingKind a_waitingToken a_present a_cells a_leftTop a_leftBottom a_rightTop a_rightBottom a_top a_bottom a_product a_quotient a_common a_spare a_rest a_divisor a_inverse a_numerator a_factorDegrees a_factorPowers a_factorCells := by
    intro d
    induction d with
    | zero =>
      intro j a_spare hj
      obtain rfl : j = 17 := by omega
      exact br_t (by decide) (h _)
    | succ d ih =>
      intro j a_spare hj
      exact br_f (xl_17 (by omega)) ⟨vp_in_nI (by omega) (by omega), vp_in_nI (by omega) (by omega), nm_e (nm_r (nI_1 j) (ih (j + 1) _ (by omega)))⟩
  exact ⟨18, key 17 0 a_spare rfl⟩
theorem xl_addMultiple__bottom_spare {post : SX → Prop} {x : Int32} (h : ∀ a_bottom : Nat → Int32, post (f_tokenCount, f_latestPlace, f_stepCount, f_waitingCount, f_stackCount, f_factorCount, a_tokenKind, a_tokenContent, a_stepKind, a_stepToken, a_waitingKind, a_waitingToken, a_present, a_cells, a_leftTop, a_leftBottom, a_rightTop, a_rightBottom, a_top, a_bottom, a_product, a_quotient, a_common, a_spare, a_rest, a_divisor, a_inverse, a_numerator, a_factorDegrees, a_factorPowers, a_factorCells)) : wpX_addMultiple__bottom_spare post (f_tokenCount, f_latestPlace, f_stepCount, f_waitingCount, f_stackCount, f_factorCount, a_tokenKind, a_tokenContent, a_stepKind, a_stepToken, a_waitingKind, a_waitingToken, a_present, a_cells, a_leftTop, a_leftBottom, a_rightTop, a_rightBottom, a_top, a_bottom, a_product, a_quotient, a_common, a_spare, a_rest, a_divisor, a_inverse, a_numerator, a_factorDegrees, a_factorPowers, a_factorCells) x := by
  have key : ∀ d j, ∀ a_bottom : Nat → Int32, j + d = 17 → wX_addMultiple__bottom_spare_2 post x f_tokenCount f_latestPlace f_stepCount f_waitingCount f_stackCount f_factorCount (d + 1) (nI j) a_tokenKind a_tokenContent a_stepKind a_stepToken a_waitingKind a_waitingToken a_present a_cells a_leftTop a_leftBottom a_rightTop a_rightBottom a_top a_bottom a_product a_quotient a_common a_spare a_rest a_divisor a_inverse a_numerator a_factorDegrees a_factorPowers a_factorCells := by
    intro d
    induction d with
    | zero =>
      intro j a_bottom hj
      obtain rfl : j = 17 := by omega
      exact br_t (by decide) (h _)
    | succ d ih =>
      intro j a_bottom hj
      exact br_f (xl_17 (by omega)) ⟨vp_in_nI (by omega) (by omega), vp_in_nI (by omega) (by omega), by decide, vp_in_nI (by omega) (by omega), nm_e (nm_r (nI_1 j) (ih (j + 1) _ (by omega)))⟩
  exact ⟨18, key 17 0 a_bottom rfl⟩
theorem xl_valueAt__leftBottom {post : Int32 → Prop} {x : Int32} (h : ∀ r : Int32, post r) : wpX_valueAt__leftBottom post (f_tokenCount, f_latestPlace, f_stepCount, f_waitingCount, f_stackCount, f_factorCount, a_tokenKind, a_tokenContent, a_stepKind, a_stepToken, a_waitingKind, a_waitingToken, a_present, a_cells, a_leftTop, a_leftBottom, a_rightTop, a_rightBottom, a_top, a_bottom, a_product, a_quotient, a_common, a_spare, a_rest, a_divisor, a_inverse, a_numerator, a_factorDegrees, a_factorPowers, a_factorCells) x := by
  have key : ∀ j, ∀ v : Int32, j ≤ 17 → wX_valueAt__leftBottom_5 post x f_tokenCount f_latestPlace f_stepCount f_waitingCount f_stackCount f_factorCount a_tokenKind a_tokenContent a_stepKind a_stepToken a_waitingKind a_waitingToken a_present a_cells a_leftTop a_leftBottom a_rightTop a_rightBottom a_top a_bottom a_product a_quotient a_common a_spare a_rest a_divisor a_inverse a_numerator a_factorDegrees a_factorPowers a_factorCells (j + 1) v (nI j + (-1)) := by
    intro j
    induction j with
    | zero =>
      intro v _
      have e0 : nI 0 + (-1) = -1 := by decide
      rw [e0]
      exact br_t (by decide) (h _)
    | succ j ih =>
      intro v hj
      rw [pk_m1]
      exact br_f (nI_pos (by omega)) ⟨vp_in_nI (by omega) (by omega), by decide, nm_e (nm_e (ih _ (by omega)))⟩
  have e16 : nI 17 + (-1) = 16 := by decide
  have t := key 17 0 (by omega)
  rw [e16] at t
  exact ⟨18, t⟩
theorem xl_addMultiple__top_leftTop {post : SX → Prop} {x : Int32} (h : ∀ a_top : Nat → Int32, post (f_tokenCount, f_latestPlace, f_stepCount, f_waitingCount, f_stackCount, f_factorCount, a_tokenKind, a_tokenContent, a_stepKind, a_stepToken, a_waitingKind, a_waitingToken, a_present, a_cells, a_leftTop, a_leftBottom, a_rightTop, a_rightBottom, a_top, a_bottom, a_product, a_quotient, a_common, a_spare, a_rest, a_divisor, a_inverse, a_numerator, a_factorDegrees, a_factorPowers, a_factorCells)) : wpX_addMultiple__top_leftTop post (f_tokenCount, f_latestPlace, f_stepCount, f_waitingCount, f_stackCount, f_factorCount, a_tokenKind, a_tokenContent, a_stepKind, a_stepToken, a_waitingKind, a_waitingToken, a_present, a_cells, a_leftTop, a_leftBottom, a_rightTop, a_rightBottom, a_top, a_bottom, a_product, a_quotient, a_common, a_spare, a_rest, a_divisor, a_inverse, a_numerator, a_factorDegrees, a_factorPowers, a_factorCells) x := by
  have key : ∀ d j, ∀ a_top : Nat → Int32, j + d = 17 → wX_addMultiple__top_leftTop_2 post x f_tokenCount f_latestPlace f_stepCount f_waitingCount f_stackCount f_factorCount (d + 1) (nI j) a_tokenKind a_tokenContent a_stepKind a_stepToken a_waitingKind a_waitingToken a_present a_cells a_leftTop a_leftBottom a_rightTop a_rightBottom a_top a_bottom a_product a_quotient a_common a_spare a_rest a_divisor a_inverse a_numerator a_factorDegrees a_factorPowers a_factorCells := by
    intro d
    induction d with
    | zero =>
      intro j a_top hj
      obtain rfl : j = 17 := by omega
      exact br_t (by decide) (h _)
    | succ d ih =>
      intro j a_top hj
      exact br_f (xl_17 (by omega)) ⟨vp_in_nI (by omega) (by omega), vp_in_nI (by omega) (by omega), by decide, vp_in_nI (by omega) (by omega), nm_e (nm_r (nI_1 j) (ih (j + 1) _ (by omega)))⟩
  exact ⟨18, key 17 0 a_top rfl⟩
theorem xl_copy__leftBottom_bottom {post : SX → Prop} (h : ∀ a_bottom : Nat → Int32, post (f_tokenCount, f_latestPlace, f_stepCount, f_waitingCount, f_stackCount, f_factorCount, a_tokenKind, a_tokenContent, a_stepKind, a_stepToken, a_waitingKind, a_waitingToken, a_present, a_cells, a_leftTop, a_leftBottom, a_rightTop, a_rightBottom, a_top, a_bottom, a_product, a_quotient, a_common, a_spare, a_rest, a_divisor, a_inverse, a_numerator, a_factorDegrees, a_factorPowers, a_factorCells)) : wpX_copy__leftBottom_bottom post (f_tokenCount, f_latestPlace, f_stepCount, f_waitingCount, f_stackCount, f_factorCount, a_tokenKind, a_tokenContent, a_stepKind, a_stepToken, a_waitingKind, a_waitingToken, a_present, a_cells, a_leftTop, a_leftBottom, a_rightTop, a_rightBottom, a_top, a_bottom, a_product, a_quotient, a_common, a_spare, a_rest, a_divisor, a_inverse, a_numerator, a_factorDegrees, a_factorPowers, a_factorCells) := by
  have key : ∀ d j, ∀ a_bottom : Nat → Int32, j + d = 17 → wX_copy__leftBottom_bottom_2 post f_tokenCount f_latestPlace f_stepCount f_waitingCount f_stackCount f_factorCount (d + 1) (nI j) a_tokenKind a_tokenContent a_stepKind a_stepToken a_waitingKind a_waitingToken a_present a_cells a_leftTop a_leftBottom a_rightTop a_rightBottom a_top a_bottom a_product a_quotient a_common a_spare a_rest a_divisor a_inverse a_numerator a_factorDegrees a_factorPowers a_factorCells := by
    intro d
    induction d with
    | zero =>
      intro j a_bottom hj
      obtain rfl : j = 17 := by omega
      exact br_t (by decide) (h _)
    | succ d ih =>
      intro j a_bottom hj
      exact br_f (xl_17 (by omega)) ⟨vp_in_nI (by omega) (by omega), vp_in_nI (by omega) (by omega), nm_e (nm_r (nI_1 j) (ih (j + 1) _ (by omega)))⟩
  exact ⟨18, key 17 0 a_bottom rfl⟩
theorem xl_copy__top_common {post : SX → Prop} (h : ∀ a_common : Nat → Int32, post (f_tokenCount, f_latestPlace, f_stepCount, f_waitingCount, f_stackCount, f_factorCount, a_tokenKind, a_tokenContent, a_stepKind, a_stepToken, a_waitingKind, a_waitingToken, a_present, a_cells, a_leftTop, a_leftBottom, a_rightTop, a_rightBottom, a_top, a_bottom, a_product, a_quotient, a_common, a_spare, a_rest, a_divisor, a_inverse, a_numerator, a_factorDegrees, a_factorPowers, a_factorCells)) : wpX_copy__top_common post (f_tokenCount, f_latestPlace, f_stepCount, f_waitingCount, f_stackCount, f_factorCount, a_tokenKind, a_tokenContent, a_stepKind, a_stepToken, a_waitingKind, a_waitingToken, a_present, a_cells, a_leftTop, a_leftBottom, a_rightTop, a_rightBottom, a_top, a_bottom, a_product, a_quotient, a_common, a_spare, a_rest, a_divisor, a_inverse, a_numerator, a_factorDegrees, a_factorPowers, a_factorCells) := by
  have key : ∀ d j, ∀ a_common : Nat → Int32, j + d = 17 → wX_copy__top_common_2 post f_tokenCount f_latestPlace f_stepCount f_waitingCount f_stackCount f_factorCount (d + 1) (nI j) a_tokenKind a_tokenContent a_stepKind a_stepToken a_waitingKind a_waitingToken a_present a_cells a_leftTop a_leftBottom a_rightTop a_rightBottom a_top a_bottom a_product a_quotient a_common a_spare a_rest a_divisor a_inverse a_numerator a_factorDegrees a_factorPowers a_factorCells := by
    intro d
    induction d with
    | zero =>
      intro j a_common hj
      obtain rfl : j = 17 := by omega
      exact br_t (by decide) (h _)
    | succ d ih =>
      intro j a_common hj
      exact br_f (xl_17 (by omega)) ⟨vp_in_nI (by omega) (by omega), vp_in_nI (by omega) (by omega), nm_e (nm_r (nI_1 j) (ih (j + 1) _ (by omega)))⟩
  exact ⟨18, key 17 0 a_common rfl⟩
theorem xl_copy__bottom_spare {post : SX → Prop} (h : ∀ a_spare : Nat → Int32, post (f_tokenCount, f_latestPlace, f_stepCount, f_waitingCount, f_stackCount, f_factorCount, a_tokenKind, a_tokenContent, a_stepKind, a_stepToken, a_waitingKind, a_waitingToken, a_present, a_cells, a_leftTop, a_leftBottom, a_rightTop, a_rightBottom, a_top, a_bottom, a_product, a_quotient, a_common, a_spare, a_rest, a_divisor, a_inverse, a_numerator, a_factorDegrees, a_factorPowers, a_factorCells)) : wpX_copy__bottom_spare post (f_tokenCount, f_latestPlace, f_stepCount, f_waitingCount, f_stackCount, f_factorCount, a_tokenKind, a_tokenContent, a_stepKind, a_stepToken, a_waitingKind, a_waitingToken, a_present, a_cells, a_leftTop, a_leftBottom, a_rightTop, a_rightBottom, a_top, a_bottom, a_product, a_quotient, a_common, a_spare, a_rest, a_divisor, a_inverse, a_numerator, a_factorDegrees, a_factorPowers, a_factorCells) := by
  have key : ∀ d j, ∀ a_spare : Nat → Int32, j + d = 17 → wX_copy__bottom_spare_2 post f_tokenCount f_latestPlace f_stepCount f_waitingCount f_stackCount f_factorCount (d + 1) (nI j) a_tokenKind a_tokenContent a_stepKind a_stepToken a_waitingKind a_waitingToken a_present a_cells a_leftTop a_leftBottom a_rightTop a_rightBottom a_top a_bottom a_product a_quotient a_common a_spare a_rest a_divisor a_inverse a_numerator a_factorDegrees a_factorPowers a_factorCells := by
    intro d
    induction d with
    | zero =>
      intro j a_spare hj
      obtain rfl : j = 17 := by omega
      exact br_t (by decide) (h _)
    | succ d ih =>
      intro j a_spare hj
      exact br_f (xl_17 (by omega)) ⟨vp_in_nI (by omega) (by omega), vp_in_nI (by omega) (by omega), nm_e (nm_r (nI_1 j) (ih (j + 1) _ (by omega)))⟩
  exact ⟨18, key 17 0 a_spare rfl⟩
theorem xl_degreeOf__spare {post : Int32 → Prop} (h : ∀ r : Int32, (r = -1 ∨ ∃ k, k < 17 ∧ r = nI k) → post r) : wpX_degreeOf__spare post (f_tokenCount, f_latestPlace, f_stepCount, f_waitingCount, f_stackCount, f_factorCount, a_tokenKind, a_tokenContent, a_stepKind, a_stepToken, a_waitingKind, a_waitingToken, a_present, a_cells, a_leftTop, a_leftBottom, a_rightTop, a_rightBottom, a_top, a_bottom, a_product, a_quotient, a_common, a_spare, a_rest, a_divisor, a_inverse, a_numerator, a_factorDegrees, a_factorPowers, a_factorCells) := by
  have key : ∀ j n, j < n → j ≤ 17 → wX_degreeOf__spare_3 post f_tokenCount f_latestPlace f_stepCount f_waitingCount f_stackCount f_factorCount a_tokenKind a_tokenContent a_stepKind a_stepToken a_waitingKind a_waitingToken a_present a_cells a_leftTop a_leftBottom a_rightTop a_rightBottom a_top a_bottom a_product a_quotient a_common a_spare a_rest a_divisor a_inverse a_numerator a_factorDegrees a_factorPowers a_factorCells n (nI j + (-1)) := by
    intro j
    induction j with
    | zero =>
      intro n hn _
      obtain ⟨n, rfl⟩ : ∃ m, n = m + 1 := ⟨n - 1, by omega⟩
      have e0 : nI 0 + (-1) = -1 := by decide
      rw [e0]
      exact br_t (by decide) (h _ (Or.inl rfl))
    | succ j ih =>
      intro n hn hj
      obtain ⟨n, rfl⟩ : ∃ m, n = m + 1 := ⟨n - 1, by omega⟩
      rw [pk_m1]
      exact br_f (nI_pos (by omega)) ⟨vp_in_nI (by omega) (by omega), br_c (fun _ => nm_e (ih n (by omega) (by omega))) (fun _ => h _ (Or.inr ⟨j, by omega, rfl⟩))⟩
  have e16 : nI 17 + (-1) = 16 := by decide
  have t := key 17 18 (by omega) (by omega)
  rw [e16] at t
  exact ⟨18, t⟩
theorem xl_exchange__common_spare {post : SX → Prop} (h : ∀ a_common a_spare : Nat → Int32, post (f_tokenCount, f_latestPlace, f_stepCount, f_waitingCount, f_stackCount, f_factorCount, a_tokenKind, a_tokenContent, a_stepKind, a_stepToken, a_waitingKind, a_waitingToken, a_present, a_cells, a_leftTop, a_leftBottom, a_rightTop, a_rightBottom, a_top, a_bottom, a_product, a_quotient, a_common, a_spare, a_rest, a_divisor, a_inverse, a_numerator, a_factorDegrees, a_factorPowers, a_factorCells)) : wpX_exchange__common_spare post (f_tokenCount, f_latestPlace, f_stepCount, f_waitingCount, f_stackCount, f_factorCount, a_tokenKind, a_tokenContent, a_stepKind, a_stepToken, a_waitingKind, a_waitingToken, a_present, a_cells, a_leftTop, a_leftBottom, a_rightTop, a_rightBottom, a_top, a_bottom, a_product, a_quotient, a_common, a_spare, a_rest, a_divisor, a_inverse, a_numerator, a_factorDegrees, a_factorPowers, a_factorCells) := by
  have key : ∀ d j, ∀ a_common a_spare : Nat → Int32, j + d = 17 → wX_exchange__common_spare_2 post f_tokenCount f_latestPlace f_stepCount f_waitingCount f_stackCount f_factorCount (d + 1) (nI j) a_tokenKind a_tokenContent a_stepKind a_stepToken a_waitingKind a_waitingToken a_present a_cells a_leftTop a_leftBottom a_rightTop a_rightBottom a_top a_bottom a_product a_quotient a_common a_spare a_rest a_divisor a_inverse a_numerator a_factorDegrees a_factorPowers a_factorCells := by
    intro d
    induction d with
    | zero =>
      intro j a_common a_spare hj
      obtain rfl : j = 17 := by omega
      exact br_t (by decide) (h _ _)
    | succ d ih =>
      intro j a_common a_spare hj
      have e : vp_in (nI j) 17 := vp_in_nI (by omega) (by omega)
      exact br_f (xl_17 (by omega)) ⟨e, nm_e ⟨e, e, nm_e ⟨e, nm_e (nm_r (nI_1 j) (ih (j + 1) _ _ (by omega)))⟩⟩⟩
  exact ⟨18, key 17 0 a_common a_spare rfl⟩
theorem xl_degreeOf__common {post : Int32 → Prop} (h : ∀ r : Int32, (r = -1 ∨ ∃ k, k < 17 ∧ r = nI k) → post r) : wpX_degreeOf__common post (f_tokenCount, f_latestPlace, f_stepCount, f_waitingCount, f_stackCount, f_factorCount, a_tokenKind, a_tokenContent, a_stepKind, a_stepToken, a_waitingKind, a_waitingToken, a_present, a_cells, a_leftTop, a_leftBottom, a_rightTop, a_rightBottom, a_top, a_bottom, a_product, a_quotient, a_common, a_spare, a_rest, a_divisor, a_inverse, a_numerator, a_factorDegrees, a_factorPowers, a_factorCells) := by
  have key : ∀ j n, j < n → j ≤ 17 → wX_degreeOf__common_3 post f_tokenCount f_latestPlace f_stepCount f_waitingCount f_stackCount f_factorCount a_tokenKind a_tokenContent a_stepKind a_stepToken a_waitingKind a_waitingToken a_present a_cells a_leftTop a_leftBottom a_rightTop a_rightBottom a_top a_bottom a_product a_quotient a_common a_spare a_rest a_divisor a_inverse a_numerator a_factorDegrees a_factorPowers a_factorCells n (nI j + (-1)) := by
    intro j
    induction j with
    | zero =>
      intro n hn _
      obtain ⟨n, rfl⟩ : ∃ m, n = m + 1 := ⟨n - 1, by omega⟩
      have e0 : nI 0 + (-1) = -1 := by decide
      rw [e0]
      exact br_t (by decide) (h _ (Or.inl rfl))
    | succ j ih =>
      intro n hn hj
      obtain ⟨n, rfl⟩ : ∃ m, n = m + 1 := ⟨n - 1, by omega⟩
      rw [pk_m1]
      exact br_f (nI_pos (by omega)) ⟨vp_in_nI (by omega) (by omega), br_c (fun _ => nm_e (ih n (by omega) (by omega))) (fun _ => h _ (Or.inr ⟨j, by omega, rfl⟩))⟩
  have e16 : nI 17 + (-1) = 16 := by decide
  have t := key 17 18 (by omega) (by omega)
  rw [e16] at t
  exact ⟨18, t⟩
theorem xl_copy__quotient_top {post : SX → Prop} (h : ∀ a_top : Nat → Int32, post (f_tokenCount, f_latestPlace, f_stepCount, f_waitingCount, f_stackCount, f_factorCount, a_tokenKind, a_tokenContent, a_stepKind, a_stepToken, a_waitingKind, a_waitingToken, a_present, a_cells, a_leftTop, a_leftBottom, a_rightTop, a_rightBottom, a_top, a_bottom, a_product, a_quotient, a_common, a_spare, a_rest, a_divisor, a_inverse, a_numerator, a_factorDegrees, a_factorPowers, a_factorCells)) : wpX_copy__quotient_top post (f_tokenCount, f_latestPlace, f_stepCount, f_waitingCount, f_stackCount, f_factorCount, a_tokenKind, a_tokenContent, a_stepKind, a_stepToken, a_waitingKind, a_waitingToken, a_present, a_cells, a_leftTop, a_leftBottom, a_rightTop, a_rightBottom, a_top, a_bottom, a_product, a_quotient, a_common, a_spare, a_rest, a_divisor, a_inverse, a_numerator, a_factorDegrees, a_factorPowers, a_factorCells) := by
  have key : ∀ d j, ∀ a_top : Nat → Int32, j + d = 17 → wX_copy__quotient_top_2 post f_tokenCount f_latestPlace f_stepCount f_waitingCount f_stackCount f_factorCount (d + 1) (nI j) a_tokenKind a_tokenContent a_stepKind a_stepToken a_waitingKind a_waitingToken a_present a_cells a_leftTop a_leftBottom a_rightTop a_rightBottom a_top a_bottom a_product a_quotient a_common a_spare a_rest a_divisor a_inverse a_numerator a_factorDegrees a_factorPowers a_factorCells := by
    intro d
    induction d with
    | zero =>
      intro j a_top hj
      obtain rfl : j = 17 := by omega
      exact br_t (by decide) (h _)
    | succ d ih =>
      intro j a_top hj
      exact br_f (xl_17 (by omega)) ⟨vp_in_nI (by omega) (by omega), vp_in_nI (by omega) (by omega), nm_e (nm_r (nI_1 j) (ih (j + 1) _ (by omega)))⟩
  exact ⟨18, key 17 0 a_top rfl⟩
theorem xl_copy__quotient_bottom {post : SX → Prop} (h : ∀ a_bottom : Nat → Int32, post (f_tokenCount, f_latestPlace, f_stepCount, f_waitingCount, f_stackCount, f_factorCount, a_tokenKind, a_tokenContent, a_stepKind, a_stepToken, a_waitingKind, a_waitingToken, a_present, a_cells, a_leftTop, a_leftBottom, a_rightTop, a_rightBottom, a_top, a_bottom, a_product, a_quotient, a_common, a_spare, a_rest, a_divisor, a_inverse, a_numerator, a_factorDegrees, a_factorPowers, a_factorCells)) : wpX_copy__quotient_bottom post (f_tokenCount, f_latestPlace, f_stepCount, f_waitingCount, f_stackCount, f_factorCount, a_tokenKind, a_tokenContent, a_stepKind, a_stepToken, a_waitingKind, a_waitingToken, a_present, a_cells, a_leftTop, a_leftBottom, a_rightTop, a_rightBottom, a_top, a_bottom, a_product, a_quotient, a_common, a_spare, a_rest, a_divisor, a_inverse, a_numerator, a_factorDegrees, a_factorPowers, a_factorCells) := by
  have key : ∀ d j, ∀ a_bottom : Nat → Int32, j + d = 17 → wX_copy__quotient_bottom_2 post f_tokenCount f_latestPlace f_stepCount f_waitingCount f_stackCount f_factorCount (d + 1) (nI j) a_tokenKind a_tokenContent a_stepKind a_stepToken a_waitingKind a_waitingToken a_present a_cells a_leftTop a_leftBottom a_rightTop a_rightBottom a_top a_bottom a_product a_quotient a_common a_spare a_rest a_divisor a_inverse a_numerator a_factorDegrees a_factorPowers a_factorCells := by
    intro d
    induction d with
    | zero =>
      intro j a_bottom hj
      obtain rfl : j = 17 := by omega
      exact br_t (by decide) (h _)
    | succ d ih =>
      intro j a_bottom hj
      exact br_f (xl_17 (by omega)) ⟨vp_in_nI (by omega) (by omega), vp_in_nI (by omega) (by omega), nm_e (nm_r (nI_1 j) (ih (j + 1) _ (by omega)))⟩
  exact ⟨18, key 17 0 a_bottom rfl⟩
theorem xl_degreeOf__bottom {post : Int32 → Prop} (h : ∀ r : Int32, (r = -1 ∨ ∃ k, k < 17 ∧ r = nI k) → post r) : wpX_degreeOf__bottom post (f_tokenCount, f_latestPlace, f_stepCount, f_waitingCount, f_stackCount, f_factorCount, a_tokenKind, a_tokenContent, a_stepKind, a_stepToken, a_waitingKind, a_waitingToken, a_present, a_cells, a_leftTop, a_leftBottom, a_rightTop, a_rightBottom, a_top, a_bottom, a_product, a_quotient, a_common, a_spare, a_rest, a_divisor, a_inverse, a_numerator, a_factorDegrees, a_factorPowers, a_factorCells) := by
  have key : ∀ j n, j < n → j ≤ 17 → wX_degreeOf__bottom_3 post f_tokenCount f_latestPlace f_stepCount f_waitingCount f_stackCount f_factorCount a_tokenKind a_tokenContent a_stepKind a_stepToken a_waitingKind a_waitingToken a_present a_cells a_leftTop a_leftBottom a_rightTop a_rightBottom a_top a_bottom a_product a_quotient a_common a_spare a_rest a_divisor a_inverse a_numerator a_factorDegrees a_factorPowers a_factorCells n (nI j + (-1)) := by
    intro j
    induction j with
    | zero =>
      intro n hn _
      obtain ⟨n, rfl⟩ : ∃ m, n = m + 1 := ⟨n - 1, by omega⟩
      have e0 : nI 0 + (-1) = -1 := by decide
      rw [e0]
      exact br_t (by decide) (h _ (Or.inl rfl))
    | succ j ih =>
      intro n hn hj
      obtain ⟨n, rfl⟩ : ∃ m, n = m + 1 := ⟨n - 1, by omega⟩
      rw [pk_m1]
      exact br_f (nI_pos (by omega)) ⟨vp_in_nI (by omega) (by omega), br_c (fun _ => nm_e (ih n (by omega) (by omega))) (fun _ => h _ (Or.inr ⟨j, by omega, rfl⟩))⟩
  have e16 : nI 17 + (-1) = 16 := by decide
  have t := key 17 18 (by omega) (by omega)
  rw [e16] at t
  exact ⟨18, t⟩
theorem xl_multiplyByNumber__top {post : SX → Prop} {x : Int32} (h : ∀ a_top : Nat → Int32, post (f_tokenCount, f_latestPlace, f_stepCount, f_waitingCount, f_stackCount, f_factorCount, a_tokenKind, a_tokenContent, a_stepKind, a_stepToken, a_waitingKind, a_waitingToken, a_present, a_cells, a_leftTop, a_leftBottom, a_rightTop, a_rightBottom, a_top, a_bottom, a_product, a_quotient, a_common, a_spare, a_rest, a_divisor, a_inverse, a_numerator, a_factorDegrees, a_factorPowers, a_factorCells)) : wpX_multiplyByNumber__top post (f_tokenCount, f_latestPlace, f_stepCount, f_waitingCount, f_stackCount, f_factorCount, a_tokenKind, a_tokenContent, a_stepKind, a_stepToken, a_waitingKind, a_waitingToken, a_present, a_cells, a_leftTop, a_leftBottom, a_rightTop, a_rightBottom, a_top, a_bottom, a_product, a_quotient, a_common, a_spare, a_rest, a_divisor, a_inverse, a_numerator, a_factorDegrees, a_factorPowers, a_factorCells) x := by
  have key : ∀ d j, ∀ a_top : Nat → Int32, j + d = 17 → wX_multiplyByNumber__top_2 post x f_tokenCount f_latestPlace f_stepCount f_waitingCount f_stackCount f_factorCount (d + 1) (nI j) a_tokenKind a_tokenContent a_stepKind a_stepToken a_waitingKind a_waitingToken a_present a_cells a_leftTop a_leftBottom a_rightTop a_rightBottom a_top a_bottom a_product a_quotient a_common a_spare a_rest a_divisor a_inverse a_numerator a_factorDegrees a_factorPowers a_factorCells := by
    intro d
    induction d with
    | zero =>
      intro j a_top hj
      obtain rfl : j = 17 := by omega
      exact br_t (by decide) (h _)
    | succ d ih =>
      intro j a_top hj
      exact br_f (xl_17 (by omega)) ⟨vp_in_nI (by omega) (by omega), by decide, vp_in_nI (by omega) (by omega), nm_e (nm_r (nI_1 j) (ih (j + 1) _ (by omega)))⟩
  exact ⟨18, key 17 0 a_top rfl⟩
theorem xl_multiplyByNumber__bottom {post : SX → Prop} {x : Int32} (h : ∀ a_bottom : Nat → Int32, post (f_tokenCount, f_latestPlace, f_stepCount, f_waitingCount, f_stackCount, f_factorCount, a_tokenKind, a_tokenContent, a_stepKind, a_stepToken, a_waitingKind, a_waitingToken, a_present, a_cells, a_leftTop, a_leftBottom, a_rightTop, a_rightBottom, a_top, a_bottom, a_product, a_quotient, a_common, a_spare, a_rest, a_divisor, a_inverse, a_numerator, a_factorDegrees, a_factorPowers, a_factorCells)) : wpX_multiplyByNumber__bottom post (f_tokenCount, f_latestPlace, f_stepCount, f_waitingCount, f_stackCount, f_factorCount, a_tokenKind, a_tokenContent, a_stepKind, a_stepToken, a_waitingKind, a_waitingToken, a_present, a_cells, a_leftTop, a_leftBottom, a_rightTop, a_rightBottom, a_top, a_bottom, a_product, a_quotient, a_common, a_spare, a_rest, a_divisor, a_inverse, a_numerator, a_factorDegrees, a_factorPowers, a_factorCells) x := by
  have key : ∀ d j, ∀ a_bottom : Nat → Int32, j + d = 17 → wX_multiplyByNumber__bottom_2 post x f_tokenCount f_latestPlace f_stepCount f_waitingCount f_stackCount f_factorCount (d + 1) (nI j) a_tokenKind a_tokenContent a_stepKind a_stepToken a_waitingKind a_waitingToken a_present a_cells a_leftTop a_leftBottom a_rightTop a_rightBottom a_top a_bottom a_product a_quotient a_common a_spare a_rest a_divisor a_inverse a_numerator a_factorDegrees a_factorPowers a_factorCells := by
    intro d
    induction d with
    | zero =>
      intro j a_bottom hj
      obtain rfl : j = 17 := by omega
      exact br_t (by decide) (h _)
    | succ d ih =>
      intro j a_bottom hj
      exact br_f (xl_17 (by omega)) ⟨vp_in_nI (by omega) (by omega), by decide, vp_in_nI (by omega) (by omega), nm_e (nm_r (nI_1 j) (ih (j + 1) _ (by omega)))⟩
  exact ⟨18, key 17 0 a_bottom rfl⟩
theorem xl_degreeOf__top {post : Int32 → Prop} (h : ∀ r : Int32, (r = -1 ∨ ∃ k, k < 17 ∧ r = nI k) → post r) : wpX_degreeOf__top post (f_tokenCount, f_latestPlace, f_stepCount, f_waitingCount, f_stackCount, f_factorCount, a_tokenKind, a_tokenContent, a_stepKind, a_stepToken, a_waitingKind, a_waitingToken, a_present, a_cells, a_leftTop, a_leftBottom, a_rightTop, a_rightBottom, a_top, a_bottom, a_product, a_quotient, a_common, a_spare, a_rest, a_divisor, a_inverse, a_numerator, a_factorDegrees, a_factorPowers, a_factorCells) := by
  have key : ∀ j n, j < n → j ≤ 17 → wX_degreeOf__top_3 post f_tokenCount f_latestPlace f_stepCount f_waitingCount f_stackCount f_factorCount a_tokenKind a_tokenContent a_stepKind a_stepToken a_waitingKind a_waitingToken a_present a_cells a_leftTop a_leftBottom a_rightTop a_rightBottom a_top a_bottom a_product a_quotient a_common a_spare a_rest a_divisor a_inverse a_numerator a_factorDegrees a_factorPowers a_factorCells n (nI j + (-1)) := by
    intro j
    induction j with
    | zero =>
      intro n hn _
      obtain ⟨n, rfl⟩ : ∃ m, n = m + 1 := ⟨n - 1, by omega⟩
      have e0 : nI 0 + (-1) = -1 := by decide
      rw [e0]
      exact br_t (by decide) (h _ (Or.inl rfl))
    | succ j ih =>
      intro n hn hj
      obtain ⟨n, rfl⟩ : ∃ m, n = m + 1 := ⟨n - 1, by omega⟩
      rw [pk_m1]
      exact br_f (nI_pos (by omega)) ⟨vp_in_nI (by omega) (by omega), br_c (fun _ => nm_e (ih n (by omega) (by omega))) (fun _ => h _ (Or.inr ⟨j, by omega, rfl⟩))⟩
  have e16 : nI 17 + (-1) = 16 := by decide
  have t := key 17 18 (by omega) (by omega)
  rw [e16] at t
  exact ⟨18, t⟩
theorem xl_degreeOf__rest {post : Int32 → Prop} (h : ∀ r : Int32, (r = -1 ∨ ∃ k, k < 17 ∧ r = nI k) → post r) : wpX_degreeOf__rest post (f_tokenCount, f_latestPlace, f_stepCount, f_waitingCount, f_stackCount, f_factorCount, a_tokenKind, a_tokenContent, a_stepKind, a_stepToken, a_waitingKind, a_waitingToken, a_present, a_cells, a_leftTop, a_leftBottom, a_rightTop, a_rightBottom, a_top, a_bottom, a_product, a_quotient, a_common, a_spare, a_rest, a_divisor, a_inverse, a_numerator, a_factorDegrees, a_factorPowers, a_factorCells) := by
  have key : ∀ j n, j < n → j ≤ 17 → wX_degreeOf__rest_3 post f_tokenCount f_latestPlace f_stepCount f_waitingCount f_stackCount f_factorCount a_tokenKind a_tokenContent a_stepKind a_stepToken a_waitingKind a_waitingToken a_present a_cells a_leftTop a_leftBottom a_rightTop a_rightBottom a_top a_bottom a_product a_quotient a_common a_spare a_rest a_divisor a_inverse a_numerator a_factorDegrees a_factorPowers a_factorCells n (nI j + (-1)) := by
    intro j
    induction j with
    | zero =>
      intro n hn _
      obtain ⟨n, rfl⟩ : ∃ m, n = m + 1 := ⟨n - 1, by omega⟩
      have e0 : nI 0 + (-1) = -1 := by decide
      rw [e0]
      exact br_t (by decide) (h _ (Or.inl rfl))
    | succ j ih =>
      intro n hn hj
      obtain ⟨n, rfl⟩ : ∃ m, n = m + 1 := ⟨n - 1, by omega⟩
      rw [pk_m1]
      exact br_f (nI_pos (by omega)) ⟨vp_in_nI (by omega) (by omega), br_c (fun _ => nm_e (ih n (by omega) (by omega))) (fun _ => h _ (Or.inr ⟨j, by omega, rfl⟩))⟩
  have e16 : nI 17 + (-1) = 16 := by decide
  have t := key 17 18 (by omega) (by omega)
  rw [e16] at t
  exact ⟨18, t⟩
theorem xl_valueAt__leftTop {post : Int32 → Prop} {x : Int32} (h : ∀ r : Int32, post r) : wpX_valueAt__leftTop post (f_tokenCount, f_latestPlace, f_stepCount, f_waitingCount, f_stackCount, f_factorCount, a_tokenKind, a_tokenContent, a_stepKind, a_stepToken, a_waitingKind, a_waitingToken, a_present, a_cells, a_leftTop, a_leftBottom, a_rightTop, a_rightBottom, a_top, a_bottom, a_product, a_quotient, a_common, a_spare, a_rest, a_divisor, a_inverse, a_numerator, a_factorDegrees, a_factorPowers, a_factorCells) x := by
  have key : ∀ j, ∀ v : Int32, j ≤ 17 → wX_valueAt__leftTop_5 post x f_tokenCount f_latestPlace f_stepCount f_waitingCount f_stackCount f_factorCount a_tokenKind a_tokenContent a_stepKind a_stepToken a_waitingKind a_waitingToken a_present a_cells a_leftTop a_leftBottom a_rightTop a_rightBottom a_top a_bottom a_product a_quotient a_common a_spare a_rest a_divisor a_inverse a_numerator a_factorDegrees a_factorPowers a_factorCells (j + 1) v (nI j + (-1)) := by
    intro j
    induction j with
    | zero =>
      intro v _
      have e0 : nI 0 + (-1) = -1 := by decide
      rw [e0]
      exact br_t (by decide) (h _)
    | succ j ih =>
      intro v hj
      rw [pk_m1]
      exact br_f (nI_pos (by omega)) ⟨vp_in_nI (by omega) (by omega), by decide, nm_e (nm_e (ih _ (by omega)))⟩
  have e16 : nI 17 + (-1) = 16 := by decide
  have t := key 17 0 (by omega)
  rw [e16] at t
  exact ⟨18, t⟩
theorem xl_copy__rest_spare {post : SX → Prop} (h : ∀ a_spare : Nat → Int32, post (f_tokenCount, f_latestPlace, f_stepCount, f_waitingCount, f_stackCount, f_factorCount, a_tokenKind, a_tokenContent, a_stepKind, a_stepToken, a_waitingKind, a_waitingToken, a_present, a_cells, a_leftTop, a_leftBottom, a_rightTop, a_rightBottom, a_top, a_bottom, a_product, a_quotient, a_common, a_spare, a_rest, a_divisor, a_inverse, a_numerator, a_factorDegrees, a_factorPowers, a_factorCells)) : wpX_copy__rest_spare post (f_tokenCount, f_latestPlace, f_stepCount, f_waitingCount, f_stackCount, f_factorCount, a_tokenKind, a_tokenContent, a_stepKind, a_stepToken, a_waitingKind, a_waitingToken, a_present, a_cells, a_leftTop, a_leftBottom, a_rightTop, a_rightBottom, a_top, a_bottom, a_product, a_quotient, a_common, a_spare, a_rest, a_divisor, a_inverse, a_numerator, a_factorDegrees, a_factorPowers, a_factorCells) := by
  have key : ∀ d j, ∀ a_spare : Nat → Int32, j + d = 17 → wX_copy__rest_spare_2 post f_tokenCount f_latestPlace f_stepCount f_waitingCount f_stackCount f_factorCount (d + 1) (nI j) a_tokenKind a_tokenContent a_stepKind a_stepToken a_waitingKind a_waitingToken a_present a_cells a_leftTop a_leftBottom a_rightTop a_rightBottom a_top a_bottom a_product a_quotient a_common a_spare a_rest a_divisor a_inverse a_numerator a_factorDegrees a_factorPowers a_factorCells := by
    intro d
    induction d with
    | zero =>
      intro j a_spare hj
      obtain rfl : j = 17 := by omega
      exact br_t (by decide) (h _)
    | succ d ih =>
      intro j a_spare hj
      exact br_f (xl_17 (by omega)) ⟨vp_in_nI (by omega) (by omega), vp_in_nI (by omega) (by omega), nm_e (nm_r (nI_1 j) (ih (j + 1) _ (by omega)))⟩
  exact ⟨18, key 17 0 a_spare rfl⟩
theorem xl_copy__quotient_rest {post : SX → Prop} (h : ∀ a_rest : Nat → Int32, post (f_tokenCount, f_latestPlace, f_stepCount, f_waitingCount, f_stackCount, f_factorCount, a_tokenKind, a_tokenContent, a_stepKind, a_stepToken, a_waitingKind, a_waitingToken, a_present, a_cells, a_leftTop, a_leftBottom, a_rightTop, a_rightBottom, a_top, a_bottom, a_product, a_quotient, a_common, a_spare, a_rest, a_divisor, a_inverse, a_numerator, a_factorDegrees, a_factorPowers, a_factorCells)) : wpX_copy__quotient_rest post (f_tokenCount, f_latestPlace, f_stepCount, f_waitingCount, f_stackCount, f_factorCount, a_tokenKind, a_tokenContent, a_stepKind, a_stepToken, a_waitingKind, a_waitingToken, a_present, a_cells, a_leftTop, a_leftBottom, a_rightTop, a_rightBottom, a_top, a_bottom, a_product, a_quotient, a_common, a_spare, a_rest, a_divisor, a_inverse, a_numerator, a_factorDegrees, a_factorPowers, a_factorCells) := by
  have key : ∀ d j, ∀ a_rest : Nat → Int32, j + d = 17 → wX_copy__quotient_rest_2 post f_tokenCount f_latestPlace f_stepCount f_waitingCount f_stackCount f_factorCount (d + 1) (nI j) a_tokenKind a_tokenContent a_stepKind a_stepToken a_waitingKind a_waitingToken a_present a_cells a_leftTop a_leftBottom a_rightTop a_rightBottom a_top a_bottom a_product a_quotient a_common a_spare a_rest a_divisor a_inverse a_numerator a_factorDegrees a_factorPowers a_factorCells := by
    intro d
    induction d with
    | zero =>
      intro j a_rest hj
      obtain rfl : j = 17 := by omega
      exact br_t (by decide) (h _)
    | succ d ih =>
      intro j a_rest hj
      exact br_f (xl_17 (by omega)) ⟨vp_in_nI (by omega) (by omega), vp_in_nI (by omega) (by omega), nm_e (nm_r (nI_1 j) (ih (j + 1) _ (by omega)))⟩
  exact ⟨18, key 17 0 a_rest rfl⟩
theorem xl_multiplyByNumber__rest {post : SX → Prop} {x : Int32} (h : ∀ a_rest : Nat → Int32, post (f_tokenCount, f_latestPlace, f_stepCount, f_waitingCount, f_stackCount, f_factorCount, a_tokenKind, a_tokenContent, a_stepKind, a_stepToken, a_waitingKind, a_waitingToken, a_present, a_cells, a_leftTop, a_leftBottom, a_rightTop, a_rightBottom, a_top, a_bottom, a_product, a_quotient, a_common, a_spare, a_rest, a_divisor, a_inverse, a_numerator, a_factorDegrees, a_factorPowers, a_factorCells)) : wpX_multiplyByNumber__rest post (f_tokenCount, f_latestPlace, f_stepCount, f_waitingCount, f_stackCount, f_factorCount, a_tokenKind, a_tokenContent, a_stepKind, a_stepToken, a_waitingKind, a_waitingToken, a_present, a_cells, a_leftTop, a_leftBottom, a_rightTop, a_rightBottom, a_top, a_bottom, a_product, a_quotient, a_common, a_spare, a_rest, a_divisor, a_inverse, a_numerator, a_factorDegrees, a_factorPowers, a_factorCells) x := by
  have key : ∀ d j, ∀ a_rest : Nat → Int32, j + d = 17 → wX_multiplyByNumber__rest_2 post x f_tokenCount f_latestPlace f_stepCount f_waitingCount f_stackCount f_factorCount (d + 1) (nI j) a_tokenKind a_tokenContent a_stepKind a_stepToken a_waitingKind a_waitingToken a_present a_cells a_leftTop a_leftBottom a_rightTop a_rightBottom a_top a_bottom a_product a_quotient a_common a_spare a_rest a_divisor a_inverse a_numerator a_factorDegrees a_factorPowers a_factorCells := by
    intro d
    induction d with
    | zero =>
      intro j a_rest hj
      obtain rfl : j = 17 := by omega
      exact br_t (by decide) (h _)
    | succ d ih =>
      intro j a_rest hj
      exact br_f (xl_17 (by omega)) ⟨vp_in_nI (by omega) (by omega), by decide, vp_in_nI (by omega) (by omega), nm_e (nm_r (nI_1 j) (ih (j + 1) _ (by omega)))⟩
  exact ⟨18, key 17 0 a_rest rfl⟩
theorem xl_copy__leftBottom_spare {post : SX → Prop} (h : ∀ a_spare : Nat → Int32, post (f_tokenCount, f_latestPlace, f_stepCount, f_waitingCount, f_stackCount, f_factorCount, a_tokenKind, a_tokenContent, a_stepKind, a_stepToken, a_waitingKind, a_waitingToken, a_present, a_cells, a_leftTop, a_leftBottom, a_rightTop, a_rightBottom, a_top, a_bottom, a_product, a_quotient, a_common, a_spare, a_rest, a_divisor, a_inverse, a_numerator, a_factorDegrees, a_factorPowers, a_factorCells)) : wpX_copy__leftBottom_spare post (f_tokenCount, f_latestPlace, f_stepCount, f_waitingCount, f_stackCount, f_factorCount, a_tokenKind, a_tokenContent, a_stepKind, a_stepToken, a_waitingKind, a_waitingToken, a_present, a_cells, a_leftTop, a_leftBottom, a_rightTop, a_rightBottom, a_top, a_bottom, a_product, a_quotient, a_common, a_spare, a_rest, a_divisor, a_inverse, a_numerator, a_factorDegrees, a_factorPowers, a_factorCells) := by
  have key : ∀ d j, ∀ a_spare : Nat → Int32, j + d = 17 → wX_copy__leftBottom_spare_2 post f_tokenCount f_latestPlace f_stepCount f_waitingCount f_stackCount f_factorCount (d + 1) (nI j) a_tokenKind a_tokenContent a_stepKind a_stepToken a_waitingKind a_waitingToken a_present a_cells a_leftTop a_leftBottom a_rightTop a_rightBottom a_top a_bottom a_product a_quotient a_common a_spare a_rest a_divisor a_inverse a_numerator a_factorDegrees a_factorPowers a_factorCells := by
    intro d
    induction d with
    | zero =>
      intro j a_spare hj
      obtain rfl : j = 17 := by omega
      exact br_t (by decide) (h _)
    | succ d ih =>
      intro j a_spare hj
      exact br_f (xl_17 (by omega)) ⟨vp_in_nI (by omega) (by omega), vp_in_nI (by omega) (by omega), nm_e (nm_r (nI_1 j) (ih (j + 1) _ (by omega)))⟩
  exact ⟨18, key 17 0 a_spare rfl⟩
theorem xl_copy__spare_common {post : SX → Prop} (h : ∀ a_common : Nat → Int32, post (f_tokenCount, f_latestPlace, f_stepCount, f_waitingCount, f_stackCount, f_factorCount, a_tokenKind, a_tokenContent, a_stepKind, a_stepToken, a_waitingKind, a_waitingToken, a_present, a_cells, a_leftTop, a_leftBottom, a_rightTop, a_rightBottom, a_top, a_bottom, a_product, a_quotient, a_common, a_spare, a_rest, a_divisor, a_inverse, a_numerator, a_factorDegrees, a_factorPowers, a_factorCells)) : wpX_copy__spare_common post (f_tokenCount, f_latestPlace, f_stepCount, f_waitingCount, f_stackCount, f_factorCount, a_tokenKind, a_tokenContent, a_stepKind, a_stepToken, a_waitingKind, a_waitingToken, a_present, a_cells, a_leftTop, a_leftBottom, a_rightTop, a_rightBottom, a_top, a_bottom, a_product, a_quotient, a_common, a_spare, a_rest, a_divisor, a_inverse, a_numerator, a_factorDegrees, a_factorPowers, a_factorCells) := by
  have key : ∀ d j, ∀ a_common : Nat → Int32, j + d = 17 → wX_copy__spare_common_2 post f_tokenCount f_latestPlace f_stepCount f_waitingCount f_stackCount f_factorCount (d + 1) (nI j) a_tokenKind a_tokenContent a_stepKind a_stepToken a_waitingKind a_waitingToken a_present a_cells a_leftTop a_leftBottom a_rightTop a_rightBottom a_top a_bottom a_product a_quotient a_common a_spare a_rest a_divisor a_inverse a_numerator a_factorDegrees a_factorPowers a_factorCells := by
    intro d
    induction d with
    | zero =>
      intro j a_common hj
      obtain rfl : j = 17 := by omega
      exact br_t (by decide) (h _)
    | succ d ih =>
      intro j a_common hj
      exact br_f (xl_17 (by omega)) ⟨vp_in_nI (by omega) (by omega), vp_in_nI (by omega) (by omega), nm_e (nm_r (nI_1 j) (ih (j + 1) _ (by omega)))⟩
  exact ⟨18, key 17 0 a_common rfl⟩
theorem xl_copy__product_inverse {post : SX → Prop} (h : ∀ a_inverse : Nat → Int32, post (f_tokenCount, f_latestPlace, f_stepCount, f_waitingCount, f_stackCount, f_factorCount, a_tokenKind, a_tokenContent, a_stepKind, a_stepToken, a_waitingKind, a_waitingToken, a_present, a_cells, a_leftTop, a_leftBottom, a_rightTop, a_rightBottom, a_top, a_bottom, a_product, a_quotient, a_common, a_spare, a_rest, a_divisor, a_inverse, a_numerator, a_factorDegrees, a_factorPowers, a_factorCells)) : wpX_copy__product_inverse post (f_tokenCount, f_latestPlace, f_stepCount, f_waitingCount, f_stackCount, f_factorCount, a_tokenKind, a_tokenContent, a_stepKind, a_stepToken, a_waitingKind, a_waitingToken, a_present, a_cells, a_leftTop, a_leftBottom, a_rightTop, a_rightBottom, a_top, a_bottom, a_product, a_quotient, a_common, a_spare, a_rest, a_divisor, a_inverse, a_numerator, a_factorDegrees, a_factorPowers, a_factorCells) := by
  have key : ∀ d j, ∀ a_inverse : Nat → Int32, j + d = 17 → wX_copy__product_inverse_2 post f_tokenCount f_latestPlace f_stepCount f_waitingCount f_stackCount f_factorCount (d + 1) (nI j) a_tokenKind a_tokenContent a_stepKind a_stepToken a_waitingKind a_waitingToken a_present a_cells a_leftTop a_leftBottom a_rightTop a_rightBottom a_top a_bottom a_product a_quotient a_common a_spare a_rest a_divisor a_inverse a_numerator a_factorDegrees a_factorPowers a_factorCells := by
    intro d
    induction d with
    | zero =>
      intro j a_inverse hj
      obtain rfl : j = 17 := by omega
      exact br_t (by decide) (h _)
    | succ d ih =>
      intro j a_inverse hj
      exact br_f (xl_17 (by omega)) ⟨vp_in_nI (by omega) (by omega), vp_in_nI (by omega) (by omega), nm_e (nm_r (nI_1 j) (ih (j + 1) _ (by omega)))⟩
  exact ⟨18, key 17 0 a_inverse rfl⟩
theorem xl_copy__leftTop_numerator {post : SX → Prop} (h : ∀ a_numerator : Nat → Int32, post (f_tokenCount, f_latestPlace, f_stepCount, f_waitingCount, f_stackCount, f_factorCount, a_tokenKind, a_tokenContent, a_stepKind, a_stepToken, a_waitingKind, a_waitingToken, a_present, a_cells, a_leftTop, a_leftBottom, a_rightTop, a_rightBottom, a_top, a_bottom, a_product, a_quotient, a_common, a_spare, a_rest, a_divisor, a_inverse, a_numerator, a_factorDegrees, a_factorPowers, a_factorCells)) : wpX_copy__leftTop_numerator post (f_tokenCount, f_latestPlace, f_stepCount, f_waitingCount, f_stackCount, f_factorCount, a_tokenKind, a_tokenContent, a_stepKind, a_stepToken, a_waitingKind, a_waitingToken, a_present, a_cells, a_leftTop, a_leftBottom, a_rightTop, a_rightBottom, a_top, a_bottom, a_product, a_quotient, a_common, a_spare, a_rest, a_divisor, a_inverse, a_numerator, a_factorDegrees, a_factorPowers, a_factorCells) := by
  have key : ∀ d j, ∀ a_numerator : Nat → Int32, j + d = 17 → wX_copy__leftTop_numerator_2 post f_tokenCount f_latestPlace f_stepCount f_waitingCount f_stackCount f_factorCount (d + 1) (nI j) a_tokenKind a_tokenContent a_stepKind a_stepToken a_waitingKind a_waitingToken a_present a_cells a_leftTop a_leftBottom a_rightTop a_rightBottom a_top a_bottom a_product a_quotient a_common a_spare a_rest a_divisor a_inverse a_numerator a_factorDegrees a_factorPowers a_factorCells := by
    intro d
    induction d with
    | zero =>
      intro j a_numerator hj
      obtain rfl : j = 17 := by omega
      exact br_t (by decide) (h _)
    | succ d ih =>
      intro j a_numerator hj
      exact br_f (xl_17 (by omega)) ⟨vp_in_nI (by omega) (by omega), vp_in_nI (by omega) (by omega), nm_e (nm_r (nI_1 j) (ih (j + 1) _ (by omega)))⟩
  exact ⟨18, key 17 0 a_numerator rfl⟩
theorem xl_copy__product_numerator {post : SX → Prop} (h : ∀ a_numerator : Nat → Int32, post (f_tokenCount, f_latestPlace, f_stepCount, f_waitingCount, f_stackCount, f_factorCount, a_tokenKind, a_tokenContent, a_stepKind, a_stepToken, a_waitingKind, a_waitingToken, a_present, a_cells, a_leftTop, a_leftBottom, a_rightTop, a_rightBottom, a_top, a_bottom, a_product, a_quotient, a_common, a_spare, a_rest, a_divisor, a_inverse, a_numerator, a_factorDegrees, a_factorPowers, a_factorCells)) : wpX_copy__product_numerator post (f_tokenCount, f_latestPlace, f_stepCount, f_waitingCount, f_stackCount, f_factorCount, a_tokenKind, a_tokenContent, a_stepKind, a_stepToken, a_waitingKind, a_waitingToken, a_present, a_cells, a_leftTop, a_leftBottom, a_rightTop, a_rightBottom, a_top, a_bottom, a_product, a_quotient, a_common, a_spare, a_rest, a_divisor, a_inverse, a_numerator, a_factorDegrees, a_factorPowers, a_factorCells) := by
  have key : ∀ d j, ∀ a_numerator : Nat → Int32, j + d = 17 → wX_copy__product_numerator_2 post f_tokenCount f_latestPlace f_stepCount f_waitingCount f_stackCount f_factorCount (d + 1) (nI j) a_tokenKind a_tokenContent a_stepKind a_stepToken a_waitingKind a_waitingToken a_present a_cells a_leftTop a_leftBottom a_rightTop a_rightBottom a_top a_bottom a_product a_quotient a_common a_spare a_rest a_divisor a_inverse a_numerator a_factorDegrees a_factorPowers a_factorCells := by
    intro d
    induction d with
    | zero =>
      intro j a_numerator hj
      obtain rfl : j = 17 := by omega
      exact br_t (by decide) (h _)
    | succ d ih =>
      intro j a_numerator hj
      exact br_f (xl_17 (by omega)) ⟨vp_in_nI (by omega) (by omega), vp_in_nI (by omega) (by omega), nm_e (nm_r (nI_1 j) (ih (j + 1) _ (by omega)))⟩
  exact ⟨18, key 17 0 a_numerator rfl⟩
theorem xl_addMultiple__leftTop_product {post : SX → Prop} {x : Int32} (h : ∀ a_leftTop : Nat → Int32, post (f_tokenCount, f_latestPlace, f_stepCount, f_waitingCount, f_stackCount, f_factorCount, a_tokenKind, a_tokenContent, a_stepKind, a_stepToken, a_waitingKind, a_waitingToken, a_present, a_cells, a_leftTop, a_leftBottom, a_rightTop, a_rightBottom, a_top, a_bottom, a_product, a_quotient, a_common, a_spare, a_rest, a_divisor, a_inverse, a_numerator, a_factorDegrees, a_factorPowers, a_factorCells)) : wpX_addMultiple__leftTop_product post (f_tokenCount, f_latestPlace, f_stepCount, f_waitingCount, f_stackCount, f_factorCount, a_tokenKind, a_tokenContent, a_stepKind, a_stepToken, a_waitingKind, a_waitingToken, a_present, a_cells, a_leftTop, a_leftBottom, a_rightTop, a_rightBottom, a_top, a_bottom, a_product, a_quotient, a_common, a_spare, a_rest, a_divisor, a_inverse, a_numerator, a_factorDegrees, a_factorPowers, a_factorCells) x := by
  have key : ∀ d j, ∀ a_leftTop : Nat → Int32, j + d = 17 → wX_addMultiple__leftTop_product_2 post x f_tokenCount f_latestPlace f_stepCount f_waitingCount f_stackCount f_factorCount (d + 1) (nI j) a_tokenKind a_tokenContent a_stepKind a_stepToken a_waitingKind a_waitingToken a_present a_cells a_leftTop a_leftBottom a_rightTop a_rightBottom a_top a_bottom a_product a_quotient a_common a_spare a_rest a_divisor a_inverse a_numerator a_factorDegrees a_factorPowers a_factorCells := by
    intro d
    induction d with
    | zero =>
      intro j a_leftTop hj
      obtain rfl : j = 17 := by omega
      exact br_t (by decide) (h _)
    | succ d ih =>
      intro j a_leftTop hj
      exact br_f (xl_17 (by omega)) ⟨vp_in_nI (by omega) (by omega), vp_in_nI (by omega) (by omega), by decide, vp_in_nI (by omega) (by omega), nm_e (nm_r (nI_1 j) (ih (j + 1) _ (by omega)))⟩
  exact ⟨18, key 17 0 a_leftTop rfl⟩
theorem xl_copy__quotient_leftTop {post : SX → Prop} (h : ∀ a_leftTop : Nat → Int32, post (f_tokenCount, f_latestPlace, f_stepCount, f_waitingCount, f_stackCount, f_factorCount, a_tokenKind, a_tokenContent, a_stepKind, a_stepToken, a_waitingKind, a_waitingToken, a_present, a_cells, a_leftTop, a_leftBottom, a_rightTop, a_rightBottom, a_top, a_bottom, a_product, a_quotient, a_common, a_spare, a_rest, a_divisor, a_inverse, a_numerator, a_factorDegrees, a_factorPowers, a_factorCells)) : wpX_copy__quotient_leftTop post (f_tokenCount, f_latestPlace, f_stepCount, f_waitingCount, f_stackCount, f_factorCount, a_tokenKind, a_tokenContent, a_stepKind, a_stepToken, a_waitingKind, a_waitingToken, a_present, a_cells, a_leftTop, a_leftBottom, a_rightTop, a_rightBottom, a_top, a_bottom, a_product, a_quotient, a_common, a_spare, a_rest, a_divisor, a_inverse, a_numerator, a_factorDegrees, a_factorPowers, a_factorCells) := by
  have key : ∀ d j, ∀ a_leftTop : Nat → Int32, j + d = 17 → wX_copy__quotient_leftTop_2 post f_tokenCount f_latestPlace f_stepCount f_waitingCount f_stackCount f_factorCount (d + 1) (nI j) a_tokenKind a_tokenContent a_stepKind a_stepToken a_waitingKind a_waitingToken a_present a_cells a_leftTop a_leftBottom a_rightTop a_rightBottom a_top a_bottom a_product a_quotient a_common a_spare a_rest a_divisor a_inverse a_numerator a_factorDegrees a_factorPowers a_factorCells := by
    intro d
    induction d with
    | zero =>
      intro j a_leftTop hj
      obtain rfl : j = 17 := by omega
      exact br_t (by decide) (h _)
    | succ d ih =>
      intro j a_leftTop hj
      exact br_f (xl_17 (by omega)) ⟨vp_in_nI (by omega) (by omega), vp_in_nI (by omega) (by omega), nm_e (nm_r (nI_1 j) (ih (j + 1) _ (by omega)))⟩
  exact ⟨18, key 17 0 a_leftTop rfl⟩
theorem xl_copy__quotient_leftBottom {post : SX → Prop} (h : ∀ a_leftBottom : Nat → Int32, post (f_tokenCount, f_latestPlace, f_stepCount, f_waitingCount, f_stackCount, f_factorCount, a_tokenKind, a_tokenContent, a_stepKind, a_stepToken, a_waitingKind, a_waitingToken, a_present, a_cells, a_leftTop, a_leftBottom, a_rightTop, a_rightBottom, a_top, a_bottom, a_product, a_quotient, a_common, a_spare, a_rest, a_divisor, a_inverse, a_numerator, a_factorDegrees, a_factorPowers, a_factorCells)) : wpX_copy__quotient_leftBottom post (f_tokenCount, f_latestPlace, f_stepCount, f_waitingCount, f_stackCount, f_factorCount, a_tokenKind, a_tokenContent, a_stepKind, a_stepToken, a_waitingKind, a_waitingToken, a_present, a_cells, a_leftTop, a_leftBottom, a_rightTop, a_rightBottom, a_top, a_bottom, a_product, a_quotient, a_common, a_spare, a_rest, a_divisor, a_inverse, a_numerator, a_factorDegrees, a_factorPowers, a_factorCells) := by
  have key : ∀ d j, ∀ a_leftBottom : Nat → Int32, j + d = 17 → wX_copy__quotient_leftBottom_2 post f_tokenCount f_latestPlace f_stepCount f_waitingCount f_stackCount f_factorCount (d + 1) (nI j) a_tokenKind a_tokenContent a_stepKind a_stepToken a_waitingKind a_waitingToken a_present a_cells a_leftTop a_leftBottom a_rightTop a_rightBottom a_top a_bottom a_product a_quotient a_common a_spare a_rest a_divisor a_inverse a_numerator a_factorDegrees a_factorPowers a_factorCells := by
    intro d
    induction d with
    | zero =>
      intro j a_leftBottom hj
      obtain rfl : j = 17 := by omega
      exact br_t (by decide) (h _)
    | succ d ih =>
      intro j a_leftBottom hj
      exact br_f (xl_17 (by omega)) ⟨vp_in_nI (by omega) (by omega), vp_in_nI (by omega) (by omega), nm_e (nm_r (nI_1 j) (ih (j + 1) _ (by omega)))⟩
  exact ⟨18, key 17 0 a_leftBottom rfl⟩
end
end
section
/-! The class's leaves: they end, whatever the arrays hold (written by wip/p2/gen_x.py) -/
section
variable {f_tokenCount f_latestPlace f_stepCount f_waitingCount f_stackCount f_factorCount : Int32} {a_tokenKind a_tokenContent a_stepKind a_stepToken a_waitingKind a_waitingToken a_present a_cells a_leftTop a_leftBottom a_rightTop a_rightBottom a_top a_bottom a_product a_quotient a_common a_spare a_rest a_divisor a_inverse a_numerator a_factorDegrees a_factorPowers a_factorCells : Nat → Int32}
theorem xl_sizeOf__leftTop_leftBottom {post : Int32 → Prop} (h : ∀ r : Int32, (r = -1 ∨ ∃ k, k < 17 ∧ r = nI k) → post r) : wpX_sizeOf__leftTop_leftBottom post (f_tokenCount, f_latestPlace, f_stepCount, f_waitingCount, f_stackCount, f_factorCount, a_tokenKind, a_tokenContent, a_stepKind, a_stepToken, a_waitingKind, a_waitingToken, a_present, a_cells, a_leftTop, a_leftBottom, a_rightTop, a_rightBottom, a_top, a_bottom, a_product, a_quotient, a_common, a_spare, a_rest, a_divisor, a_inverse, a_numerator, a_factorDegrees, a_factorPowers, a_factorCells) := by
  unfold wpX_sizeOf__leftTop_leftBottom
  exact xl_degreeOf__leftTop (fun r1 h1 => xl_degreeOf__leftBottom (fun r2 h2 => br_c (fun _ => h r2 h2) (fun _ => h r1 h1)))
theorem xl_sizeOf__rightTop_rightBottom {post : Int32 → Prop} (h : ∀ r : Int32, (r = -1 ∨ ∃ k, k < 17 ∧ r = nI k) → post r) : wpX_sizeOf__rightTop_rightBottom post (f_tokenCount, f_latestPlace, f_stepCount, f_waitingCount, f_stackCount, f_factorCount, a_tokenKind, a_tokenContent, a_stepKind, a_stepToken, a_waitingKind, a_waitingToken, a_present, a_cells, a_leftTop, a_leftBottom, a_rightTop, a_rightBottom, a_top, a_bottom, a_product, a_quotient, a_common, a_spare, a_rest, a_divisor, a_inverse, a_numerator, a_factorDegrees, a_factorPowers, a_factorCells) := by
  unfold wpX_sizeOf__rightTop_rightBottom
  exact xl_degreeOf__rightTop (fun r1 h1 => xl_degreeOf__rightBottom (fun r2 h2 => br_c (fun _ => h r2 h2) (fun _ => h r1 h1)))
theorem xl_divide__common_spare_quotient {post : SX → Prop} {p : Int32} (h : ∀ a_common a_quotient : Nat → Int32, post (f_tokenCount, f_latestPlace, f_stepCount, f_waitingCount, f_stackCount, f_factorCount, a_tokenKind, a_tokenContent, a_stepKind, a_stepToken, a_waitingKind, a_waitingToken, a_present, a_cells, a_leftTop, a_leftBottom, a_rightTop, a_rightBottom, a_top, a_bottom, a_product, a_quotient, a_common, a_spare, a_rest, a_divisor, a_inverse, a_numerator, a_factorDegrees, a_factorPowers, a_factorCells)) : wpX_divide__common_spare_quotient post (f_tokenCount, f_latestPlace, f_stepCount, f_waitingCount, f_stackCount, f_factorCount, a_tokenKind, a_tokenContent, a_stepKind, a_stepToken, a_waitingKind, a_waitingToken, a_present, a_cells, a_leftTop, a_leftBottom, a_rightTop, a_rightBottom, a_top, a_bottom, a_product, a_quotient, a_common, a_spare, a_rest, a_divisor, a_inverse, a_numerator, a_factorDegrees, a_factorPowers, a_factorCells) p := by
  have inner : ∀ (J : Int32 → (Nat → Int32) → (Nat → Int32) → (Nat → Int32) → (Nat → Int32) → (Nat → Int32) → (Nat → Int32) → (Nat → Int32) → (Nat → Int32) → (Nat → Int32) → (Nat → Int32) → (Nat → Int32) → (Nat → Int32) → (Nat → Int32) → (Nat → Int32) → (Nat → Int32) → (Nat → Int32) → (Nat → Int32) → (Nat → Int32) → (Nat → Int32) → (Nat → Int32) → (Nat → Int32) → (Nat → Int32) → (Nat → Int32) → (Nat → Int32) → (Nat → Int32) → Prop) (x4 x6 : Int32) (e d : Nat), e + d < 17 → (∀ a_common a_quotient : Nat → Int32, J (nI e + (-1)) a_tokenKind a_tokenContent a_stepKind a_stepToken a_waitingKind a_waitingToken a_present a_cells a_leftTop a_leftBottom a_rightTop a_rightBottom a_top a_bottom a_product a_quotient a_common a_spare a_rest a_divisor a_inverse a_numerator a_factorDegrees a_factorPowers a_factorCells) → ∀ m k, ∀ a_common a_quotient : Nat → Int32, k + m = d + 1 → wX_divide__common_spare_quotient_57 post J (nI d) x4 (nI e) x6 f_tokenCount f_latestPlace f_stepCount f_waitingCount f_stackCount f_factorCount (m + 1) (nI k) a_tokenKind a_tokenContent a_stepKind a_stepToken a_waitingKind a_waitingToken a_present a_cells a_leftTop a_leftBottom a_rightTop a_rightBottom a_top a_bottom a_product a_quotient a_common a_spare a_rest a_divisor a_inverse a_numerator a_factorDegrees a_factorPowers a_factorCells := by
    intro J x4 x6 e d hed hJ m
    induction m with
    | zero =>
      intro k a_common a_quotient hk
      exact br_t (nI_lt (by omega) (by omega)) (nm_e (hJ _ _))
    | succ m ih =>
      intro k a_common a_quotient hk
      have i1 := pk_in (x := nI e + nI k) (e + k) 17 (by omega) (nI_add e k)
      exact br_f (nI_nlt (by omega) (by omega)) ⟨i1, vp_in_nI (by omega) (by omega), by decide, i1, nm_e (nm_r (nI_1 k) (ih (k + 1) _ _ (by omega)))⟩
  have key : ∀ (x4 : Int32) (d : Nat), d < 17 → ∀ j n, ∀ a_common a_quotient : Nat → Int32, j + d ≤ 17 → j < n → wX_divide__common_spare_quotient_30 post (nI d) x4 f_tokenCount f_latestPlace f_stepCount f_waitingCount f_stackCount f_factorCount n (nI j + (-1)) a_tokenKind a_tokenContent a_stepKind a_stepToken a_waitingKind a_waitingToken a_present a_cells a_leftTop a_leftBottom a_rightTop a_rightBottom a_top a_bottom a_product a_quotient a_common a_spare a_rest a_divisor a_inverse a_numerator a_factorDegrees a_factorPowers a_factorCells := by
    intro x4 d hd j
    induction j with
    | zero =>
      intro n a_common a_quotient _ hn
      obtain ⟨n, rfl⟩ : ∃ m, n = m + 1 := ⟨n - 1, by omega⟩
      have e0 : nI 0 + (-1) = -1 := by decide
      rw [e0]
      exact br_t (by decide) (h _ _)
    | succ j ih =>
      intro n a_common a_quotient hj hn
      obtain ⟨n, rfl⟩ : ∃ m, n = m + 1 := ⟨n - 1, by omega⟩
      rw [pk_m1]
      exact br_f (nI_pos (by omega)) ⟨pk_in (j + d) 17 (by omega) (nI_add j d), by decide, nm_e ⟨vp_in_nI (by omega) (by omega), nm_e ⟨d + 2, inner _ x4 _ j d (by omega) (fun a_common a_quotient => ih n _ _ (by omega) (by omega)) (d + 1) 0 _ _ (by omega)⟩⟩⟩
  unfold wpX_divide__common_spare_quotient
  refine xl_setNumber__quotient (fun a_quotient => ?_)
  by_cases c0 : p < 0
  · exact br_t c0 (h _ _)
  · by_cases c1 : p < 17
    · obtain ⟨d, hd, rfl⟩ := nI_of c0
      have hd17 : d < 17 := (nI_ltI (b := 17) hd (by omega)).mp c1
      have e16 : (16 : Int32) - nI d = nI (17 - d) + (-1) := by
        have e1 : 17 - d = (16 - d) + 1 := by omega
        rw [e1, pk_m1]; exact pk_sub (a := 16) (by omega)
      exact br_f c0 (br_t c1 ⟨vp_in_nI hd17 (by omega), by decide, nm_r e16 ⟨18 - d, key _ d hd17 (17 - d) (18 - d) _ _ (by omega) (by omega)⟩⟩)
    · exact br_f c0 (br_f c1 (h _ _))
theorem xl_divide__top_common_quotient {post : SX → Prop} {p : Int32} (h : ∀ a_top a_quotient : Nat → Int32, post (f_tokenCount, f_latestPlace, f_stepCount, f_waitingCount, f_stackCount, f_factorCount, a_tokenKind, a_tokenContent, a_stepKind, a_stepToken, a_waitingKind, a_waitingToken, a_present, a_cells, a_leftTop, a_leftBottom, a_rightTop, a_rightBottom, a_top, a_bottom, a_product, a_quotient, a_common, a_spare, a_rest, a_divisor, a_inverse, a_numerator, a_factorDegrees, a_factorPowers, a_factorCells)) : wpX_divide__top_common_quotient post (f_tokenCount, f_latestPlace, f_stepCount, f_waitingCount, f_stackCount, f_factorCount, a_tokenKind, a_tokenContent, a_stepKind, a_stepToken, a_waitingKind, a_waitingToken, a_present, a_cells, a_leftTop, a_leftBottom, a_rightTop, a_rightBottom, a_top, a_bottom, a_product, a_quotient, a_common, a_spare, a_rest, a_divisor, a_inverse, a_numerator, a_factorDegrees, a_factorPowers, a_factorCells) p := by
  have inner : ∀ (J : Int32 → (Nat → Int32) → (Nat → Int32) → (Nat → Int32) → (Nat → Int32) → (Nat → Int32) → (Nat → Int32) → (Nat → Int32) → (Nat → Int32) → (Nat → Int32) → (Nat → Int32) → (Nat → Int32) → (Nat → Int32) → (Nat → Int32) → (Nat → Int32) → (Nat → Int32) → (Nat → Int32) → (Nat → Int32) → (Nat → Int32) → (Nat → Int32) → (Nat → Int32) → (Nat → Int32) → (Nat → Int32) → (Nat → Int32) → (Nat → Int32) → (Nat → Int32) → Prop) (x4 x6 : Int32) (e d : Nat), e + d < 17 → (∀ a_top a_quotient : Nat → Int32, J (nI e + (-1)) a_tokenKind a_tokenContent a_stepKind a_stepToken a_waitingKind a_waitingToken a_present a_cells a_leftTop a_leftBottom a_rightTop a_rightBottom a_top a_bottom a_product a_quotient a_common a_spare a_rest a_divisor a_inverse a_numerator a_factorDegrees a_factorPowers a_factorCells) → ∀ m k, ∀ a_top a_quotient : Nat → Int32, k + m = d + 1 → wX_divide__top_common_quotient_57 post J (nI d) x4 (nI e) x6 f_tokenCount f_latestPlace f_stepCount f_waitingCount f_stackCount f_factorCount (m + 1) (nI k) a_tokenKind a_tokenContent a_stepKind a_stepToken a_waitingKind a_waitingToken a_present a_cells a_leftTop a_leftBottom a_rightTop a_rightBottom a_top a_bottom a_product a_quotient a_common a_spare a_rest a_divisor a_inverse a_numerator a_factorDegrees a_factorPowers a_factorCells := by
    intro J x4 x6 e d hed hJ m
    induction m with
    | zero =>
      intro k a_top a_quotient hk
      exact br_t (nI_lt (by omega) (by omega)) (nm_e (hJ _ _))
    | succ m ih =>
      intro k a_top a_quotient hk
      have i1 := pk_in (x := nI e + nI k) (e + k) 17 (by omega) (nI_add e k)
      exact br_f (nI_nlt (by omega) (by omega)) ⟨i1, vp_in_nI (by omega) (by omega), by decide, i1, nm_e (nm_r (nI_1 k) (ih (k + 1) _ _ (by omega)))⟩
  have key : ∀ (x4 : Int32) (d : Nat), d < 17 → ∀ j n, ∀ a_top a_quotient : Nat → Int32, j + d ≤ 17 → j < n → wX_divide__top_common_quotient_30 post (nI d) x4 f_tokenCount f_latestPlace f_stepCount f_waitingCount f_stackCount f_factorCount n (nI j + (-1)) a_tokenKind a_tokenContent a_stepKind a_stepToken a_waitingKind a_waitingToken a_present a_cells a_leftTop a_leftBottom a_rightTop a_rightBottom a_top a_bottom a_product a_quotient a_common a_spare a_rest a_divisor a_inverse a_numerator a_factorDegrees a_factorPowers a_factorCells := by
    intro x4 d hd j
    induction j with
    | zero =>
      intro n a_top a_quotient _ hn
      obtain ⟨n, rfl⟩ : ∃ m, n = m + 1 := ⟨n - 1, by omega⟩
      have e0 : nI 0 + (-1) = -1 := by decide
      rw [e0]
      exact br_t (by decide) (h _ _)
    | succ j ih =>
      intro n a_top a_quotient hj hn
      obtain ⟨n, rfl⟩ : ∃ m, n = m + 1 := ⟨n - 1, by omega⟩
      rw [pk_m1]
      exact br_f (nI_pos (by omega)) ⟨pk_in (j + d) 17 (by omega) (nI_add j d), by decide, nm_e ⟨vp_in_nI (by omega) (by omega), nm_e ⟨d + 2, inner _ x4 _ j d (by omega) (fun a_top a_quotient => ih n _ _ (by omega) (by omega)) (d + 1) 0 _ _ (by omega)⟩⟩⟩
  unfold wpX_divide__top_common_quotient
  refine xl_setNumber__quotient (fun a_quotient => ?_)
  by_cases c0 : p < 0
  · exact br_t c0 (h _ _)
  · by_cases c1 : p < 17
    · obtain ⟨d, hd, rfl⟩ := nI_of c0
      have hd17 : d < 17 := (nI_ltI (b := 17) hd (by omega)).mp c1
      have e16 : (16 : Int32) - nI d = nI (17 - d) + (-1) := by
        have e1 : 17 - d = (16 - d) + 1 := by omega
        rw [e1, pk_m1]; exact pk_sub (a := 16) (by omega)
      exact br_f c0 (br_t c1 ⟨vp_in_nI hd17 (by omega), by decide, nm_r e16 ⟨18 - d, key _ d hd17 (17 - d) (18 - d) _ _ (by omega) (by omega)⟩⟩)
    · exact br_f c0 (br_f c1 (h _ _))
theorem xl_divide__bottom_common_quotient {post : SX → Prop} {p : Int32} (h : ∀ a_bottom a_quotient : Nat → Int32, post (f_tokenCount, f_latestPlace, f_stepCount, f_waitingCount, f_stackCount, f_factorCount, a_tokenKind, a_tokenContent, a_stepKind, a_stepToken, a_waitingKind, a_waitingToken, a_present, a_cells, a_leftTop, a_leftBottom, a_rightTop, a_rightBottom, a_top, a_bottom, a_product, a_quotient, a_common, a_spare, a_rest, a_divisor, a_inverse, a_numerator, a_factorDegrees, a_factorPowers, a_factorCells)) : wpX_divide__bottom_common_quotient post (f_tokenCount, f_latestPlace, f_stepCount, f_waitingCount, f_stackCount, f_factorCount, a_tokenKind, a_tokenContent, a_stepKind, a_stepToken, a_waitingKind, a_waitingToken, a_present, a_cells, a_leftTop, a_leftBottom, a_rightTop, a_rightBottom, a_top, a_bottom, a_product, a_quotient, a_common, a_spare, a_rest, a_divisor, a_inverse, a_numerator, a_factorDegrees, a_factorPowers, a_factorCells) p := by
  have inner : ∀ (J : Int32 → (Nat → Int32) → (Nat → Int32) → (Nat → Int32) → (Nat → Int32) → (Nat → Int32) → (Nat → Int32) → (Nat → Int32) → (Nat → Int32) → (Nat → Int32) → (Nat → Int32) → (Nat → Int32) → (Nat → Int32) → (Nat → Int32) → (Nat → Int32) → (Nat → Int32) → (Nat → Int32) → (Nat → Int32) → (Nat → Int32) → (Nat → Int32) → (Nat → Int32) → (Nat → Int32) → (Nat → Int32) → (Nat → Int32) → (Nat → Int32) → (Nat → Int32) → Prop) (x4 x6 : Int32) (e d : Nat), e + d < 17 → (∀ a_bottom a_quotient : Nat → Int32, J (nI e + (-1)) a_tokenKind a_tokenContent a_stepKind a_stepToken a_waitingKind a_waitingToken a_present a_cells a_leftTop a_leftBottom a_rightTop a_rightBottom a_top a_bottom a_product a_quotient a_common a_spare a_rest a_divisor a_inverse a_numerator a_factorDegrees a_factorPowers a_factorCells) → ∀ m k, ∀ a_bottom a_quotient : Nat → Int32, k + m = d + 1 → wX_divide__bottom_common_quotient_57 post J (nI d) x4 (nI e) x6 f_tokenCount f_latestPlace f_stepCount f_waitingCount f_stackCount f_factorCount (m + 1) (nI k) a_tokenKind a_tokenContent a_stepKind a_stepToken a_waitingKind a_waitingToken a_present a_cells a_leftTop a_leftBottom a_rightTop a_rightBottom a_top a_bottom a_product a_quotient a_common a_spare a_rest a_divisor a_inverse a_numerator a_factorDegrees a_factorPowers a_factorCells := by
    intro J x4 x6 e d hed hJ m
    induction m with
    | zero =>
      intro k a_bottom a_quotient hk
      exact br_t (nI_lt (by omega) (by omega)) (nm_e (hJ _ _))
    | succ m ih =>
      intro k a_bottom a_quotient hk
      have i1 := pk_in (x := nI e + nI k) (e + k) 17 (by omega) (nI_add e k)
      exact br_f (nI_nlt (by omega) (by omega)) ⟨i1, vp_in_nI (by omega) (by omega), by decide, i1, nm_e (nm_r (nI_1 k) (ih (k + 1) _ _ (by omega)))⟩
  have key : ∀ (x4 : Int32) (d : Nat), d < 17 → ∀ j n, ∀ a_bottom a_quotient : Nat → Int32, j + d ≤ 17 → j < n → wX_divide__bottom_common_quotient_30 post (nI d) x4 f_tokenCount f_latestPlace f_stepCount f_waitingCount f_stackCount f_factorCount n (nI j + (-1)) a_tokenKind a_tokenContent a_stepKind a_stepToken a_waitingKind a_waitingToken a_present a_cells a_leftTop a_leftBottom a_rightTop a_rightBottom a_top a_bottom a_product a_quotient a_common a_spare a_rest a_divisor a_inverse a_numerator a_factorDegrees a_factorPowers a_factorCells := by
    intro x4 d hd j
    induction j with
    | zero =>
      intro n a_bottom a_quotient _ hn
      obtain ⟨n, rfl⟩ : ∃ m, n = m + 1 := ⟨n - 1, by omega⟩
      have e0 : nI 0 + (-1) = -1 := by decide
      rw [e0]
      exact br_t (by decide) (h _ _)
    | succ j ih =>
      intro n a_bottom a_quotient hj hn
      obtain ⟨n, rfl⟩ : ∃ m, n = m + 1 := ⟨n - 1, by omega⟩
      rw [pk_m1]
      exact br_f (nI_pos (by omega)) ⟨pk_in (j + d) 17 (by omega) (nI_add j d), by decide, nm_e ⟨vp_in_nI (by omega) (by omega), nm_e ⟨d + 2, inner _ x4 _ j d (by omega) (fun a_bottom a_quotient => ih n _ _ (by omega) (by omega)) (d + 1) 0 _ _ (by omega)⟩⟩⟩
  unfold wpX_divide__bottom_common_quotient
  refine xl_setNumber__quotient (fun a_quotient => ?_)
  by_cases c0 : p < 0
  · exact br_t c0 (h _ _)
  · by_cases c1 : p < 17
    · obtain ⟨d, hd, rfl⟩ := nI_of c0
      have hd17 : d < 17 := (nI_ltI (b := 17) hd (by omega)).mp c1
      have e16 : (16 : Int32) - nI d = nI (17 - d) + (-1) := by
        have e1 : 17 - d = (16 - d) + 1 := by omega
        rw [e1, pk_m1]; exact pk_sub (a := 16) (by omega)
      exact br_f c0 (br_t c1 ⟨vp_in_nI hd17 (by omega), by decide, nm_r e16 ⟨18 - d, key _ d hd17 (17 - d) (18 - d) _ _ (by omega) (by omega)⟩⟩)
    · exact br_f c0 (br_f c1 (h _ _))
theorem xl_sizeOf__top_bottom {post : Int32 → Prop} (h : ∀ r : Int32, (r = -1 ∨ ∃ k, k < 17 ∧ r = nI k) → post r) : wpX_sizeOf__top_bottom post (f_tokenCount, f_latestPlace, f_stepCount, f_waitingCount, f_stackCount, f_factorCount, a_tokenKind, a_tokenContent, a_stepKind, a_stepToken, a_waitingKind, a_waitingToken, a_present, a_cells, a_leftTop, a_leftBottom, a_rightTop, a_rightBottom, a_top, a_bottom, a_product, a_quotient, a_common, a_spare, a_rest, a_divisor, a_inverse, a_numerator, a_factorDegrees, a_factorPowers, a_factorCells) := by
  unfold wpX_sizeOf__top_bottom
  exact xl_degreeOf__top (fun r1 h1 => xl_degreeOf__bottom (fun r2 h2 => br_c (fun _ => h r2 h2) (fun _ => h r1 h1)))
theorem xl_divide__spare_divisor_quotient {post : SX → Prop} {p : Int32} (h : ∀ a_spare a_quotient : Nat → Int32, post (f_tokenCount, f_latestPlace, f_stepCount, f_waitingCount, f_stackCount, f_factorCount, a_tokenKind, a_tokenContent, a_stepKind, a_stepToken, a_waitingKind, a_waitingToken, a_present, a_cells, a_leftTop, a_leftBottom, a_rightTop, a_rightBottom, a_top, a_bottom, a_product, a_quotient, a_common, a_spare, a_rest, a_divisor, a_inverse, a_numerator, a_factorDegrees, a_factorPowers, a_factorCells)) : wpX_divide__spare_divisor_quotient post (f_tokenCount, f_latestPlace, f_stepCount, f_waitingCount, f_stackCount, f_factorCount, a_tokenKind, a_tokenContent, a_stepKind, a_stepToken, a_waitingKind, a_waitingToken, a_present, a_cells, a_leftTop, a_leftBottom, a_rightTop, a_rightBottom, a_top, a_bottom, a_product, a_quotient, a_common, a_spare, a_rest, a_divisor, a_inverse, a_numerator, a_factorDegrees, a_factorPowers, a_factorCells) p := by
  have inner : ∀ (J : Int32 → (Nat → Int32) → (Nat → Int32) → (Nat → Int32) → (Nat → Int32) → (Nat → Int32) → (Nat → Int32) → (Nat → Int32) → (Nat → Int32) → (Nat → Int32) → (Nat → Int32) → (Nat → Int32) → (Nat → Int32) → (Nat → Int32) → (Nat → Int32) → (Nat → Int32) → (Nat → Int32) → (Nat → Int32) → (Nat → Int32) → (Nat → Int32) → (Nat → Int32) → (Nat → Int32) → (Nat → Int32) → (Nat → Int32) → (Nat → Int32) → (Nat → Int32) → Prop) (x4 x6 : Int32) (e d : Nat), e + d < 17 → (∀ a_spare a_quotient : Nat → Int32, J (nI e + (-1)) a_tokenKind a_tokenContent a_stepKind a_stepToken a_waitingKind a_waitingToken a_present a_cells a_leftTop a_leftBottom a_rightTop a_rightBottom a_top a_bottom a_product a_quotient a_common a_spare a_rest a_divisor a_inverse a_numerator a_factorDegrees a_factorPowers a_factorCells) → ∀ m k, ∀ a_spare a_quotient : Nat → Int32, k + m = d + 1 → wX_divide__spare_divisor_quotient_57 post J (nI d) x4 (nI e) x6 f_tokenCount f_latestPlace f_stepCount f_waitingCount f_stackCount f_factorCount (m + 1) (nI k) a_tokenKind a_tokenContent a_stepKind a_stepToken a_waitingKind a_waitingToken a_present a_cells a_leftTop a_leftBottom a_rightTop a_rightBottom a_top a_bottom a_product a_quotient a_common a_spare a_rest a_divisor a_inverse a_numerator a_factorDegrees a_factorPowers a_factorCells := by
    intro J x4 x6 e d hed hJ m
    induction m with
    | zero =>
      intro k a_spare a_quotient hk
      exact br_t (nI_lt (by omega) (by omega)) (nm_e (hJ _ _))
    | succ m ih =>
      intro k a_spare a_quotient hk
      have i1 := pk_in (x := nI e + nI k) (e + k) 17 (by omega) (nI_add e k)
      exact br_f (nI_nlt (by omega) (by omega)) ⟨i1, vp_in_nI (by omega) (by omega), by decide, i1, nm_e (nm_r (nI_1 k) (ih (k + 1) _ _ (by omega)))⟩
  have key : ∀ (x4 : Int32) (d : Nat), d < 17 → ∀ j n, ∀ a_spare a_quotient : Nat → Int32, j + d ≤ 17 → j < n → wX_divide__spare_divisor_quotient_30 post (nI d) x4 f_tokenCount f_latestPlace f_stepCount f_waitingCount f_stackCount f_factorCount n (nI j + (-1)) a_tokenKind a_tokenContent a_stepKind a_stepToken a_waitingKind a_waitingToken a_present a_cells a_leftTop a_leftBottom a_rightTop a_rightBottom a_top a_bottom a_product a_quotient a_common a_spare a_rest a_divisor a_inverse a_numerator a_factorDegrees a_factorPowers a_factorCells := by
    intro x4 d hd j
    induction j with
    | zero =>
      intro n a_spare a_quotient _ hn
      obtain ⟨n, rfl⟩ : ∃ m, n = m + 1 := ⟨n - 1, by omega⟩
      have e0 : nI 0 + (-1) = -1 := by decide
      rw [e0]
      exact br_t (by decide) (h _ _)
    | succ j ih =>
      intro n a_spare a_quotient hj hn
      obtain ⟨n, rfl⟩ : ∃ m, n = m + 1 := ⟨n - 1, by omega⟩
      rw [pk_m1]
      exact br_f (nI_pos (by omega)) ⟨pk_in (j + d) 17 (by omega) (nI_add j d), by decide, nm_e ⟨vp_in_nI (by omega) (by omega), nm_e ⟨d + 2, inner _ x4 _ j d (by omega) (fun a_spare a_quotient => ih n _ _ (by omega) (by omega)) (d + 1) 0 _ _ (by omega)⟩⟩⟩
  unfold wpX_divide__spare_divisor_quotient
  refine xl_setNumber__quotient (fun a_quotient => ?_)
  by_cases c0 : p < 0
  · exact br_t c0 (h _ _)
  · by_cases c1 : p < 17
    · obtain ⟨d, hd, rfl⟩ := nI_of c0
      have hd17 : d < 17 := (nI_ltI (b := 17) hd (by omega)).mp c1
      have e16 : (16 : Int32) - nI d = nI (17 - d) + (-1) := by
        have e1 : 17 - d = (16 - d) + 1 := by omega
        rw [e1, pk_m1]; exact pk_sub (a := 16) (by omega)
      exact br_f c0 (br_t c1 ⟨vp_in_nI hd17 (by omega), by decide, nm_r e16 ⟨18 - d, key _ d hd17 (17 - d) (18 - d) _ _ (by omega) (by omega)⟩⟩)
    · exact br_f c0 (br_f c1 (h _ _))
theorem xl_divide__leftTop_leftBottom_quotient {post : SX → Prop} {p : Int32} (h : ∀ a_leftTop a_quotient : Nat → Int32, post (f_tokenCount, f_latestPlace, f_stepCount, f_waitingCount, f_stackCount, f_factorCount, a_tokenKind, a_tokenContent, a_stepKind, a_stepToken, a_waitingKind, a_waitingToken, a_present, a_cells, a_leftTop, a_leftBottom, a_rightTop, a_rightBottom, a_top, a_bottom, a_product, a_quotient, a_common, a_spare, a_rest, a_divisor, a_inverse, a_numerator, a_factorDegrees, a_factorPowers, a_factorCells)) : wpX_divide__leftTop_leftBottom_quotient post (f_tokenCount, f_latestPlace, f_stepCount, f_waitingCount, f_stackCount, f_factorCount, a_tokenKind, a_tokenContent, a_stepKind, a_stepToken, a_waitingKind, a_waitingToken, a_present, a_cells, a_leftTop, a_leftBottom, a_rightTop, a_rightBottom, a_top, a_bottom, a_product, a_quotient, a_common, a_spare, a_rest, a_divisor, a_inverse, a_numerator, a_factorDegrees, a_factorPowers, a_factorCells) p := by
  have inner : ∀ (J : Int32 → (Nat → Int32) → (Nat → Int32) → (Nat → Int32) → (Nat → Int32) → (Nat → Int32) → (Nat → Int32) → (Nat → Int32) → (Nat → Int32) → (Nat → Int32) → (Nat → Int32) → (Nat → Int32) → (Nat → Int32) → (Nat → Int32) → (Nat → Int32) → (Nat → Int32) → (Nat → Int32) → (Nat → Int32) → (Nat → Int32) → (Nat → Int32) → (Nat → Int32) → (Nat → Int32) → (Nat → Int32) → (Nat → Int32) → (Nat → Int32) → (Nat → Int32) → Prop) (x4 x6 : Int32) (e d : Nat), e + d < 17 → (∀ a_leftTop a_quotient : Nat → Int32, J (nI e + (-1)) a_tokenKind a_tokenContent a_stepKind a_stepToken a_waitingKind a_waitingToken a_present a_cells a_leftTop a_leftBottom a_rightTop a_rightBottom a_top a_bottom a_product a_quotient a_common a_spare a_rest a_divisor a_inverse a_numerator a_factorDegrees a_factorPowers a_factorCells) → ∀ m k, ∀ a_leftTop a_quotient : Nat → Int32, k + m = d + 1 → wX_divide__leftTop_leftBottom_quotient_57 post J (nI d) x4 (nI e) x6 f_tokenCount f_latestPlace f_stepCount f_waitingCount f_stackCount f_factorCount (m + 1) (nI k) a_tokenKind a_tokenContent a_stepKind a_stepToken a_waitingKind a_waitingToken a_present a_cells a_leftTop a_leftBottom a_rightTop a_rightBottom a_top a_bottom a_product a_quotient a_common a_spare a_rest a_divisor a_inverse a_numerator a_factorDegrees a_factorPowers a_factorCells := by
    intro J x4 x6 e d hed hJ m
    induction m with
    | zero =>
      intro k a_leftTop a_quotient hk
      exact br_t (nI_lt (by omega) (by omega)) (nm_e (hJ _ _))
    | succ m ih =>
      intro k a_leftTop a_quotient hk
      have i1 := pk_in (x := nI e + nI k) (e + k) 17 (by omega) (nI_add e k)
      exact br_f (nI_nlt (by omega) (by omega)) ⟨i1, vp_in_nI (by omega) (by omega), by decide, i1, nm_e (nm_r (nI_1 k) (ih (k + 1) _ _ (by omega)))⟩
  have key : ∀ (x4 : Int32) (d : Nat), d < 17 → ∀ j n, ∀ a_leftTop a_quotient : Nat → Int32, j + d ≤ 17 → j < n → wX_divide__leftTop_leftBottom_quotient_30 post (nI d) x4 f_tokenCount f_latestPlace f_stepCount f_waitingCount f_stackCount f_factorCount n (nI j + (-1)) a_tokenKind a_tokenContent a_stepKind a_stepToken a_waitingKind a_waitingToken a_present a_cells a_leftTop a_leftBottom a_rightTop a_rightBottom a_top a_bottom a_product a_quotient a_common a_spare a_rest a_divisor a_inverse a_numerator a_factorDegrees a_factorPowers a_factorCells := by
    intro x4 d hd j
    induction j with
    | zero =>
      intro n a_leftTop a_quotient _ hn
      obtain ⟨n, rfl⟩ : ∃ m, n = m + 1 := ⟨n - 1, by omega⟩
      have e0 : nI 0 + (-1) = -1 := by decide
      rw [e0]
      exact br_t (by decide) (h _ _)
    | succ j ih =>
      intro n a_leftTop a_quotient hj hn
      obtain ⟨n, rfl⟩ : ∃ m, n = m + 1 := ⟨n - 1, by omega⟩
      rw [pk_m1]
      exact br_f (nI_pos (by omega)) ⟨pk_in (j + d) 17 (by omega) (nI_add j d), by decide, nm_e ⟨vp_in_nI (by omega) (by omega), nm_e ⟨d + 2, inner _ x4 _ j d (by omega) (fun a_leftTop a_quotient => ih n _ _ (by omega) (by omega)) (d + 1) 0 _ _ (by omega)⟩⟩⟩
  unfold wpX_divide__leftTop_leftBottom_quotient
  refine xl_setNumber__quotient (fun a_quotient => ?_)
  by_cases c0 : p < 0
  · exact br_t c0 (h _ _)
  · by_cases c1 : p < 17
    · obtain ⟨d, hd, rfl⟩ := nI_of c0
      have hd17 : d < 17 := (nI_ltI (b := 17) hd (by omega)).mp c1
      have e16 : (16 : Int32) - nI d = nI (17 - d) + (-1) := by
        have e1 : 17 - d = (16 - d) + 1 := by omega
        rw [e1, pk_m1]; exact pk_sub (a := 16) (by omega)
      exact br_f c0 (br_t c1 ⟨vp_in_nI hd17 (by omega), by decide, nm_r e16 ⟨18 - d, key _ d hd17 (17 - d) (18 - d) _ _ (by omega) (by omega)⟩⟩)
    · exact br_f c0 (br_f c1 (h _ _))
theorem xl_divide__product_divisor_quotient {post : SX → Prop} {p : Int32} (h : ∀ a_product a_quotient : Nat → Int32, post (f_tokenCount, f_latestPlace, f_stepCount, f_waitingCount, f_stackCount, f_factorCount, a_tokenKind, a_tokenContent, a_stepKind, a_stepToken, a_waitingKind, a_waitingToken, a_present, a_cells, a_leftTop, a_leftBottom, a_rightTop, a_rightBottom, a_top, a_bottom, a_product, a_quotient, a_common, a_spare, a_rest, a_divisor, a_inverse, a_numerator, a_factorDegrees, a_factorPowers, a_factorCells)) : wpX_divide__product_divisor_quotient post (f_tokenCount, f_latestPlace, f_stepCount, f_waitingCount, f_stackCount, f_factorCount, a_tokenKind, a_tokenContent, a_stepKind, a_stepToken, a_waitingKind, a_waitingToken, a_present, a_cells, a_leftTop, a_leftBottom, a_rightTop, a_rightBottom, a_top, a_bottom, a_product, a_quotient, a_common, a_spare, a_rest, a_divisor, a_inverse, a_numerator, a_factorDegrees, a_factorPowers, a_factorCells) p := by
  have inner : ∀ (J : Int32 → (Nat → Int32) → (Nat → Int32) → (Nat → Int32) → (Nat → Int32) → (Nat → Int32) → (Nat → Int32) → (Nat → Int32) → (Nat → Int32) → (Nat → Int32) → (Nat → Int32) → (Nat → Int32) → (Nat → Int32) → (Nat → Int32) → (Nat → Int32) → (Nat → Int32) → (Nat → Int32) → (Nat → Int32) → (Nat → Int32) → (Nat → Int32) → (Nat → Int32) → (Nat → Int32) → (Nat → Int32) → (Nat → Int32) → (Nat → Int32) → (Nat → Int32) → Prop) (x4 x6 : Int32) (e d : Nat), e + d < 17 → (∀ a_product a_quotient : Nat → Int32, J (nI e + (-1)) a_tokenKind a_tokenContent a_stepKind a_stepToken a_waitingKind a_waitingToken a_present a_cells a_leftTop a_leftBottom a_rightTop a_rightBottom a_top a_bottom a_product a_quotient a_common a_spare a_rest a_divisor a_inverse a_numerator a_factorDegrees a_factorPowers a_factorCells) → ∀ m k, ∀ a_product a_quotient : Nat → Int32, k + m = d + 1 → wX_divide__product_divisor_quotient_57 post J (nI d) x4 (nI e) x6 f_tokenCount f_latestPlace f_stepCount f_waitingCount f_stackCount f_factorCount (m + 1) (nI k) a_tokenKind a_tokenContent a_stepKind a_stepToken a_waitingKind a_waitingToken a_present a_cells a_leftTop a_leftBottom a_rightTop a_rightBottom a_top a_bottom a_product a_quotient a_common a_spare a_rest a_divisor a_inverse a_numerator a_factorDegrees a_factorPowers a_factorCells := by
    intro J x4 x6 e d hed hJ m
    induction m with
    | zero =>
      intro k a_product a_quotient hk
      exact br_t (nI_lt (by omega) (by omega)) (nm_e (hJ _ _))
    | succ m ih =>
      intro k a_product a_quotient hk
      have i1 := pk_in (x := nI e + nI k) (e + k) 17 (by omega) (nI_add e k)
      exact br_f (nI_nlt (by omega) (by omega)) ⟨i1, vp_in_nI (by omega) (by omega), by decide, i1, nm_e (nm_r (nI_1 k) (ih (k + 1) _ _ (by omega)))⟩
  have key : ∀ (x4 : Int32) (d : Nat), d < 17 → ∀ j n, ∀ a_product a_quotient : Nat → Int32, j + d ≤ 17 → j < n → wX_divide__product_divisor_quotient_30 post (nI d) x4 f_tokenCount f_latestPlace f_stepCount f_waitingCount f_stackCount f_factorCount n (nI j + (-1)) a_tokenKind a_tokenContent a_stepKind a_stepToken a_waitingKind a_waitingToken a_present a_cells a_leftTop a_leftBottom a_rightTop a_rightBottom a_top a_bottom a_product a_quotient a_common a_spare a_rest a_divisor a_inverse a_numerator a_factorDegrees a_factorPowers a_factorCells := by
    intro x4 d hd j
    induction j with
    | zero =>
      intro n a_product a_quotient _ hn
      obtain ⟨n, rfl⟩ : ∃ m, n = m + 1 := ⟨n - 1, by omega⟩
      have e0 : nI 0 + (-1) = -1 := by decide
      rw [e0]
      exact br_t (by decide) (h _ _)
    | succ j ih =>
      intro n a_product a_quotient hj hn
      obtain ⟨n, rfl⟩ : ∃ m, n = m + 1 := ⟨n - 1, by omega⟩
      rw [pk_m1]
      exact br_f (nI_pos (by omega)) ⟨pk_in (j + d) 17 (by omega) (nI_add j d), by decide, nm_e ⟨vp_in_nI (by omega) (by omega), nm_e ⟨d + 2, inner _ x4 _ j d (by omega) (fun a_product a_quotient => ih n _ _ (by omega) (by omega)) (d + 1) 0 _ _ (by omega)⟩⟩⟩
  unfold wpX_divide__product_divisor_quotient
  refine xl_setNumber__quotient (fun a_quotient => ?_)
  by_cases c0 : p < 0
  · exact br_t c0 (h _ _)
  · by_cases c1 : p < 17
    · obtain ⟨d, hd, rfl⟩ := nI_of c0
      have hd17 : d < 17 := (nI_ltI (b := 17) hd (by omega)).mp c1
      have e16 : (16 : Int32) - nI d = nI (17 - d) + (-1) := by
        have e1 : 17 - d = (16 - d) + 1 := by omega
        rw [e1, pk_m1]; exact pk_sub (a := 16) (by omega)
      exact br_f c0 (br_t c1 ⟨vp_in_nI hd17 (by omega), by decide, nm_r e16 ⟨18 - d, key _ d hd17 (17 - d) (18 - d) _ _ (by omega) (by omega)⟩⟩)
    · exact br_f c0 (br_f c1 (h _ _))
theorem xl_divide__leftTop_divisor_quotient {post : SX → Prop} {p : Int32} (h : ∀ a_leftTop a_quotient : Nat → Int32, post (f_tokenCount, f_latestPlace, f_stepCount, f_waitingCount, f_stackCount, f_factorCount, a_tokenKind, a_tokenContent, a_stepKind, a_stepToken, a_waitingKind, a_waitingToken, a_present, a_cells, a_leftTop, a_leftBottom, a_rightTop, a_rightBottom, a_top, a_bottom, a_product, a_quotient, a_common, a_spare, a_rest, a_divisor, a_inverse, a_numerator, a_factorDegrees, a_factorPowers, a_factorCells)) : wpX_divide__leftTop_divisor_quotient post (f_tokenCount, f_latestPlace, f_stepCount, f_waitingCount, f_stackCount, f_factorCount, a_tokenKind, a_tokenContent, a_stepKind, a_stepToken, a_waitingKind, a_waitingToken, a_present, a_cells, a_leftTop, a_leftBottom, a_rightTop, a_rightBottom, a_top, a_bottom, a_product, a_quotient, a_common, a_spare, a_rest, a_divisor, a_inverse, a_numerator, a_factorDegrees, a_factorPowers, a_factorCells) p := by
  have inner : ∀ (J : Int32 → (Nat → Int32) → (Nat → Int32) → (Nat → Int32) → (Nat → Int32) → (Nat → Int32) → (Nat → Int32) → (Nat → Int32) → (Nat → Int32) → (Nat → Int32) → (Nat → Int32) → (Nat → Int32) → (Nat → Int32) → (Nat → Int32) → (Nat → Int32) → (Nat → Int32) → (Nat → Int32) → (Nat → Int32) → (Nat → Int32) → (Nat → Int32) → (Nat → Int32) → (Nat → Int32) → (Nat → Int32) → (Nat → Int32) → (Nat → Int32) → (Nat → Int32) → Prop) (x4 x6 : Int32) (e d : Nat), e + d < 17 → (∀ a_leftTop a_quotient : Nat → Int32, J (nI e + (-1)) a_tokenKind a_tokenContent a_stepKind a_stepToken a_waitingKind a_waitingToken a_present a_cells a_leftTop a_leftBottom a_rightTop a_rightBottom a_top a_bottom a_product a_quotient a_common a_spare a_rest a_divisor a_inverse a_numerator a_factorDegrees a_factorPowers a_factorCells) → ∀ m k, ∀ a_leftTop a_quotient : Nat → Int32, k + m = d + 1 → wX_divide__leftTop_divisor_quotient_57 post J (nI d) x4 (nI e) x6 f_tokenCount f_latestPlace f_stepCount f_waitingCount f_stackCount f_factorCount (m + 1) (nI k) a_tokenKind a_tokenContent a_stepKind a_stepToken a_waitingKind a_waitingToken a_present a_cells a_leftTop a_leftBottom a_rightTop a_rightBottom a_top a_bottom a_product a_quotient a_common a_spare a_rest a_divisor a_inverse a_numerator a_factorDegrees a_factorPowers a_factorCells := by
    intro J x4 x6 e d hed hJ m
    induction m with
    | zero =>
      intro k a_leftTop a_quotient hk
      exact br_t (nI_lt (by omega) (by omega)) (nm_e (hJ _ _))
    | succ m ih =>
      intro k a_leftTop a_quotient hk
      have i1 := pk_in (x := nI e + nI k) (e + k) 17 (by omega) (nI_add e k)
      exact br_f (nI_nlt (by omega) (by omega)) ⟨i1, vp_in_nI (by omega) (by omega), by decide, i1, nm_e (nm_r (nI_1 k) (ih (k + 1) _ _ (by omega)))⟩
  have key : ∀ (x4 : Int32) (d : Nat), d < 17 → ∀ j n, ∀ a_leftTop a_quotient : Nat → Int32, j + d ≤ 17 → j < n → wX_divide__leftTop_divisor_quotient_30 post (nI d) x4 f_tokenCount f_latestPlace f_stepCount f_waitingCount f_stackCount f_factorCount n (nI j + (-1)) a_tokenKind a_tokenContent a_stepKind a_stepToken a_waitingKind a_waitingToken a_present a_cells a_leftTop a_leftBottom a_rightTop a_rightBottom a_top a_bottom a_product a_quotient a_common a_spare a_rest a_divisor a_inverse a_numerator a_factorDegrees a_factorPowers a_factorCells := by
    intro x4 d hd j
    induction j with
    | zero =>
      intro n a_leftTop a_quotient _ hn
      obtain ⟨n, rfl⟩ : ∃ m, n = m + 1 := ⟨n - 1, by omega⟩
      have e0 : nI 0 + (-1) = -1 := by decide
      rw [e0]
      exact br_t (by decide) (h _ _)
    | succ j ih =>
      intro n a_leftTop a_quotient hj hn
      obtain ⟨n, rfl⟩ : ∃ m, n = m + 1 := ⟨n - 1, by omega⟩
      rw [pk_m1]
      exact br_f (nI_pos (by omega)) ⟨pk_in (j + d) 17 (by omega) (nI_add j d), by decide, nm_e ⟨vp_in_nI (by omega) (by omega), nm_e ⟨d + 2, inner _ x4 _ j d (by omega) (fun a_leftTop a_quotient => ih n _ _ (by omega) (by omega)) (d + 1) 0 _ _ (by omega)⟩⟩⟩
  unfold wpX_divide__leftTop_divisor_quotient
  refine xl_setNumber__quotient (fun a_quotient => ?_)
  by_cases c0 : p < 0
  · exact br_t c0 (h _ _)
  · by_cases c1 : p < 17
    · obtain ⟨d, hd, rfl⟩ := nI_of c0
      have hd17 : d < 17 := (nI_ltI (b := 17) hd (by omega)).mp c1
      have e16 : (16 : Int32) - nI d = nI (17 - d) + (-1) := by
        have e1 : 17 - d = (16 - d) + 1 := by omega
        rw [e1, pk_m1]; exact pk_sub (a := 16) (by omega)
      exact br_f c0 (br_t c1 ⟨vp_in_nI hd17 (by omega), by decide, nm_r e16 ⟨18 - d, key _ d hd17 (17 - d) (18 - d) _ _ (by omega) (by omega)⟩⟩)
    · exact br_f c0 (br_f c1 (h _ _))
theorem xl_divide__leftBottom_divisor_quotient {post : SX → Prop} {p : Int32} (h : ∀ a_leftBottom a_quotient : Nat → Int32, post (f_tokenCount, f_latestPlace, f_stepCount, f_waitingCount, f_stackCount, f_factorCount, a_tokenKind, a_tokenContent, a_stepKind, a_stepToken, a_waitingKind, a_waitingToken, a_present, a_cells, a_leftTop, a_leftBottom, a_rightTop, a_rightBottom, a_top, a_bottom, a_product, a_quotient, a_common, a_spare, a_rest, a_divisor, a_inverse, a_numerator, a_factorDegrees, a_factorPowers, a_factorCells)) : wpX_divide__leftBottom_divisor_quotient post (f_tokenCount, f_latestPlace, f_stepCount, f_waitingCount, f_stackCount, f_factorCount, a_tokenKind, a_tokenContent, a_stepKind, a_stepToken, a_waitingKind, a_waitingToken, a_present, a_cells, a_leftTop, a_leftBottom, a_rightTop, a_rightBottom, a_top, a_bottom, a_product, a_quotient, a_common, a_spare, a_rest, a_divisor, a_inverse, a_numerator, a_factorDegrees, a_factorPowers, a_factorCells) p := by
  have inner : ∀ (J : Int32 → (Nat → Int32) → (Nat → Int32) → (Nat → Int32) → (Nat → Int32) → (Nat → Int32) → (Nat → Int32) → (Nat → Int32) → (Nat → Int32) → (Nat → Int32) → (Nat → Int32) → (Nat → Int32) → (Nat → Int32) → (Nat → Int32) → (Nat → Int32) → (Nat → Int32) → (Nat → Int32) → (Nat → Int32) → (Nat → Int32) → (Nat → Int32) → (Nat → Int32) → (Nat → Int32) → (Nat → Int32) → (Nat → Int32) → (Nat → Int32) → (Nat → Int32) → Prop) (x4 x6 : Int32) (e d : Nat), e + d < 17 → (∀ a_leftBottom a_quotient : Nat → Int32, J (nI e + (-1)) a_tokenKind a_tokenContent a_stepKind a_stepToken a_waitingKind a_waitingToken a_present a_cells a_leftTop a_leftBottom a_rightTop a_rightBottom a_top a_bottom a_product a_quotient a_common a_spare a_rest a_divisor a_inverse a_numerator a_factorDegrees a_factorPowers a_factorCells) → ∀ m k, ∀ a_leftBottom a_quotient : Nat → Int32, k + m = d + 1 → wX_divide__leftBottom_divisor_quotient_57 post J (nI d) x4 (nI e) x6 f_tokenCount f_latestPlace f_stepCount f_waitingCount f_stackCount f_factorCount (m + 1) (nI k) a_tokenKind a_tokenContent a_stepKind a_stepToken a_waitingKind a_waitingToken a_present a_cells a_leftTop a_leftBottom a_rightTop a_rightBottom a_top a_bottom a_product a_quotient a_common a_spare a_rest a_divisor a_inverse a_numerator a_factorDegrees a_factorPowers a_factorCells := by
    intro J x4 x6 e d hed hJ m
    induction m with
    | zero =>
      intro k a_leftBottom a_quotient hk
      exact br_t (nI_lt (by omega) (by omega)) (nm_e (hJ _ _))
    | succ m ih =>
      intro k a_leftBottom a_quotient hk
      have i1 := pk_in (x := nI e + nI k) (e + k) 17 (by omega) (nI_add e k)
      exact br_f (nI_nlt (by omega) (by omega)) ⟨i1, vp_in_nI (by omega) (by omega), by decide, i1, nm_e (nm_r (nI_1 k) (ih (k + 1) _ _ (by omega)))⟩
  have key : ∀ (x4 : Int32) (d : Nat), d < 17 → ∀ j n, ∀ a_leftBottom a_quotient : Nat → Int32, j + d ≤ 17 → j < n → wX_divide__leftBottom_divisor_quotient_30 post (nI d) x4 f_tokenCount f_latestPlace f_stepCount f_waitingCount f_stackCount f_factorCount n (nI j + (-1)) a_tokenKind a_tokenContent a_stepKind a_stepToken a_waitingKind a_waitingToken a_present a_cells a_leftTop a_leftBottom a_rightTop a_rightBottom a_top a_bottom a_product a_quotient a_common a_spare a_rest a_divisor a_inverse a_numerator a_factorDegrees a_factorPowers a_factorCells := by
    intro x4 d hd j
    induction j with
    | zero =>
      intro n a_leftBottom a_quotient _ hn
      obtain ⟨n, rfl⟩ : ∃ m, n = m + 1 := ⟨n - 1, by omega⟩
      have e0 : nI 0 + (-1) = -1 := by decide
      rw [e0]
      exact br_t (by decide) (h _ _)
    | succ j ih =>
      intro n a_leftBottom a_quotient hj hn
      obtain ⟨n, rfl⟩ : ∃ m, n = m + 1 := ⟨n - 1, by omega⟩
      rw [pk_m1]
      exact br_f (nI_pos (by omega)) ⟨pk_in (j + d) 17 (by omega) (nI_add j d), by decide, nm_e ⟨vp_in_nI (by omega) (by omega), nm_e ⟨d + 2, inner _ x4 _ j d (by omega) (fun a_leftBottom a_quotient => ih n _ _ (by omega) (by omega)) (d + 1) 0 _ _ (by omega)⟩⟩⟩
  unfold wpX_divide__leftBottom_divisor_quotient
  refine xl_setNumber__quotient (fun a_quotient => ?_)
  by_cases c0 : p < 0
  · exact br_t c0 (h _ _)
  · by_cases c1 : p < 17
    · obtain ⟨d, hd, rfl⟩ := nI_of c0
      have hd17 : d < 17 := (nI_ltI (b := 17) hd (by omega)).mp c1
      have e16 : (16 : Int32) - nI d = nI (17 - d) + (-1) := by
        have e1 : 17 - d = (16 - d) + 1 := by omega
        rw [e1, pk_m1]; exact pk_sub (a := 16) (by omega)
      exact br_f c0 (br_t c1 ⟨vp_in_nI hd17 (by omega), by decide, nm_r e16 ⟨18 - d, key _ d hd17 (17 - d) (18 - d) _ _ (by omega) (by omega)⟩⟩)
    · exact br_f c0 (br_f c1 (h _ _))
end
end
section
/-! The class's steps of evaluate: they end, whatever the arrays hold -/
theorem xl_0 {p : Int32} (h : p = 0) : p = 0 ∨ p = 1 := Or.inl h
section
variable {f_tokenCount f_latestPlace f_stepCount f_waitingCount f_stackCount f_factorCount : Int32} {a_tokenKind a_tokenContent a_stepKind a_stepToken a_waitingKind a_waitingToken a_present a_cells a_leftTop a_leftBottom a_rightTop a_rightBottom a_top a_bottom a_product a_quotient a_common a_spare a_rest a_divisor a_inverse a_numerator a_factorDegrees a_factorPowers a_factorCells : Nat → Int32}
theorem xl_modulo {post : Int32 → Prop} {x : Int32} (h : ∀ r : Int32, post r) : wpX_modulo post x := ⟨by decide, nm_e (br_c (fun _ => h _) (fun _ => h _))⟩
theorem xl_hasPart {post : Int32 → Prop} {a b : Int32} (h0 : post 0) (h1 : ∀ k, k < 7 → a = nI k → (b = 0 ∨ b = 1) → post 1) : wpX_hasPart post (f_tokenCount, f_latestPlace, f_stepCount, f_waitingCount, f_stackCount, f_factorCount, a_tokenKind, a_tokenContent, a_stepKind, a_stepToken, a_waitingKind, a_waitingToken, a_present, a_cells, a_leftTop, a_leftBottom, a_rightTop, a_rightBottom, a_top, a_bottom, a_product, a_quotient, a_common, a_spare, a_rest, a_divisor, a_inverse, a_numerator, a_factorDegrees, a_factorPowers, a_factorCells) a b := by
  unfold wpX_hasPart
  dsimp only
  by_cases c0 : a < 0
  · exact br_t c0 h0
  · by_cases c7 : 7 ≤ a
    · exact br_f c0 (br_t c7 h0)
    · obtain ⟨k, hk, rfl⟩ := nI_of c0
      have hk7 : k < 7 := by
        by_cases c : k < 7
        · exact c
        · exact absurd (nI_le (a := 7) (by omega) hk) c7
      refine br_f c0 (br_f c7 ?_)
      have i7 : vp_in (nI k) 7 := vp_in_nI hk7 (by omega)
      by_cases b0 : b = 0
      · exact br_t b0 ⟨i7, br_c (fun _ => h0) (fun _ => h1 k hk7 rfl (Or.inl b0))⟩
      · by_cases b1 : b = 1
        · exact br_f b0 (br_t b1 ⟨i7, br_c (fun _ => h0) (fun _ => h1 k hk7 rfl (Or.inr b1))⟩)
        · exact br_f b0 (br_f b1 h0)
theorem xl_takeNumber {post : Int32 → SX → Prop} {x : Int32} (h : ∀ a_leftTop a_leftBottom a_rightTop a_rightBottom a_top a_bottom a_product a_quotient a_common a_spare a_rest a_divisor a_inverse a_numerator : Nat → Int32, post 0 (f_tokenCount, f_latestPlace, f_stepCount, f_waitingCount, f_stackCount, f_factorCount, a_tokenKind, a_tokenContent, a_stepKind, a_stepToken, a_waitingKind, a_waitingToken, a_present, a_cells, a_leftTop, a_leftBottom, a_rightTop, a_rightBottom, a_top, a_bottom, a_product, a_quotient, a_common, a_spare, a_rest, a_divisor, a_inverse, a_numerator, a_factorDegrees, a_factorPowers, a_factorCells)) : wpX_takeNumber post (f_tokenCount, f_latestPlace, f_stepCount, f_waitingCount, f_stackCount, f_factorCount, a_tokenKind, a_tokenContent, a_stepKind, a_stepToken, a_waitingKind, a_waitingToken, a_present, a_cells, a_leftTop, a_leftBottom, a_rightTop, a_rightBottom, a_top, a_bottom, a_product, a_quotient, a_common, a_spare, a_rest, a_divisor, a_inverse, a_numerator, a_factorDegrees, a_factorPowers, a_factorCells) x := by
  unfold wpX_takeNumber
  exact xl_modulo (fun _ => xl_setNumber__top (fun a_top => xl_setNumber__bottom (fun a_bottom => h _ _ _ _ _ _ _ _ _ _ _ _ _ _)))
theorem xl_takeX {post : Int32 → SX → Prop} (h : ∀ a_leftTop a_leftBottom a_rightTop a_rightBottom a_top a_bottom a_product a_quotient a_common a_spare a_rest a_divisor a_inverse a_numerator : Nat → Int32, post 0 (f_tokenCount, f_latestPlace, f_stepCount, f_waitingCount, f_stackCount, f_factorCount, a_tokenKind, a_tokenContent, a_stepKind, a_stepToken, a_waitingKind, a_waitingToken, a_present, a_cells, a_leftTop, a_leftBottom, a_rightTop, a_rightBottom, a_top, a_bottom, a_product, a_quotient, a_common, a_spare, a_rest, a_divisor, a_inverse, a_numerator, a_factorDegrees, a_factorPowers, a_factorCells)) : wpX_takeX post (f_tokenCount, f_latestPlace, f_stepCount, f_waitingCount, f_stackCount, f_factorCount, a_tokenKind, a_tokenContent, a_stepKind, a_stepToken, a_waitingKind, a_waitingToken, a_present, a_cells, a_leftTop, a_leftBottom, a_rightTop, a_rightBottom, a_top, a_bottom, a_product, a_quotient, a_common, a_spare, a_rest, a_divisor, a_inverse, a_numerator, a_factorDegrees, a_factorPowers, a_factorCells) := by
  unfold wpX_takeX
  exact xl_setNumber__top (fun a_top => nm_e (xl_setNumber__bottom (fun a_bottom => h _ _ _ _ _ _ _ _ _ _ _ _ _ _)))
theorem xl_takeVariable {post : Int32 → SX → Prop} {x : Int32} (h : ∀ r : Int32, ∀ a_leftTop a_leftBottom a_rightTop a_rightBottom a_top a_bottom a_product a_quotient a_common a_spare a_rest a_divisor a_inverse a_numerator : Nat → Int32, post r (f_tokenCount, f_latestPlace, f_stepCount, f_waitingCount, f_stackCount, f_factorCount, a_tokenKind, a_tokenContent, a_stepKind, a_stepToken, a_waitingKind, a_waitingToken, a_present, a_cells, a_leftTop, a_leftBottom, a_rightTop, a_rightBottom, a_top, a_bottom, a_product, a_quotient, a_common, a_spare, a_rest, a_divisor, a_inverse, a_numerator, a_factorDegrees, a_factorPowers, a_factorCells)) : wpX_takeVariable post (f_tokenCount, f_latestPlace, f_stepCount, f_waitingCount, f_stackCount, f_factorCount, a_tokenKind, a_tokenContent, a_stepKind, a_stepToken, a_waitingKind, a_waitingToken, a_present, a_cells, a_leftTop, a_leftBottom, a_rightTop, a_rightBottom, a_top, a_bottom, a_product, a_quotient, a_common, a_spare, a_rest, a_divisor, a_inverse, a_numerator, a_factorDegrees, a_factorPowers, a_factorCells) x := by
  unfold wpX_takeVariable
  exact xl_hasPart (br_t rfl (h 2 _ _ _ _ _ _ _ _ _ _ _ _ _ _)) (fun _ _ _ _ => br_f (by decide) (xl_load__top (Or.inl rfl) (fun a_top => xl_load__bottom (Or.inr rfl) (fun a_bottom => h 0 _ _ _ _ _ _ _ _ _ _ _ _ _ _))))
theorem xl_addSides {post : Int32 → SX → Prop} {x : Int32} (h : ∀ a_leftTop a_leftBottom a_rightTop a_rightBottom a_top a_bottom a_product a_quotient a_common a_spare a_rest a_divisor a_inverse a_numerator : Nat → Int32, post 0 (f_tokenCount, f_latestPlace, f_stepCount, f_waitingCount, f_stackCount, f_factorCount, a_tokenKind, a_tokenContent, a_stepKind, a_stepToken, a_waitingKind, a_waitingToken, a_present, a_cells, a_leftTop, a_leftBottom, a_rightTop, a_rightBottom, a_top, a_bottom, a_product, a_quotient, a_common, a_spare, a_rest, a_divisor, a_inverse, a_numerator, a_factorDegrees, a_factorPowers, a_factorCells)) : wpX_addSides post (f_tokenCount, f_latestPlace, f_stepCount, f_waitingCount, f_stackCount, f_factorCount, a_tokenKind, a_tokenContent, a_stepKind, a_stepToken, a_waitingKind, a_waitingToken, a_present, a_cells, a_leftTop, a_leftBottom, a_rightTop, a_rightBottom, a_top, a_bottom, a_product, a_quotient, a_common, a_spare, a_rest, a_divisor, a_inverse, a_numerator, a_factorDegrees, a_factorPowers, a_factorCells) x := by
  unfold wpX_addSides
  exact xl_multiply__leftTop_rightBottom_top (fun a_top => xl_multiply__rightTop_leftBottom_product (fun a_product => xl_addMultiple__top_product (fun a_top => xl_multiply__leftBottom_rightBottom_bottom (fun a_bottom => h _ _ _ _ _ _ _ _ _ _ _ _ _ _))))
theorem xl_multiplySides {post : Int32 → SX → Prop} (h : ∀ a_leftTop a_leftBottom a_rightTop a_rightBottom a_top a_bottom a_product a_quotient a_common a_spare a_rest a_divisor a_inverse a_numerator : Nat → Int32, post 0 (f_tokenCount, f_latestPlace, f_stepCount, f_waitingCount, f_stackCount, f_factorCount, a_tokenKind, a_tokenContent, a_stepKind, a_stepToken, a_waitingKind, a_waitingToken, a_present, a_cells, a_leftTop, a_leftBottom, a_rightTop, a_rightBottom, a_top, a_bottom, a_product, a_quotient, a_common, a_spare, a_rest, a_divisor, a_inverse, a_numerator, a_factorDegrees, a_factorPowers, a_factorCells)) : wpX_multiplySides post (f_tokenCount, f_latestPlace, f_stepCount, f_waitingCount, f_stackCount, f_factorCount, a_tokenKind, a_tokenContent, a_stepKind, a_stepToken, a_waitingKind, a_waitingToken, a_present, a_cells, a_leftTop, a_leftBottom, a_rightTop, a_rightBottom, a_top, a_bottom, a_product, a_quotient, a_common, a_spare, a_rest, a_divisor, a_inverse, a_numerator, a_factorDegrees, a_factorPowers, a_factorCells) := by
  unfold wpX_multiplySides
  exact xl_multiply__leftTop_rightTop_top (fun a_top => xl_multiply__leftBottom_rightBottom_bottom (fun a_bottom => h _ _ _ _ _ _ _ _ _ _ _ _ _ _))
theorem xl_divideSides {post : Int32 → SX → Prop} (h : ∀ r : Int32, ∀ a_leftTop a_leftBottom a_rightTop a_rightBottom a_top a_bottom a_product a_quotient a_common a_spare a_rest a_divisor a_inverse a_numerator : Nat → Int32, post r (f_tokenCount, f_latestPlace, f_stepCount, f_waitingCount, f_stackCount, f_factorCount, a_tokenKind, a_tokenContent, a_stepKind, a_stepToken, a_waitingKind, a_waitingToken, a_present, a_cells, a_leftTop, a_leftBottom, a_rightTop, a_rightBottom, a_top, a_bottom, a_product, a_quotient, a_common, a_spare, a_rest, a_divisor, a_inverse, a_numerator, a_factorDegrees, a_factorPowers, a_factorCells)) : wpX_divideSides post (f_tokenCount, f_latestPlace, f_stepCount, f_waitingCount, f_stackCount, f_factorCount, a_tokenKind, a_tokenContent, a_stepKind, a_stepToken, a_waitingKind, a_waitingToken, a_present, a_cells, a_leftTop, a_leftBottom, a_rightTop, a_rightBottom, a_top, a_bottom, a_product, a_quotient, a_common, a_spare, a_rest, a_divisor, a_inverse, a_numerator, a_factorDegrees, a_factorPowers, a_factorCells) := by
  unfold wpX_divideSides
  exact xl_degreeOf__rightTop (fun _ _ => br_c (fun _ => xl_multiply__leftTop_rightBottom_top (fun a_top => xl_multiply__leftBottom_rightTop_bottom (fun a_bottom => h 0 _ _ _ _ _ _ _ _ _ _ _ _ _ _))) (fun _ => h 3 _ _ _ _ _ _ _ _ _ _ _ _ _ _))
theorem xl_raise65 {post : Int32 → SX → Prop} {x1 x2 : Int32} (h : ∀ a_leftTop a_leftBottom a_rightTop a_rightBottom a_top a_bottom a_product a_quotient a_common a_spare a_rest a_divisor a_inverse a_numerator : Nat → Int32, post 0 (f_tokenCount, f_latestPlace, f_stepCount, f_waitingCount, f_stackCount, f_factorCount, a_tokenKind, a_tokenContent, a_stepKind, a_stepToken, a_waitingKind, a_waitingToken, a_present, a_cells, a_leftTop, a_leftBottom, a_rightTop, a_rightBottom, a_top, a_bottom, a_product, a_quotient, a_common, a_spare, a_rest, a_divisor, a_inverse, a_numerator, a_factorDegrees, a_factorPowers, a_factorCells)) : ∃ n, wX_raise_65 post x1 x2 n 0 f_tokenCount f_latestPlace f_stepCount f_waitingCount f_stackCount f_factorCount a_tokenKind a_tokenContent a_stepKind a_stepToken a_waitingKind a_waitingToken a_present a_cells a_leftTop a_leftBottom a_rightTop a_rightBottom a_top a_bottom a_product a_quotient a_common a_spare a_rest a_divisor a_inverse a_numerator a_factorDegrees a_factorPowers a_factorCells := by
  have fin : ∀ n (x3 : Int32) , x2 ≤ x3 → ∀ a_leftTop a_leftBottom a_rightTop a_rightBottom a_top a_bottom a_product a_quotient a_common a_spare a_rest a_divisor a_inverse a_numerator : Nat → Int32, wX_raise_65 post x1 x2 (n + 1) x3 f_tokenCount f_latestPlace f_stepCount f_waitingCount f_stackCount f_factorCount a_tokenKind a_tokenContent a_stepKind a_stepToken a_waitingKind a_waitingToken a_present a_cells a_leftTop a_leftBottom a_rightTop a_rightBottom a_top a_bottom a_product a_quotient a_common a_spare a_rest a_divisor a_inverse a_numerator a_factorDegrees a_factorPowers a_factorCells := by
    intro n x3 c a_leftTop a_leftBottom a_rightTop a_rightBottom a_top a_bottom a_product a_quotient a_common a_spare a_rest a_divisor a_inverse a_numerator
    exact br_t c (br_c (fun _ => h _ _ _ _ _ _ _ _ _ _ _ _ _ _) (fun _ => xl_exchange__top_bottom (fun a_top a_bottom => h _ _ _ _ _ _ _ _ _ _ _ _ _ _)))
  by_cases c : x2 ≤ 0
  · exact ⟨1, fin 0 0 c _ _ _ _ _ _ _ _ _ _ _ _ _ _⟩
  · have c2 : ¬ x2 < 0 := fun z => c (Int32.le_of_lt z)
    obtain ⟨q, hq, rfl⟩ := nI_of c2
    have loop : ∀ d k, k + d = q → ∀ a_leftTop a_leftBottom a_rightTop a_rightBottom a_top a_bottom a_product a_quotient a_common a_spare a_rest a_divisor a_inverse a_numerator : Nat → Int32, wX_raise_65 post x1 (nI q) (d + 1) (nI k) f_tokenCount f_latestPlace f_stepCount f_waitingCount f_stackCount f_factorCount a_tokenKind a_tokenContent a_stepKind a_stepToken a_waitingKind a_waitingToken a_present a_cells a_leftTop a_leftBottom a_rightTop a_rightBottom a_top a_bottom a_product a_quotient a_common a_spare a_rest a_divisor a_inverse a_numerator a_factorDegrees a_factorPowers a_factorCells := by
      intro d
      induction d with
      | zero =>
        intro k hk a_leftTop a_leftBottom a_rightTop a_rightBottom a_top a_bottom a_product a_quotient a_common a_spare a_rest a_divisor a_inverse a_numerator
        exact fin 0 _ (nI_le (by omega) (by omega)) _ _ _ _ _ _ _ _ _ _ _ _ _ _
      | succ d ih =>
        intro k hk a_leftTop a_leftBottom a_rightTop a_rightBottom a_top a_bottom a_product a_quotient a_common a_spare a_rest a_divisor a_inverse a_numerator
        exact br_f (nI_ge (by omega) (by omega)) (xl_multiply__top_leftTop_product (fun a_product => xl_copy__product_top (fun a_top => xl_multiply__bottom_leftBottom_product (fun a_product => xl_copy__product_bottom (fun a_bottom => nm_r (nI_1 k) (ih (k + 1) (by omega) _ _ _ _ _ _ _ _ _ _ _ _ _ _))))))
    exact ⟨q + 1, loop q 0 (by omega) _ _ _ _ _ _ _ _ _ _ _ _ _ _⟩
theorem xl_raise {post : Int32 → SX → Prop} {x : Int32} (h : ∀ r : Int32, ∀ a_leftTop a_leftBottom a_rightTop a_rightBottom a_top a_bottom a_product a_quotient a_common a_spare a_rest a_divisor a_inverse a_numerator : Nat → Int32, post r (f_tokenCount, f_latestPlace, f_stepCount, f_waitingCount, f_stackCount, f_factorCount, a_tokenKind, a_tokenContent, a_stepKind, a_stepToken, a_waitingKind, a_waitingToken, a_present, a_cells, a_leftTop, a_leftBottom, a_rightTop, a_rightBottom, a_top, a_bottom, a_product, a_quotient, a_common, a_spare, a_rest, a_divisor, a_inverse, a_numerator, a_factorDegrees, a_factorPowers, a_factorCells)) : wpX_raise post (f_tokenCount, f_latestPlace, f_stepCount, f_waitingCount, f_stackCount, f_factorCount, a_tokenKind, a_tokenContent, a_stepKind, a_stepToken, a_waitingKind, a_waitingToken, a_present, a_cells, a_leftTop, a_leftBottom, a_rightTop, a_rightBottom, a_top, a_bottom, a_product, a_quotient, a_common, a_spare, a_rest, a_divisor, a_inverse, a_numerator, a_factorDegrees, a_factorPowers, a_factorCells) x := by
  have r26 : ∀ z : Int32, wX_raise_26 post x z f_tokenCount f_latestPlace f_stepCount f_waitingCount f_stackCount f_factorCount a_tokenKind a_tokenContent a_stepKind a_stepToken a_waitingKind a_waitingToken a_present a_cells a_leftTop a_leftBottom a_rightTop a_rightBottom a_top a_bottom a_product a_quotient a_common a_spare a_rest a_divisor a_inverse a_numerator a_factorDegrees a_factorPowers a_factorCells := by
    intro z
    unfold wX_raise_26
    exact xl_sizeOf__leftTop_leftBottom (fun r _ => br_c (fun _ => xl_setNumber__top (fun a_top => xl_setNumber__bottom (fun a_bottom => xl_raise65 (fun a_leftTop a_leftBottom a_rightTop a_rightBottom a_top a_bottom a_product a_quotient a_common a_spare a_rest a_divisor a_inverse a_numerator => h 0 _ _ _ _ _ _ _ _ _ _ _ _ _ _)))) (fun _ => h 4 _ _ _ _ _ _ _ _ _ _ _ _ _ _))
  have r16 : wX_raise_16 post x f_tokenCount f_latestPlace f_stepCount f_waitingCount f_stackCount f_factorCount a_tokenKind a_tokenContent a_stepKind a_stepToken a_waitingKind a_waitingToken a_present a_cells a_leftTop a_leftBottom a_rightTop a_rightBottom a_top a_bottom a_product a_quotient a_common a_spare a_rest a_divisor a_inverse a_numerator a_factorDegrees a_factorPowers a_factorCells := br_c (fun _ => r26 _) (fun _ => r26 _)
  unfold wpX_raise
  exact br_c (fun _ => r16) (fun _ => xl_degreeOf__leftTop (fun _ _ => br_c (fun _ => r16) (fun _ => h 3 _ _ _ _ _ _ _ _ _ _ _ _ _ _)))
theorem xl_differentiate {post : Int32 → SX → Prop} (h : ∀ a_leftTop a_leftBottom a_rightTop a_rightBottom a_top a_bottom a_product a_quotient a_common a_spare a_rest a_divisor a_inverse a_numerator : Nat → Int32, post 0 (f_tokenCount, f_latestPlace, f_stepCount, f_waitingCount, f_stackCount, f_factorCount, a_tokenKind, a_tokenContent, a_stepKind, a_stepToken, a_waitingKind, a_waitingToken, a_present, a_cells, a_leftTop, a_leftBottom, a_rightTop, a_rightBottom, a_top, a_bottom, a_product, a_quotient, a_common, a_spare, a_rest, a_divisor, a_inverse, a_numerator, a_factorDegrees, a_factorPowers, a_factorCells)) : wpX_differentiate post (f_tokenCount, f_latestPlace, f_stepCount, f_waitingCount, f_stackCount, f_factorCount, a_tokenKind, a_tokenContent, a_stepKind, a_stepToken, a_waitingKind, a_waitingToken, a_present, a_cells, a_leftTop, a_leftBottom, a_rightTop, a_rightBottom, a_top, a_bottom, a_product, a_quotient, a_common, a_spare, a_rest, a_divisor, a_inverse, a_numerator, a_factorDegrees, a_factorPowers, a_factorCells) := by
  unfold wpX_differentiate
  exact xl_takeDerivative__leftTop_spare (fun a_spare => xl_multiply__spare_leftBottom_top (fun a_top => xl_takeDerivative__leftBottom_spare (fun a_spare => xl_multiply__spare_leftTop_product (fun a_product => xl_addMultiple__top_product (fun a_top => xl_multiply__leftBottom_leftBottom_bottom (fun a_bottom => h _ _ _ _ _ _ _ _ _ _ _ _ _ _))))))
theorem xl_subst1 {post : SX → Prop} {x : Int32} (hx : x = -1 ∨ ∃ k, k < 17 ∧ x = nI k) (h : ∀ a_leftTop a_leftBottom a_rightTop a_rightBottom a_top a_bottom a_product a_quotient a_common a_spare a_rest a_divisor a_inverse a_numerator : Nat → Int32, post (f_tokenCount, f_latestPlace, f_stepCount, f_waitingCount, f_stackCount, f_factorCount, a_tokenKind, a_tokenContent, a_stepKind, a_stepToken, a_waitingKind, a_waitingToken, a_present, a_cells, a_leftTop, a_leftBottom, a_rightTop, a_rightBottom, a_top, a_bottom, a_product, a_quotient, a_common, a_spare, a_rest, a_divisor, a_inverse, a_numerator, a_factorDegrees, a_factorPowers, a_factorCells)) : wpX_substitute__leftTop_top post (f_tokenCount, f_latestPlace, f_stepCount, f_waitingCount, f_stackCount, f_factorCount, a_tokenKind, a_tokenContent, a_stepKind, a_stepToken, a_waitingKind, a_waitingToken, a_present, a_cells, a_leftTop, a_leftBottom, a_rightTop, a_rightBottom, a_top, a_bottom, a_product, a_quotient, a_common, a_spare, a_rest, a_divisor, a_inverse, a_numerator, a_factorDegrees, a_factorPowers, a_factorCells) x := by
  have loop : ∀ j, j ≤ 17 → ∀ a_leftTop a_leftBottom a_rightTop a_rightBottom a_top a_bottom a_product a_quotient a_common a_spare a_rest a_divisor a_inverse a_numerator : Nat → Int32, wX_substitute__leftTop_top_16 post (j + 1) (nI j + (-1)) f_tokenCount f_latestPlace f_stepCount f_waitingCount f_stackCount f_factorCount a_tokenKind a_tokenContent a_stepKind a_stepToken a_waitingKind a_waitingToken a_present a_cells a_leftTop a_leftBottom a_rightTop a_rightBottom a_top a_bottom a_product a_quotient a_common a_spare a_rest a_divisor a_inverse a_numerator a_factorDegrees a_factorPowers a_factorCells := by
    intro j
    induction j with
    | zero =>
      intro _ a_leftTop a_leftBottom a_rightTop a_rightBottom a_top a_bottom a_product a_quotient a_common a_spare a_rest a_divisor a_inverse a_numerator
      have e0 : nI 0 + (-1) = -1 := by decide
      rw [e0]
      exact br_t (by decide) (h _ _ _ _ _ _ _ _ _ _ _ _ _ _)
    | succ j ih =>
      intro hj a_leftTop a_leftBottom a_rightTop a_rightBottom a_top a_bottom a_product a_quotient a_common a_spare a_rest a_divisor a_inverse a_numerator
      rw [pk_m1]
      exact br_f (nI_pos (by omega)) (xl_multiply__top_rightTop_product (fun a_product => xl_copy__product_top (fun a_top => ⟨vp_in_nI (by omega) (by omega), xl_addMultiple__top_spare (fun a_top => xl_multiply__spare_rightBottom_product (fun a_product => xl_copy__product_spare (fun a_spare => nm_e (ih (by omega) _ _ _ _ _ _ _ _ _ _ _ _ _ _))))⟩)))
  unfold wpX_substitute__leftTop_top
  refine xl_setNumber__top (fun a_top => xl_setNumber__spare (fun a_spare => ?_))
  rcases hx with e | ⟨k, hk, e⟩
  · subst e
    have t := loop 0 (by omega) a_leftTop a_leftBottom a_rightTop a_rightBottom a_top a_bottom a_product a_quotient a_common a_spare a_rest a_divisor a_inverse a_numerator
    have e0 : nI 0 + (-1) = -1 := by decide
    rw [e0] at t
    exact ⟨1, t⟩
  · subst e
    have t := loop (k + 1) (by omega) a_leftTop a_leftBottom a_rightTop a_rightBottom a_top a_bottom a_product a_quotient a_common a_spare a_rest a_divisor a_inverse a_numerator
    rw [pk_m1] at t
    exact ⟨k + 2, t⟩
theorem xl_subst2 {post : SX → Prop} {x : Int32} (hx : x = -1 ∨ ∃ k, k < 17 ∧ x = nI k) (h : ∀ a_leftTop a_leftBottom a_rightTop a_rightBottom a_top a_bottom a_product a_quotient a_common a_spare a_rest a_divisor a_inverse a_numerator : Nat → Int32, post (f_tokenCount, f_latestPlace, f_stepCount, f_waitingCount, f_stackCount, f_factorCount, a_tokenKind, a_tokenContent, a_stepKind, a_stepToken, a_waitingKind, a_waitingToken, a_present, a_cells, a_leftTop, a_leftBottom, a_rightTop, a_rightBottom, a_top, a_bottom, a_product, a_quotient, a_common, a_spare, a_rest, a_divisor, a_inverse, a_numerator, a_factorDegrees, a_factorPowers, a_factorCells)) : wpX_substitute__leftBottom_bottom post (f_tokenCount, f_latestPlace, f_stepCount, f_waitingCount, f_stackCount, f_factorCount, a_tokenKind, a_tokenContent, a_stepKind, a_stepToken, a_waitingKind, a_waitingToken, a_present, a_cells, a_leftTop, a_leftBottom, a_rightTop, a_rightBottom, a_top, a_bottom, a_product, a_quotient, a_common, a_spare, a_rest, a_divisor, a_inverse, a_numerator, a_factorDegrees, a_factorPowers, a_factorCells) x := by
  have loop : ∀ j, j ≤ 17 → ∀ a_leftTop a_leftBottom a_rightTop a_rightBottom a_top a_bottom a_product a_quotient a_common a_spare a_rest a_divisor a_inverse a_numerator : Nat → Int32, wX_substitute__leftBottom_bottom_16 post (j + 1) (nI j + (-1)) f_tokenCount f_latestPlace f_stepCount f_waitingCount f_stackCount f_factorCount a_tokenKind a_tokenContent a_stepKind a_stepToken a_waitingKind a_waitingToken a_present a_cells a_leftTop a_leftBottom a_rightTop a_rightBottom a_top a_bottom a_product a_quotient a_common a_spare a_rest a_divisor a_inverse a_numerator a_factorDegrees a_factorPowers a_factorCells := by
    intro j
    induction j with
    | zero =>
      intro _ a_leftTop a_leftBottom a_rightTop a_rightBottom a_top a_bottom a_product a_quotient a_common a_spare a_rest a_divisor a_inverse a_numerator
      have e0 : nI 0 + (-1) = -1 := by decide
      rw [e0]
      exact br_t (by decide) (h _ _ _ _ _ _ _ _ _ _ _ _ _ _)
    | succ j ih =>
      intro hj a_leftTop a_leftBottom a_rightTop a_rightBottom a_top a_bottom a_product a_quotient a_common a_spare a_rest a_divisor a_inverse a_numerator
      rw [pk_m1]
      exact br_f (nI_pos (by omega)) (xl_multiply__bottom_rightTop_product (fun a_product => xl_copy__product_bottom (fun a_bottom => ⟨vp_in_nI (by omega) (by omega), xl_addMultiple__bottom_spare (fun a_bottom => xl_multiply__spare_rightBottom_product (fun a_product => xl_copy__product_spare (fun a_spare => nm_e (ih (by omega) _ _ _ _ _ _ _ _ _ _ _ _ _ _))))⟩)))
  unfold wpX_substitute__leftBottom_bottom
  refine xl_setNumber__bottom (fun a_bottom => xl_setNumber__spare (fun a_spare => ?_))
  rcases hx with e | ⟨k, hk, e⟩
  · subst e
    have t := loop 0 (by omega) a_leftTop a_leftBottom a_rightTop a_rightBottom a_top a_bottom a_product a_quotient a_common a_spare a_rest a_divisor a_inverse a_numerator
    have e0 : nI 0 + (-1) = -1 := by decide
    rw [e0] at t
    exact ⟨1, t⟩
  · subst e
    have t := loop (k + 1) (by omega) a_leftTop a_leftBottom a_rightTop a_rightBottom a_top a_bottom a_product a_quotient a_common a_spare a_rest a_divisor a_inverse a_numerator
    rw [pk_m1] at t
    exact ⟨k + 2, t⟩
theorem xl_compose {post : Int32 → SX → Prop} (h : ∀ r : Int32, ∀ a_leftTop a_leftBottom a_rightTop a_rightBottom a_top a_bottom a_product a_quotient a_common a_spare a_rest a_divisor a_inverse a_numerator : Nat → Int32, post r (f_tokenCount, f_latestPlace, f_stepCount, f_waitingCount, f_stackCount, f_factorCount, a_tokenKind, a_tokenContent, a_stepKind, a_stepToken, a_waitingKind, a_waitingToken, a_present, a_cells, a_leftTop, a_leftBottom, a_rightTop, a_rightBottom, a_top, a_bottom, a_product, a_quotient, a_common, a_spare, a_rest, a_divisor, a_inverse, a_numerator, a_factorDegrees, a_factorPowers, a_factorCells)) : wpX_compose post (f_tokenCount, f_latestPlace, f_stepCount, f_waitingCount, f_stackCount, f_factorCount, a_tokenKind, a_tokenContent, a_stepKind, a_stepToken, a_waitingKind, a_waitingToken, a_present, a_cells, a_leftTop, a_leftBottom, a_rightTop, a_rightBottom, a_top, a_bottom, a_product, a_quotient, a_common, a_spare, a_rest, a_divisor, a_inverse, a_numerator, a_factorDegrees, a_factorPowers, a_factorCells) := by
  have c34 : ∀ z : Int32, wX_compose_34 post z f_tokenCount f_latestPlace f_stepCount f_waitingCount f_stackCount f_factorCount a_tokenKind a_tokenContent a_stepKind a_stepToken a_waitingKind a_waitingToken a_present a_cells a_leftTop a_leftBottom a_rightTop a_rightBottom a_top a_bottom a_product a_quotient a_common a_spare a_rest a_divisor a_inverse a_numerator a_factorDegrees a_factorPowers a_factorCells := by
    intro z
    unfold wX_compose_34
    exact xl_sizeOf__leftTop_leftBottom (fun r hr => br_c (fun _ => xl_subst1 hr (fun a_leftTop a_leftBottom a_rightTop a_rightBottom a_top a_bottom a_product a_quotient a_common a_spare a_rest a_divisor a_inverse a_numerator => xl_subst2 hr (fun a_leftTop a_leftBottom a_rightTop a_rightBottom a_top a_bottom a_product a_quotient a_common a_spare a_rest a_divisor a_inverse a_numerator => h 0 _ _ _ _ _ _ _ _ _ _ _ _ _ _))) (fun _ => h 4 _ _ _ _ _ _ _ _ _ _ _ _ _ _))
  unfold wpX_compose
  exact xl_sizeOf__rightTop_rightBottom (fun r _ => br_c (fun _ => xl_valueAt__leftBottom (fun _ => br_c (fun _ => h 3 _ _ _ _ _ _ _ _ _ _ _ _ _ _) (fun _ => c34 _))) (fun _ => c34 _))
theorem xl_negate {post : Int32 → SX → Prop} (h : ∀ a_leftTop a_leftBottom a_rightTop a_rightBottom a_top a_bottom a_product a_quotient a_common a_spare a_rest a_divisor a_inverse a_numerator : Nat → Int32, post 0 (f_tokenCount, f_latestPlace, f_stepCount, f_waitingCount, f_stackCount, f_factorCount, a_tokenKind, a_tokenContent, a_stepKind, a_stepToken, a_waitingKind, a_waitingToken, a_present, a_cells, a_leftTop, a_leftBottom, a_rightTop, a_rightBottom, a_top, a_bottom, a_product, a_quotient, a_common, a_spare, a_rest, a_divisor, a_inverse, a_numerator, a_factorDegrees, a_factorPowers, a_factorCells)) : wpX_negate post (f_tokenCount, f_latestPlace, f_stepCount, f_waitingCount, f_stackCount, f_factorCount, a_tokenKind, a_tokenContent, a_stepKind, a_stepToken, a_waitingKind, a_waitingToken, a_present, a_cells, a_leftTop, a_leftBottom, a_rightTop, a_rightBottom, a_top, a_bottom, a_product, a_quotient, a_common, a_spare, a_rest, a_divisor, a_inverse, a_numerator, a_factorDegrees, a_factorPowers, a_factorCells) := by
  unfold wpX_negate
  exact xl_setNumber__top (fun a_top => xl_addMultiple__top_leftTop (fun a_top => xl_copy__leftBottom_bottom (fun a_bottom => h _ _ _ _ _ _ _ _ _ _ _ _ _ _)))
theorem xl_work {post : Int32 → SX → Prop} {k x : Int32} (h : ∀ r : Int32, ∀ a_leftTop a_leftBottom a_rightTop a_rightBottom a_top a_bottom a_product a_quotient a_common a_spare a_rest a_divisor a_inverse a_numerator : Nat → Int32, post r (f_tokenCount, f_latestPlace, f_stepCount, f_waitingCount, f_stackCount, f_factorCount, a_tokenKind, a_tokenContent, a_stepKind, a_stepToken, a_waitingKind, a_waitingToken, a_present, a_cells, a_leftTop, a_leftBottom, a_rightTop, a_rightBottom, a_top, a_bottom, a_product, a_quotient, a_common, a_spare, a_rest, a_divisor, a_inverse, a_numerator, a_factorDegrees, a_factorPowers, a_factorCells)) : wpX_work post (f_tokenCount, f_latestPlace, f_stepCount, f_waitingCount, f_stackCount, f_factorCount, a_tokenKind, a_tokenContent, a_stepKind, a_stepToken, a_waitingKind, a_waitingToken, a_present, a_cells, a_leftTop, a_leftBottom, a_rightTop, a_rightBottom, a_top, a_bottom, a_product, a_quotient, a_common, a_spare, a_rest, a_divisor, a_inverse, a_numerator, a_factorDegrees, a_factorPowers, a_factorCells) k x := by
  have ng : wX_work_119 post f_tokenCount f_latestPlace f_stepCount f_waitingCount f_stackCount f_factorCount a_tokenKind a_tokenContent a_stepKind a_stepToken a_waitingKind a_waitingToken a_present a_cells a_leftTop a_leftBottom a_rightTop a_rightBottom a_top a_bottom a_product a_quotient a_common a_spare a_rest a_divisor a_inverse a_numerator a_factorDegrees a_factorPowers a_factorCells := xl_negate (fun a_leftTop a_leftBottom a_rightTop a_rightBottom a_top a_bottom a_product a_quotient a_common a_spare a_rest a_divisor a_inverse a_numerator => h 0 _ _ _ _ _ _ _ _ _ _ _ _ _ _)
  unfold wpX_work
  exact br_c (fun _ => ng) (fun _ => br_c (fun _ => ng) (fun _ => br_c (fun _ => xl_takeNumber (fun a_leftTop a_leftBottom a_rightTop a_rightBottom a_top a_bottom a_product a_quotient a_common a_spare a_rest a_divisor a_inverse a_numerator => h 0 _ _ _ _ _ _ _ _ _ _ _ _ _ _)) (fun _ => br_c (fun _ => xl_takeX (fun a_leftTop a_leftBottom a_rightTop a_rightBottom a_top a_bottom a_product a_quotient a_common a_spare a_rest a_divisor a_inverse a_numerator => h 0 _ _ _ _ _ _ _ _ _ _ _ _ _ _)) (fun _ => br_c (fun _ => xl_takeVariable (fun r a_leftTop a_leftBottom a_rightTop a_rightBottom a_top a_bottom a_product a_quotient a_common a_spare a_rest a_divisor a_inverse a_numerator => h r _ _ _ _ _ _ _ _ _ _ _ _ _ _)) (fun _ => br_c (fun _ => ng) (fun _ => br_c (fun _ => ng) (fun _ => br_c (fun _ => xl_addSides (fun a_leftTop a_leftBottom a_rightTop a_rightBottom a_top a_bottom a_product a_quotient a_common a_spare a_rest a_divisor a_inverse a_numerator => h 0 _ _ _ _ _ _ _ _ _ _ _ _ _ _)) (fun _ => br_c (fun _ => xl_addSides (fun a_leftTop a_leftBottom a_rightTop a_rightBottom a_top a_bottom a_product a_quotient a_common a_spare a_rest a_divisor a_inverse a_numerator => h 0 _ _ _ _ _ _ _ _ _ _ _ _ _ _)) (fun _ => br_c (fun _ => xl_multiplySides (fun a_leftTop a_leftBottom a_rightTop a_rightBottom a_top a_bottom a_product a_quotient a_common a_spare a_rest a_divisor a_inverse a_numerator => h 0 _ _ _ _ _ _ _ _ _ _ _ _ _ _)) (fun _ => br_c (fun _ => xl_divideSides (fun r a_leftTop a_leftBottom a_rightTop a_rightBottom a_top a_bottom a_product a_quotient a_common a_spare a_rest a_divisor a_inverse a_numerator => h r _ _ _ _ _ _ _ _ _ _ _ _ _ _)) (fun _ => br_c (fun _ => xl_raise (fun r a_leftTop a_leftBottom a_rightTop a_rightBottom a_top a_bottom a_product a_quotient a_common a_spare a_rest a_divisor a_inverse a_numerator => h r _ _ _ _ _ _ _ _ _ _ _ _ _ _)) (fun _ => br_c (fun _ => xl_differentiate (fun a_leftTop a_leftBottom a_rightTop a_rightBottom a_top a_bottom a_product a_quotient a_common a_spare a_rest a_divisor a_inverse a_numerator => h 0 _ _ _ _ _ _ _ _ _ _ _ _ _ _)) (fun _ => br_c (fun _ => xl_compose (fun r a_leftTop a_leftBottom a_rightTop a_rightBottom a_top a_bottom a_product a_quotient a_common a_spare a_rest a_divisor a_inverse a_numerator => h r _ _ _ _ _ _ _ _ _ _ _ _ _ _)) (fun _ => trivial))))))))))))))
theorem xl_findCommon {post : SX → Prop} (h : ∀ a_leftTop a_leftBottom a_rightTop a_rightBottom a_top a_bottom a_product a_quotient a_common a_spare a_rest a_divisor a_inverse a_numerator : Nat → Int32, post (f_tokenCount, f_latestPlace, f_stepCount, f_waitingCount, f_stackCount, f_factorCount, a_tokenKind, a_tokenContent, a_stepKind, a_stepToken, a_waitingKind, a_waitingToken, a_present, a_cells, a_leftTop, a_leftBottom, a_rightTop, a_rightBottom, a_top, a_bottom, a_product, a_quotient, a_common, a_spare, a_rest, a_divisor, a_inverse, a_numerator, a_factorDegrees, a_factorPowers, a_factorCells)) : wpX_findCommon post (f_tokenCount, f_latestPlace, f_stepCount, f_waitingCount, f_stackCount, f_factorCount, a_tokenKind, a_tokenContent, a_stepKind, a_stepToken, a_waitingKind, a_waitingToken, a_present, a_cells, a_leftTop, a_leftBottom, a_rightTop, a_rightBottom, a_top, a_bottom, a_product, a_quotient, a_common, a_spare, a_rest, a_divisor, a_inverse, a_numerator, a_factorDegrees, a_factorPowers, a_factorCells) := by
  have loop : ∀ d j, j + d = 19 → ∀ a_leftTop a_leftBottom a_rightTop a_rightBottom a_top a_bottom a_product a_quotient a_common a_spare a_rest a_divisor a_inverse a_numerator : Nat → Int32, wX_findCommon_24 post (d + 1) (nI j) f_tokenCount f_latestPlace f_stepCount f_waitingCount f_stackCount f_factorCount a_tokenKind a_tokenContent a_stepKind a_stepToken a_waitingKind a_waitingToken a_present a_cells a_leftTop a_leftBottom a_rightTop a_rightBottom a_top a_bottom a_product a_quotient a_common a_spare a_rest a_divisor a_inverse a_numerator a_factorDegrees a_factorPowers a_factorCells := by
    intro d
    induction d with
    | zero =>
      intro j hj a_leftTop a_leftBottom a_rightTop a_rightBottom a_top a_bottom a_product a_quotient a_common a_spare a_rest a_divisor a_inverse a_numerator
      exact br_t (nI_le (a := 19) (by omega) (by omega)) (h _ _ _ _ _ _ _ _ _ _ _ _ _ _)
    | succ d ih =>
      intro j hj a_leftTop a_leftBottom a_rightTop a_rightBottom a_top a_bottom a_product a_quotient a_common a_spare a_rest a_divisor a_inverse a_numerator
      exact br_f (nI_ge (b := 19) (by omega) (by omega)) (xl_degreeOf__spare (fun _ _ => br_c (fun _ => xl_divide__common_spare_quotient (fun a_common a_quotient => xl_exchange__common_spare (fun a_common a_spare => nm_r (nI_1 j) (ih (j + 1) (by omega) _ _ _ _ _ _ _ _ _ _ _ _ _ _)))) (fun _ => h _ _ _ _ _ _ _ _ _ _ _ _ _ _)))
  unfold wpX_findCommon
  exact xl_copy__top_common (fun a_common => xl_copy__bottom_spare (fun a_spare => ⟨20, loop 19 0 rfl _ _ _ _ _ _ _ _ _ _ _ _ _ _⟩))
theorem xl_cancel {post : SX → Prop} (h : ∀ a_leftTop a_leftBottom a_rightTop a_rightBottom a_top a_bottom a_product a_quotient a_common a_spare a_rest a_divisor a_inverse a_numerator : Nat → Int32, post (f_tokenCount, f_latestPlace, f_stepCount, f_waitingCount, f_stackCount, f_factorCount, a_tokenKind, a_tokenContent, a_stepKind, a_stepToken, a_waitingKind, a_waitingToken, a_present, a_cells, a_leftTop, a_leftBottom, a_rightTop, a_rightBottom, a_top, a_bottom, a_product, a_quotient, a_common, a_spare, a_rest, a_divisor, a_inverse, a_numerator, a_factorDegrees, a_factorPowers, a_factorCells)) : wpX_cancel post (f_tokenCount, f_latestPlace, f_stepCount, f_waitingCount, f_stackCount, f_factorCount, a_tokenKind, a_tokenContent, a_stepKind, a_stepToken, a_waitingKind, a_waitingToken, a_present, a_cells, a_leftTop, a_leftBottom, a_rightTop, a_rightBottom, a_top, a_bottom, a_product, a_quotient, a_common, a_spare, a_rest, a_divisor, a_inverse, a_numerator, a_factorDegrees, a_factorPowers, a_factorCells) := by
  unfold wpX_cancel
  refine xl_findCommon (fun a_leftTop a_leftBottom a_rightTop a_rightBottom a_top a_bottom a_product a_quotient a_common a_spare a_rest a_divisor a_inverse a_numerator => xl_degreeOf__common (fun _ _ => xl_divide__top_common_quotient (fun a_top a_quotient => xl_copy__quotient_top (fun a_top => xl_divide__bottom_common_quotient (fun a_bottom a_quotient => xl_copy__quotient_bottom (fun a_bottom => xl_degreeOf__bottom (fun r hr => ?_)))))))
  rcases hr with e | ⟨k, hk, e⟩
  · subst e; exact br_t (by decide) (h _ _ _ _ _ _ _ _ _ _ _ _ _ _)
  · subst e
    exact br_f (nI_pos (by omega)) ⟨vp_in_nI (by omega) (by omega), by decide, xl_multiplyByNumber__top (fun a_top => xl_multiplyByNumber__bottom (fun a_bottom => h _ _ _ _ _ _ _ _ _ _ _ _ _ _))⟩
theorem xl_settle {post : Int32 → SX → Prop} {x : Int32} (h : ∀ (r f_stackCount : Int32) (a_cells : Nat → Int32), ∀ a_leftTop a_leftBottom a_rightTop a_rightBottom a_top a_bottom a_product a_quotient a_common a_spare a_rest a_divisor a_inverse a_numerator : Nat → Int32, post r (f_tokenCount, f_latestPlace, f_stepCount, f_waitingCount, f_stackCount, f_factorCount, a_tokenKind, a_tokenContent, a_stepKind, a_stepToken, a_waitingKind, a_waitingToken, a_present, a_cells, a_leftTop, a_leftBottom, a_rightTop, a_rightBottom, a_top, a_bottom, a_product, a_quotient, a_common, a_spare, a_rest, a_divisor, a_inverse, a_numerator, a_factorDegrees, a_factorPowers, a_factorCells)) : wpX_settle post (f_tokenCount, f_latestPlace, f_stepCount, f_waitingCount, f_stackCount, f_factorCount, a_tokenKind, a_tokenContent, a_stepKind, a_stepToken, a_waitingKind, a_waitingToken, a_present, a_cells, a_leftTop, a_leftBottom, a_rightTop, a_rightBottom, a_top, a_bottom, a_product, a_quotient, a_common, a_spare, a_rest, a_divisor, a_inverse, a_numerator, a_factorDegrees, a_factorPowers, a_factorCells) x := by
  unfold wpX_settle
  exact xl_cancel (fun a_leftTop a_leftBottom a_rightTop a_rightBottom a_top a_bottom a_product a_quotient a_common a_spare a_rest a_divisor a_inverse a_numerator => xl_sizeOf__top_bottom (fun _ _ => br_c (fun _ => nm_e (nm_e (xl_keep__top (Or.inl rfl) (fun a_cells => xl_keep__bottom (Or.inr rfl) (fun a_cells => h 0 _ _ _ _ _ _ _ _ _ _ _ _ _ _ _ _))))) (fun _ => h 4 _ _ _ _ _ _ _ _ _ _ _ _ _ _ _ _)))
theorem xl_loadOperands {post : SX → Prop} {x : Int32} (h : ∀ a_leftTop a_leftBottom a_rightTop a_rightBottom a_top a_bottom a_product a_quotient a_common a_spare a_rest a_divisor a_inverse a_numerator : Nat → Int32, post (f_tokenCount, f_latestPlace, f_stepCount, f_waitingCount, f_stackCount, f_factorCount, a_tokenKind, a_tokenContent, a_stepKind, a_stepToken, a_waitingKind, a_waitingToken, a_present, a_cells, a_leftTop, a_leftBottom, a_rightTop, a_rightBottom, a_top, a_bottom, a_product, a_quotient, a_common, a_spare, a_rest, a_divisor, a_inverse, a_numerator, a_factorDegrees, a_factorPowers, a_factorCells)) : wpX_loadOperands post (f_tokenCount, f_latestPlace, f_stepCount, f_waitingCount, f_stackCount, f_factorCount, a_tokenKind, a_tokenContent, a_stepKind, a_stepToken, a_waitingKind, a_waitingToken, a_present, a_cells, a_leftTop, a_leftBottom, a_rightTop, a_rightBottom, a_top, a_bottom, a_product, a_quotient, a_common, a_spare, a_rest, a_divisor, a_inverse, a_numerator, a_factorDegrees, a_factorPowers, a_factorCells) x := by
  unfold wpX_loadOperands
  exact nm_e (br_c (fun _ => xl_load__leftTop (Or.inl rfl) (fun a_leftTop => xl_load__leftBottom (Or.inr rfl) (fun a_leftBottom => h _ _ _ _ _ _ _ _ _ _ _ _ _ _))) (fun _ => br_c (fun _ => xl_load__leftTop (Or.inl rfl) (fun a_leftTop => xl_load__leftBottom (Or.inr rfl) (fun a_leftBottom => xl_load__rightTop (Or.inl rfl) (fun a_rightTop => xl_load__rightBottom (Or.inr rfl) (fun a_rightBottom => h _ _ _ _ _ _ _ _ _ _ _ _ _ _))))) (fun _ => h _ _ _ _ _ _ _ _ _ _ _ _ _ _)))
theorem xl_copySlot {post : SX → Prop} {p0 p1 : Int32} (a b : Nat) (ha : a < 31) (hb : b < 31) (h : ∀ a_cells : Nat → Int32, post (f_tokenCount, f_latestPlace, f_stepCount, f_waitingCount, f_stackCount, f_factorCount, a_tokenKind, a_tokenContent, a_stepKind, a_stepToken, a_waitingKind, a_waitingToken, a_present, a_cells, a_leftTop, a_leftBottom, a_rightTop, a_rightBottom, a_top, a_bottom, a_product, a_quotient, a_common, a_spare, a_rest, a_divisor, a_inverse, a_numerator, a_factorDegrees, a_factorPowers, a_factorCells)) (ea : p0 = nI a := by rfl) (eb : p1 = nI b := by rfl) : wpX_copySlot post (f_tokenCount, f_latestPlace, f_stepCount, f_waitingCount, f_stackCount, f_factorCount, a_tokenKind, a_tokenContent, a_stepKind, a_stepToken, a_waitingKind, a_waitingToken, a_present, a_cells, a_leftTop, a_leftBottom, a_rightTop, a_rightBottom, a_top, a_bottom, a_product, a_quotient, a_common, a_spare, a_rest, a_divisor, a_inverse, a_numerator, a_factorDegrees, a_factorPowers, a_factorCells) p0 p1 := by
  subst ea eb
  have ia : nI a * 18 = nI (a * 18) := pk_mul a 18
  have ib : nI b * 18 = nI (b * 18) := pk_mul b 18
  have key : ∀ d j, ∀ a_cells : Nat → Int32, j + d = 18 → wX_copySlot_6 post (nI a) (nI b) 18 f_tokenCount f_latestPlace f_stepCount f_waitingCount f_stackCount f_factorCount (d + 1) (nI j) a_tokenKind a_tokenContent a_stepKind a_stepToken a_waitingKind a_waitingToken a_present a_cells a_leftTop a_leftBottom a_rightTop a_rightBottom a_top a_bottom a_product a_quotient a_common a_spare a_rest a_divisor a_inverse a_numerator a_factorDegrees a_factorPowers a_factorCells := by
    intro d
    induction d with
    | zero =>
      intro j a_cells hj
      obtain rfl : j = 18 := by omega
      exact br_t (by decide) (h _)
    | succ d ih =>
      intro j a_cells hj
      exact br_f (nI_ge (b := 18) (by omega) (by decide)) ⟨pk_in (a * 18 + j) 558 (by omega) (by rw [ia, nI_add]), pk_in (b * 18 + j) 558 (by omega) (by rw [ib, nI_add]), nm_e (nm_r (nI_1 j) (ih (j + 1) _ (by omega)))⟩
  exact ⟨19, key 18 0 a_cells rfl⟩
end
end
section
/-! The class's evaluate ends -/
def xw (n : Nat) (a : Nat → Int32) : Prop := n ≤ 24 ∧ ∀ j, j < n → ∃ t, t < 24 ∧ a j = nI t
theorem xw_u {n t : Nat} {a : Nat → Int32} (h : xw n a) (hn : n < 24) (ht : t < 24) : xw (n + 1) (upd a n (nI t)) := by
  refine ⟨by omega, fun j hj => ?_⟩
  by_cases c : j = n
  · subst c; exact ⟨t, ht, pk_us⟩
  · rw [pk_un c]; exact h.2 j (by omega)
theorem xw_m {n m : Nat} {a : Nat → Int32} (h : xw n a) (hm : m ≤ n) : xw m a := ⟨Nat.le_trans hm h.1, fun j hj => h.2 j (by omega)⟩
def xw_b (p : Nat → Int32) : Prop := ∀ j, p j = 0 ∨ p j = 1
theorem xw_b0 {p : Nat → Int32} (h : xw_b p) (k : Nat) : xw_b (upd p k (vp_nar .boolean 0)) := by
  intro j
  by_cases c : j = k
  · subst c; rw [pk_us]; exact Or.inl rfl
  · rw [pk_un c]; exact h j
theorem xw_b1 {p : Nat → Int32} (h : xw_b p) (k : Nat) : xw_b (upd p k (vp_nar .boolean 1)) := by
  intro j
  by_cases c : j = k
  · subst c; rw [pk_us]; exact Or.inr rfl
  · rw [pk_un c]; exact h j
section
variable {f_tokenCount f_latestPlace f_stepCount f_waitingCount f_stackCount f_factorCount : Int32} {a_tokenKind a_tokenContent a_stepKind a_stepToken a_waitingKind a_waitingToken a_present a_cells a_leftTop a_leftBottom a_rightTop a_rightBottom a_top a_bottom a_product a_quotient a_common a_spare a_rest a_divisor a_inverse a_numerator a_factorDegrees a_factorPowers a_factorCells : Nat → Int32}
theorem xl_eo {post : Int32 → Prop} {x : Int32} (h : ∀ r : Int32, post r) : wpX_endsOperand post x :=
  br_c (fun _ => h _) (fun _ => br_c (fun _ => h _) (fun _ => br_c (fun _ => h _) (fun _ => br_c (fun _ => h _) (fun _ => h _))))
theorem xl_rankOf {post : Int32 → Prop} {x : Int32} (h : ∀ r : Int32, post r) : wpX_rankOf post x :=
  br_c (fun _ => h _) (fun _ => br_c (fun _ => h _) (fun _ => br_c (fun _ => h _) (fun _ => br_c (fun _ => h _) (fun _ => h _))))
theorem xl_countOperands {post : Int32 → Prop} {x : Int32} (h : ∀ r : Int32, post r) : wpX_countOperands post x :=
  br_c (fun _ => br_c (fun _ => h _) (fun _ => br_c (fun _ => h _) (fun _ => br_c (fun _ => h _) (fun _ => h _)))) (fun _ => h _)
theorem xl_findSyntaxFault {post : Int32 → Prop} (cnt : Nat) (hc : cnt ≤ 24) (h : ∀ r : Int32, post r) : wpX_findSyntaxFault post (nI cnt, f_latestPlace, f_stepCount, f_waitingCount, f_stackCount, f_factorCount, a_tokenKind, a_tokenContent, a_stepKind, a_stepToken, a_waitingKind, a_waitingToken, a_present, a_cells, a_leftTop, a_leftBottom, a_rightTop, a_rightBottom, a_top, a_bottom, a_product, a_quotient, a_common, a_spare, a_rest, a_divisor, a_inverse, a_numerator, a_factorDegrees, a_factorPowers, a_factorCells) := by
  have key : ∀ d i, ∀ x1 x2 x3 : Int32, i + d = cnt → wX_findSyntaxFault_9 post (nI cnt) f_latestPlace f_stepCount f_waitingCount f_stackCount f_factorCount a_tokenKind a_tokenContent a_stepKind a_stepToken a_waitingKind a_waitingToken a_present a_cells a_leftTop a_leftBottom a_rightTop a_rightBottom a_top a_bottom a_product a_quotient a_common a_spare a_rest a_divisor a_inverse a_numerator a_factorDegrees a_factorPowers a_factorCells (d + 1) x1 x2 x3 (nI i) := by
    intro d
    induction d with
    | zero =>
      intro i x1 x2 x3 hi
      exact br_t (nI_le (by omega) (by omega)) (br_c (fun _ => br_c (fun _ => h _) (fun _ => h _)) (fun _ => h _))
    | succ d ih =>
      intro i x1 x2 x3 hi
      have p123 : ∀ x1 x5 z0 : Int32, wX_findSyntaxFault_123 post (wX_findSyntaxFault_9 post (nI cnt) f_latestPlace f_stepCount f_waitingCount f_stackCount f_factorCount a_tokenKind a_tokenContent a_stepKind a_stepToken a_waitingKind a_waitingToken a_present a_cells a_leftTop a_leftBottom a_rightTop a_rightBottom a_top a_bottom a_product a_quotient a_common a_spare a_rest a_divisor a_inverse a_numerator a_factorDegrees a_factorPowers a_factorCells (d + 1)) x1 (nI i) x5 z0 (nI cnt) f_latestPlace f_stepCount f_waitingCount f_stackCount f_factorCount a_tokenKind a_tokenContent a_stepKind a_stepToken a_waitingKind a_waitingToken a_present a_cells a_leftTop a_leftBottom a_rightTop a_rightBottom a_top a_bottom a_product a_quotient a_common a_spare a_rest a_divisor a_inverse a_numerator a_factorDegrees a_factorPowers a_factorCells := fun x1 x5 z0 =>
        br_c (fun _ => nm_r (nI_1 i) (ih (i + 1) _ _ _ (by omega))) (fun _ => nm_r (nI_1 i) (ih (i + 1) _ _ _ (by omega)))
      have p110 : ∀ x1 x5 : Int32, wX_findSyntaxFault_110 post (wX_findSyntaxFault_9 post (nI cnt) f_latestPlace f_stepCount f_waitingCount f_stackCount f_factorCount a_tokenKind a_tokenContent a_stepKind a_stepToken a_waitingKind a_waitingToken a_present a_cells a_leftTop a_leftBottom a_rightTop a_rightBottom a_top a_bottom a_product a_quotient a_common a_spare a_rest a_divisor a_inverse a_numerator a_factorDegrees a_factorPowers a_factorCells (d + 1)) x1 (nI i) x5 (nI cnt) f_latestPlace f_stepCount f_waitingCount f_stackCount f_factorCount a_tokenKind a_tokenContent a_stepKind a_stepToken a_waitingKind a_waitingToken a_present a_cells a_leftTop a_leftBottom a_rightTop a_rightBottom a_top a_bottom a_product a_quotient a_common a_spare a_rest a_divisor a_inverse a_numerator a_factorDegrees a_factorPowers a_factorCells := fun x1 x5 =>
        xl_eo (fun _ => br_c (fun _ => p123 _ _ _) (fun _ => p123 _ _ _))
      have p81 : ∀ x1 x5 x6 : Int32, wX_findSyntaxFault_81 post (wX_findSyntaxFault_9 post (nI cnt) f_latestPlace f_stepCount f_waitingCount f_stackCount f_factorCount a_tokenKind a_tokenContent a_stepKind a_stepToken a_waitingKind a_waitingToken a_present a_cells a_leftTop a_leftBottom a_rightTop a_rightBottom a_top a_bottom a_product a_quotient a_common a_spare a_rest a_divisor a_inverse a_numerator a_factorDegrees a_factorPowers a_factorCells (d + 1)) x1 (nI i) x5 x6 (nI cnt) f_latestPlace f_stepCount f_waitingCount f_stackCount f_factorCount a_tokenKind a_tokenContent a_stepKind a_stepToken a_waitingKind a_waitingToken a_present a_cells a_leftTop a_leftBottom a_rightTop a_rightBottom a_top a_bottom a_product a_quotient a_common a_spare a_rest a_divisor a_inverse a_numerator a_factorDegrees a_factorPowers a_factorCells := fun x1 x5 x6 =>
        br_c (fun _ => h _) (fun _ => br_c (fun _ => nm_e (p110 _ _)) (fun _ => br_c (fun _ => nm_e (p110 _ _)) (fun _ => p110 _ _)))
      refine br_f (nI_ge (by omega) (by omega)) ⟨vp_in_nI (by omega) (by omega), nm_e ?_⟩
      exact br_c (fun _ => br_c (fun _ => p81 _ _ 1) (fun _ => br_c (fun _ => br_c (fun _ => p81 _ _ 0) (fun _ => p81 _ _ 1)) (fun _ => p81 _ _ 0))) (fun _ => br_c (fun _ => p81 _ _ 1) (fun _ => br_c (fun _ => br_c (fun _ => p81 _ _ 0) (fun _ => p81 _ _ 1)) (fun _ => p81 _ _ 0)))
  exact ⟨cnt + 1, key cnt 0 _ _ _ (by omega)⟩
theorem xl_addStep {post : SX → Prop} {x y : Int32} (sc t : Nat) (ht : t < 24) (w : xw sc a_stepToken) (h : ∀ (sc' : Nat) (a_stepKind a_stepToken : Nat → Int32), xw sc' a_stepToken → post (f_tokenCount, f_latestPlace, nI sc', f_waitingCount, f_stackCount, f_factorCount, a_tokenKind, a_tokenContent, a_stepKind, a_stepToken, a_waitingKind, a_waitingToken, a_present, a_cells, a_leftTop, a_leftBottom, a_rightTop, a_rightBottom, a_top, a_bottom, a_product, a_quotient, a_common, a_spare, a_rest, a_divisor, a_inverse, a_numerator, a_factorDegrees, a_factorPowers, a_factorCells)) (ey : y = nI t := by rfl) : wpX_addStep post (f_tokenCount, f_latestPlace, nI sc, f_waitingCount, f_stackCount, f_factorCount, a_tokenKind, a_tokenContent, a_stepKind, a_stepToken, a_waitingKind, a_waitingToken, a_present, a_cells, a_leftTop, a_leftBottom, a_rightTop, a_rightBottom, a_top, a_bottom, a_product, a_quotient, a_common, a_spare, a_rest, a_divisor, a_inverse, a_numerator, a_factorDegrees, a_factorPowers, a_factorCells) x y := by
  subst ey
  unfold wpX_addStep
  dsimp only
  have hs := w.1
  by_cases c : sc < 24
  · refine br_f (nI_ge (b := 24) c (by decide)) ⟨vp_in_nI c (by omega), nm_e ⟨vp_in_nI c (by omega), nm_e (nm_r (nI_1 sc) (h (sc + 1) _ _ ?_))⟩⟩
    rw [nI_clamp (by omega)]; exact xw_u w c ht
  · exact br_t (nI_le (a := 24) (by omega) (by omega)) (h sc _ _ w)
theorem xl_holdBack {post : SX → Prop} {x y : Int32} (wc t : Nat) (ht : t < 24) (w : xw wc a_waitingToken) (h : ∀ (wc' : Nat) (a_waitingKind a_waitingToken : Nat → Int32), xw wc' a_waitingToken → post (f_tokenCount, f_latestPlace, f_stepCount, nI wc', f_stackCount, f_factorCount, a_tokenKind, a_tokenContent, a_stepKind, a_stepToken, a_waitingKind, a_waitingToken, a_present, a_cells, a_leftTop, a_leftBottom, a_rightTop, a_rightBottom, a_top, a_bottom, a_product, a_quotient, a_common, a_spare, a_rest, a_divisor, a_inverse, a_numerator, a_factorDegrees, a_factorPowers, a_factorCells)) (ey : y = nI t := by rfl) : wpX_holdBack post (f_tokenCount, f_latestPlace, f_stepCount, nI wc, f_stackCount, f_factorCount, a_tokenKind, a_tokenContent, a_stepKind, a_stepToken, a_waitingKind, a_waitingToken, a_present, a_cells, a_leftTop, a_leftBottom, a_rightTop, a_rightBottom, a_top, a_bottom, a_product, a_quotient, a_common, a_spare, a_rest, a_divisor, a_inverse, a_numerator, a_factorDegrees, a_factorPowers, a_factorCells) x y := by
  subst ey
  unfold wpX_holdBack
  dsimp only
  have hs := w.1
  by_cases c : wc < 24
  · refine br_f (nI_ge (b := 24) c (by decide)) ⟨vp_in_nI c (by omega), nm_e ⟨vp_in_nI c (by omega), nm_e (nm_r (nI_1 wc) (h (wc + 1) _ _ ?_))⟩⟩
    rw [nI_clamp (by omega)]; exact xw_u w c ht
  · exact br_t (nI_le (a := 24) (by omega) (by omega)) (h wc _ _ w)
theorem xl_dropOpen {post : SX → Prop} (wc : Nat) (w : xw wc a_waitingToken) (h : ∀ wc' : Nat, xw wc' a_waitingToken → post (f_tokenCount, f_latestPlace, f_stepCount, nI wc', f_stackCount, f_factorCount, a_tokenKind, a_tokenContent, a_stepKind, a_stepToken, a_waitingKind, a_waitingToken, a_present, a_cells, a_leftTop, a_leftBottom, a_rightTop, a_rightBottom, a_top, a_bottom, a_product, a_quotient, a_common, a_spare, a_rest, a_divisor, a_inverse, a_numerator, a_factorDegrees, a_factorPowers, a_factorCells)) : wpX_dropOpen post (f_tokenCount, f_latestPlace, f_stepCount, nI wc, f_stackCount, f_factorCount, a_tokenKind, a_tokenContent, a_stepKind, a_stepToken, a_waitingKind, a_waitingToken, a_present, a_cells, a_leftTop, a_leftBottom, a_rightTop, a_rightBottom, a_top, a_bottom, a_product, a_quotient, a_common, a_spare, a_rest, a_divisor, a_inverse, a_numerator, a_factorDegrees, a_factorPowers, a_factorCells) := by
  unfold wpX_dropOpen
  dsimp only
  have hs := w.1
  cases wc with
  | zero => exact br_t (by decide) (h 0 w)
  | succ q => exact br_f (nI_nle (by omega) (by omega)) (nm_r (nI_pred q) (h q (xw_m w (by omega))))
theorem xl_releaseSteps {post : SX → Prop} {x : Int32} (sc wc : Nat) (ws : xw sc a_stepToken) (ww : xw wc a_waitingToken) (h : ∀ (sc' wc' : Nat) (a_stepKind a_stepToken : Nat → Int32), xw sc' a_stepToken → xw wc' a_waitingToken → post (f_tokenCount, f_latestPlace, nI sc', nI wc', f_stackCount, f_factorCount, a_tokenKind, a_tokenContent, a_stepKind, a_stepToken, a_waitingKind, a_waitingToken, a_present, a_cells, a_leftTop, a_leftBottom, a_rightTop, a_rightBottom, a_top, a_bottom, a_product, a_quotient, a_common, a_spare, a_rest, a_divisor, a_inverse, a_numerator, a_factorDegrees, a_factorPowers, a_factorCells)) : wpX_releaseSteps post (f_tokenCount, f_latestPlace, nI sc, nI wc, f_stackCount, f_factorCount, a_tokenKind, a_tokenContent, a_stepKind, a_stepToken, a_waitingKind, a_waitingToken, a_present, a_cells, a_leftTop, a_leftBottom, a_rightTop, a_rightBottom, a_top, a_bottom, a_product, a_quotient, a_common, a_spare, a_rest, a_divisor, a_inverse, a_numerator, a_factorDegrees, a_factorPowers, a_factorCells) x := by
  have key : ∀ j, ∀ (sc w : Nat) (a_stepKind a_stepToken : Nat → Int32), j ≤ w → xw sc a_stepToken → xw w a_waitingToken → wX_releaseSteps_7 post x (j + 1) (nI j + (-1)) f_tokenCount f_latestPlace (nI sc) (nI w) f_stackCount f_factorCount a_tokenKind a_tokenContent a_stepKind a_stepToken a_waitingKind a_waitingToken a_present a_cells a_leftTop a_leftBottom a_rightTop a_rightBottom a_top a_bottom a_product a_quotient a_common a_spare a_rest a_divisor a_inverse a_numerator a_factorDegrees a_factorPowers a_factorCells := by
    intro j
    induction j with
    | zero =>
      intro sc w a_stepKind a_stepToken _ h1 h2
      have e0 : nI 0 + (-1) = -1 := by decide
      rw [e0]
      exact br_t (by decide) (h sc w _ _ h1 h2)
    | succ j ih =>
      intro sc w a_stepKind a_stepToken hj h1 h2
      have h24 := h2.1
      obtain ⟨t, ht, et⟩ := h2.2 j (by omega)
      rw [pk_m1]
      refine br_f (nI_pos (by omega)) ⟨vp_in_nI (by omega) (by omega), nm_e (xl_rankOf (fun _ => br_c (fun _ => ⟨vp_in_nI (by omega) (by omega), ?_⟩) (fun _ => h sc w _ _ h1 h2)))⟩
      refine xl_addStep sc t ht h1 (fun sc' a_stepKind a_stepToken w' => nm_e (ih sc' j _ _ (Nat.le_refl _) w' (xw_m h2 (by omega)))) ?_
      rw [nI_clamp (by omega), et]
  have hs := ww.1
  unfold wpX_releaseSteps
  have e : nI wc - 1 = nI wc + (-1) := by
    cases wc with
    | zero => decide
    | succ q => rw [nI_pred, pk_m1]
  exact nm_r e ⟨wc + 1, key wc sc wc _ _ (Nat.le_refl _) ws ww⟩
theorem xl_orderSteps {post : SX → Prop} (cnt : Nat) (hc : cnt ≤ 24) (h : ∀ (sc wc : Nat) (a_stepKind a_stepToken a_waitingKind a_waitingToken : Nat → Int32), xw sc a_stepToken → post (nI cnt, f_latestPlace, nI sc, nI wc, f_stackCount, f_factorCount, a_tokenKind, a_tokenContent, a_stepKind, a_stepToken, a_waitingKind, a_waitingToken, a_present, a_cells, a_leftTop, a_leftBottom, a_rightTop, a_rightBottom, a_top, a_bottom, a_product, a_quotient, a_common, a_spare, a_rest, a_divisor, a_inverse, a_numerator, a_factorDegrees, a_factorPowers, a_factorCells)) : wpX_orderSteps post (nI cnt, f_latestPlace, f_stepCount, f_waitingCount, f_stackCount, f_factorCount, a_tokenKind, a_tokenContent, a_stepKind, a_stepToken, a_waitingKind, a_waitingToken, a_present, a_cells, a_leftTop, a_leftBottom, a_rightTop, a_rightBottom, a_top, a_bottom, a_product, a_quotient, a_common, a_spare, a_rest, a_divisor, a_inverse, a_numerator, a_factorDegrees, a_factorPowers, a_factorCells) := by
  have key : ∀ d i, ∀ (x1 : Int32) (sc wc : Nat) (a_stepKind a_stepToken a_waitingKind a_waitingToken : Nat → Int32), i + d = cnt → xw sc a_stepToken → xw wc a_waitingToken → wX_orderSteps_14 post (d + 1) x1 (nI i) (nI cnt) f_latestPlace (nI sc) (nI wc) f_stackCount f_factorCount a_tokenKind a_tokenContent a_stepKind a_stepToken a_waitingKind a_waitingToken a_present a_cells a_leftTop a_leftBottom a_rightTop a_rightBottom a_top a_bottom a_product a_quotient a_common a_spare a_rest a_divisor a_inverse a_numerator a_factorDegrees a_factorPowers a_factorCells := by
    intro d
    induction d with
    | zero =>
      intro i x1 sc wc a_stepKind a_stepToken a_waitingKind a_waitingToken hi h1 h2
      exact br_t (nI_le (by omega) (by omega)) (xl_releaseSteps sc wc h1 h2 (fun sc' wc' a_stepKind a_stepToken w1 w2 => h sc' wc' _ _ _ _ w1))
    | succ d ih =>
      intro i x1 sc wc a_stepKind a_stepToken a_waitingKind a_waitingToken hi h1 h2
      have p54 : ∀ x3 z0 : Int32, wX_orderSteps_54 post (wX_orderSteps_14 post (d + 1)) (nI i) x3 z0 (nI cnt) f_latestPlace (nI sc) (nI wc) f_stackCount f_factorCount a_tokenKind a_tokenContent a_stepKind a_stepToken a_waitingKind a_waitingToken a_present a_cells a_leftTop a_leftBottom a_rightTop a_rightBottom a_top a_bottom a_product a_quotient a_common a_spare a_rest a_divisor a_inverse a_numerator a_factorDegrees a_factorPowers a_factorCells := by
        intro x3 z0
        unfold wX_orderSteps_54
        have p108 : wX_orderSteps_108 post (wX_orderSteps_14 post (d + 1)) z0 (nI i) x3 (nI cnt) f_latestPlace (nI sc) (nI wc) f_stackCount f_factorCount a_tokenKind a_tokenContent a_stepKind a_stepToken a_waitingKind a_waitingToken a_present a_cells a_leftTop a_leftBottom a_rightTop a_rightBottom a_top a_bottom a_product a_quotient a_common a_spare a_rest a_divisor a_inverse a_numerator a_factorDegrees a_factorPowers a_factorCells :=
          xl_addStep sc i (by omega) h1 (fun sc' a_stepKind a_stepToken w' => nm_r (nI_1 i) (ih (i + 1) _ sc' wc _ _ _ _ (by omega) w' h2))
        have p134 : wX_orderSteps_134 post (wX_orderSteps_14 post (d + 1)) z0 (nI i) x3 (nI cnt) f_latestPlace (nI sc) (nI wc) f_stackCount f_factorCount a_tokenKind a_tokenContent a_stepKind a_stepToken a_waitingKind a_waitingToken a_present a_cells a_leftTop a_leftBottom a_rightTop a_rightBottom a_top a_bottom a_product a_quotient a_common a_spare a_rest a_divisor a_inverse a_numerator a_factorDegrees a_factorPowers a_factorCells :=
          xl_holdBack wc i (by omega) h2 (fun wc' a_waitingKind a_waitingToken w' => nm_r (nI_1 i) (ih (i + 1) _ sc wc' _ _ _ _ (by omega) h1 w'))
        refine br_c (fun _ => br_c (fun _ => ?_) (fun _ => br_c (fun _ => p108) (fun _ => br_c (fun _ => p108) (fun _ => br_c (fun _ => p134) (fun _ => br_c (fun _ => p134) (fun _ => br_c (fun _ => p134) (fun _ => ?_))))))) (fun _ => ?_)
        · exact xl_releaseSteps sc wc h1 h2 (fun sc' wc' a_stepKind a_stepToken w1 w2 => xl_dropOpen wc' w2 (fun wc2 w3 => xl_releaseSteps sc' wc2 w1 w3 (fun sc3 wc3 a_stepKind a_stepToken w4 w5 => nm_r (nI_1 i) (ih (i + 1) _ sc3 wc3 _ _ _ _ (by omega) w4 w5))))
        · exact xl_rankOf (fun _ => xl_releaseSteps sc wc h1 h2 (fun sc' wc' a_stepKind a_stepToken w1 w2 => xl_holdBack wc' i (by omega) w2 (fun wc2 a_waitingKind a_waitingToken w3 => nm_r (nI_1 i) (ih (i + 1) _ sc' wc2 _ _ _ _ (by omega) w1 w3))))
        · exact xl_addStep sc i (by omega) h1 (fun sc' a_stepKind a_stepToken w' => xl_releaseSteps sc' wc w' h2 (fun sc3 wc3 a_stepKind a_stepToken w4 w5 => nm_r (nI_1 i) (ih (i + 1) _ sc3 wc3 _ _ _ _ (by omega) w4 w5)))
      have p42 : ∀ x3 : Int32, wX_orderSteps_42 post (wX_orderSteps_14 post (d + 1)) (nI i) x3 (nI cnt) f_latestPlace (nI sc) (nI wc) f_stackCount f_factorCount a_tokenKind a_tokenContent a_stepKind a_stepToken a_waitingKind a_waitingToken a_present a_cells a_leftTop a_leftBottom a_rightTop a_rightBottom a_top a_bottom a_product a_quotient a_common a_spare a_rest a_divisor a_inverse a_numerator a_factorDegrees a_factorPowers a_factorCells := fun x3 =>
        xl_eo (fun _ => br_c (fun _ => p54 _ _) (fun _ => p54 _ _))
      exact br_f (nI_ge (by omega) (by omega)) ⟨vp_in_nI (by omega) (by omega), nm_e (br_c (fun _ => br_c (fun _ => p42 _) (fun _ => p42 _)) (fun _ => p42 _))⟩
  have z : ∀ a : Nat → Int32, xw 0 a := fun a => ⟨by omega, fun j hj => by omega⟩
  exact ⟨cnt + 1, key cnt 0 1 0 0 _ _ _ _ (by omega) (z _) (z _)⟩
theorem xl_evaluate {post : Int32 → SX → Prop} (cnt : Nat) (hc : cnt ≤ 24) (hb : xw_b a_present) (h : ∀ (r f_latestPlace f_stepCount f_waitingCount f_stackCount : Int32) (a_stepKind a_stepToken a_waitingKind a_waitingToken a_present a_cells : Nat → Int32), ∀ a_leftTop a_leftBottom a_rightTop a_rightBottom a_top a_bottom a_product a_quotient a_common a_spare a_rest a_divisor a_inverse a_numerator : Nat → Int32, xw_b a_present → post r (nI cnt, f_latestPlace, f_stepCount, f_waitingCount, f_stackCount, f_factorCount, a_tokenKind, a_tokenContent, a_stepKind, a_stepToken, a_waitingKind, a_waitingToken, a_present, a_cells, a_leftTop, a_leftBottom, a_rightTop, a_rightBottom, a_top, a_bottom, a_product, a_quotient, a_common, a_spare, a_rest, a_divisor, a_inverse, a_numerator, a_factorDegrees, a_factorPowers, a_factorCells)) : wpX_evaluate post (nI cnt, f_latestPlace, f_stepCount, f_waitingCount, f_stackCount, f_factorCount, a_tokenKind, a_tokenContent, a_stepKind, a_stepToken, a_waitingKind, a_waitingToken, a_present, a_cells, a_leftTop, a_leftBottom, a_rightTop, a_rightBottom, a_top, a_bottom, a_product, a_quotient, a_common, a_spare, a_rest, a_divisor, a_inverse, a_numerator, a_factorDegrees, a_factorPowers, a_factorCells) := by
  unfold wpX_evaluate
  refine nm_e (xl_findSyntaxFault cnt hc (fun r => br_c (fun _ => ?_) (fun _ => h _ _ _ _ _ _ _ _ _ _ _ _ _ _ _ _ _ _ _ _ _ _ _ _ _ (xw_b0 hb 6))))
  refine xl_orderSteps cnt hc (fun sc wc a_stepKind a_stepToken a_waitingKind a_waitingToken w => ?_)
  have key : ∀ d i, ∀ (f_latestPlace f_stackCount : Int32) (a_present a_cells : Nat → Int32), ∀ a_leftTop a_leftBottom a_rightTop a_rightBottom a_top a_bottom a_product a_quotient a_common a_spare a_rest a_divisor a_inverse a_numerator : Nat → Int32, xw_b a_present → i + d = sc → wX_evaluate_36 post (d + 1) (nI i) (nI cnt) f_latestPlace (nI sc) (nI wc) f_stackCount f_factorCount a_tokenKind a_tokenContent a_stepKind a_stepToken a_waitingKind a_waitingToken a_present a_cells a_leftTop a_leftBottom a_rightTop a_rightBottom a_top a_bottom a_product a_quotient a_common a_spare a_rest a_divisor a_inverse a_numerator a_factorDegrees a_factorPowers a_factorCells := by
    intro d
    induction d with
    | zero =>
      intro i f_latestPlace f_stackCount a_present a_cells a_leftTop a_leftBottom a_rightTop a_rightBottom a_top a_bottom a_product a_quotient a_common a_spare a_rest a_divisor a_inverse a_numerator hb hi
      have h24 := w.1
      exact br_t (nI_le (by omega) (by omega)) (xl_copySlot 7 6 (by omega) (by omega) (fun a_cells => nm_e (h _ _ _ _ _ _ _ _ _ _ _ _ _ _ _ _ _ _ _ _ _ _ _ _ _ (xw_b1 hb 6))))
    | succ d ih =>
      intro i f_latestPlace f_stackCount a_present a_cells a_leftTop a_leftBottom a_rightTop a_rightBottom a_top a_bottom a_product a_quotient a_common a_spare a_rest a_divisor a_inverse a_numerator hb hi
      have h24 := w.1
      obtain ⟨t, ht, et⟩ := w.2 i (by omega)
      have i24 : vp_in (nI i) 24 := vp_in_nI (by omega) (by omega)
      have it : vp_in (a_stepToken (nI i).toNatClampNeg) 24 := by
        rw [nI_clamp (by omega), et]; exact vp_in_nI ht (by omega)
      have p91 : ∀ (x3 f_latestPlace f_stackCount : Int32) (a_present a_cells : Nat → Int32), ∀ a_leftTop a_leftBottom a_rightTop a_rightBottom a_top a_bottom a_product a_quotient a_common a_spare a_rest a_divisor a_inverse a_numerator : Nat → Int32, xw_b a_present → wX_evaluate_91 post (wX_evaluate_36 post (d + 1)) (nI i) x3 (nI cnt) f_latestPlace (nI sc) (nI wc) f_stackCount f_factorCount a_tokenKind a_tokenContent a_stepKind a_stepToken a_waitingKind a_waitingToken a_present a_cells a_leftTop a_leftBottom a_rightTop a_rightBottom a_top a_bottom a_product a_quotient a_common a_spare a_rest a_divisor a_inverse a_numerator a_factorDegrees a_factorPowers a_factorCells := fun x3 f_latestPlace f_stackCount a_present a_cells a_leftTop a_leftBottom a_rightTop a_rightBottom a_top a_bottom a_product a_quotient a_common a_spare a_rest a_divisor a_inverse a_numerator hb =>
        br_c (fun _ => nm_r (nI_1 i) (ih (i + 1) _ _ _ _ _ _ _ _ _ _ _ _ _ _ _ _ _ _ hb (by omega))) (fun _ => ⟨i24, nm_e (h _ _ _ _ _ _ _ _ _ _ _ _ _ _ _ _ _ _ _ _ _ _ _ _ _ hb)⟩)
      exact br_f (nI_ge (by omega) (by omega)) ⟨i24, xl_countOperands (fun _ => xl_loadOperands (fun a_leftTop a_leftBottom a_rightTop a_rightBottom a_top a_bottom a_product a_quotient a_common a_spare a_rest a_divisor a_inverse a_numerator => ⟨i24, i24, it, xl_work (fun r a_leftTop a_leftBottom a_rightTop a_rightBottom a_top a_bottom a_product a_quotient a_common a_spare a_rest a_divisor a_inverse a_numerator => br_c (fun _ => xl_settle (fun r f_stackCount a_cells a_leftTop a_leftBottom a_rightTop a_rightBottom a_top a_bottom a_product a_quotient a_common a_spare a_rest a_divisor a_inverse a_numerator => p91 _ _ _ _ _ _ _ _ _ _ _ _ _ _ _ _ _ _ _ hb)) (fun _ => p91 _ _ _ _ _ _ _ _ _ _ _ _ _ _ _ _ _ _ _ hb))⟩))⟩
  exact ⟨sc + 1, key sc 0 _ _ _ _ _ _ _ _ _ _ _ _ _ _ _ _ _ _ (xw_b0 hb 6) (by omega)⟩
end
end
section
/-! The class's factors and fractions end -/
section
variable {f_tokenCount f_latestPlace f_stepCount f_waitingCount f_stackCount f_factorCount : Int32} {a_tokenKind a_tokenContent a_stepKind a_stepToken a_waitingKind a_waitingToken a_present a_cells a_leftTop a_leftBottom a_rightTop a_rightBottom a_top a_bottom a_product a_quotient a_common a_spare a_rest a_divisor a_inverse a_numerator a_factorDegrees a_factorPowers a_factorCells : Nat → Int32}
theorem xl_addFactor__divisor {post : SX → Prop} {p1 p2 : Int32} (fc : Nat) (hf : fc ≤ 8) (h : ∀ (fc' : Nat) (a_factorDegrees a_factorPowers a_factorCells : Nat → Int32), fc' ≤ 8 → post (f_tokenCount, f_latestPlace, f_stepCount, f_waitingCount, f_stackCount, nI fc', a_tokenKind, a_tokenContent, a_stepKind, a_stepToken, a_waitingKind, a_waitingToken, a_present, a_cells, a_leftTop, a_leftBottom, a_rightTop, a_rightBottom, a_top, a_bottom, a_product, a_quotient, a_common, a_spare, a_rest, a_divisor, a_inverse, a_numerator, a_factorDegrees, a_factorPowers, a_factorCells)) : wpX_addFactor__divisor post (f_tokenCount, f_latestPlace, f_stepCount, f_waitingCount, f_stackCount, nI fc, a_tokenKind, a_tokenContent, a_stepKind, a_stepToken, a_waitingKind, a_waitingToken, a_present, a_cells, a_leftTop, a_leftBottom, a_rightTop, a_rightBottom, a_top, a_bottom, a_product, a_quotient, a_common, a_spare, a_rest, a_divisor, a_inverse, a_numerator, a_factorDegrees, a_factorPowers, a_factorCells) p1 p2 := by
  have e9 : nI fc * 9 = nI (fc * 9) := pk_mul fc 9
  unfold wpX_addFactor__divisor
  by_cases c : fc < 8
  · have key : ∀ d j, ∀ (a_factorDegrees a_factorPowers a_factorCells : Nat → Int32), j + d = 9 → wX_addFactor__divisor_32 post f_tokenCount f_latestPlace f_stepCount f_waitingCount f_stackCount (nI fc) (d + 1) (nI j) a_tokenKind a_tokenContent a_stepKind a_stepToken a_waitingKind a_waitingToken a_present a_cells a_leftTop a_leftBottom a_rightTop a_rightBottom a_top a_bottom a_product a_quotient a_common a_spare a_rest a_divisor a_inverse a_numerator a_factorDegrees a_factorPowers a_factorCells := by
      intro d
      induction d with
      | zero =>
        intro j a_factorDegrees a_factorPowers a_factorCells hj
        obtain rfl : j = 9 := by omega
        exact br_t (by decide) (nm_r (nI_1 fc) (h (fc + 1) _ _ _ (by omega)))
      | succ d ih =>
        intro j a_factorDegrees a_factorPowers a_factorCells hj
        exact br_f (nI_ge (b := 9) (by omega) (by decide)) ⟨vp_in_nI (by omega) (by omega), pk_in (fc * 9 + j) 72 (by omega) (by rw [e9, nI_add]), nm_e (nm_r (nI_1 j) (ih (j + 1) _ _ _ (by omega)))⟩
    exact br_f (nI_ge (b := 8) c (by decide)) ⟨vp_in_nI c (by omega), nm_e ⟨vp_in_nI c (by omega), nm_e ⟨10, key 9 0 _ _ _ rfl⟩⟩⟩
  · exact br_t (nI_le (a := 8) (by omega) (by omega)) (h fc _ _ _ hf)
theorem xl_addFactor__rest {post : SX → Prop} {p1 p2 : Int32} (fc : Nat) (hf : fc ≤ 8) (h : ∀ (fc' : Nat) (a_factorDegrees a_factorPowers a_factorCells : Nat → Int32), fc' ≤ 8 → post (f_tokenCount, f_latestPlace, f_stepCount, f_waitingCount, f_stackCount, nI fc', a_tokenKind, a_tokenContent, a_stepKind, a_stepToken, a_waitingKind, a_waitingToken, a_present, a_cells, a_leftTop, a_leftBottom, a_rightTop, a_rightBottom, a_top, a_bottom, a_product, a_quotient, a_common, a_spare, a_rest, a_divisor, a_inverse, a_numerator, a_factorDegrees, a_factorPowers, a_factorCells)) : wpX_addFactor__rest post (f_tokenCount, f_latestPlace, f_stepCount, f_waitingCount, f_stackCount, nI fc, a_tokenKind, a_tokenContent, a_stepKind, a_stepToken, a_waitingKind, a_waitingToken, a_present, a_cells, a_leftTop, a_leftBottom, a_rightTop, a_rightBottom, a_top, a_bottom, a_product, a_quotient, a_common, a_spare, a_rest, a_divisor, a_inverse, a_numerator, a_factorDegrees, a_factorPowers, a_factorCells) p1 p2 := by
  have e9 : nI fc * 9 = nI (fc * 9) := pk_mul fc 9
  unfold wpX_addFactor__rest
  by_cases c : fc < 8
  · have key : ∀ d j, ∀ (a_factorDegrees a_factorPowers a_factorCells : Nat → Int32), j + d = 9 → wX_addFactor__rest_32 post f_tokenCount f_latestPlace f_stepCount f_waitingCount f_stackCount (nI fc) (d + 1) (nI j) a_tokenKind a_tokenContent a_stepKind a_stepToken a_waitingKind a_waitingToken a_present a_cells a_leftTop a_leftBottom a_rightTop a_rightBottom a_top a_bottom a_product a_quotient a_common a_spare a_rest a_divisor a_inverse a_numerator a_factorDegrees a_factorPowers a_factorCells := by
      intro d
      induction d with
      | zero =>
        intro j a_factorDegrees a_factorPowers a_factorCells hj
        obtain rfl : j = 9 := by omega
        exact br_t (by decide) (nm_r (nI_1 fc) (h (fc + 1) _ _ _ (by omega)))
      | succ d ih =>
        intro j a_factorDegrees a_factorPowers a_factorCells hj
        exact br_f (nI_ge (b := 9) (by omega) (by decide)) ⟨vp_in_nI (by omega) (by omega), pk_in (fc * 9 + j) 72 (by omega) (by rw [e9, nI_add]), nm_e (nm_r (nI_1 j) (ih (j + 1) _ _ _ (by omega)))⟩
    exact br_f (nI_ge (b := 8) c (by decide)) ⟨vp_in_nI c (by omega), nm_e ⟨vp_in_nI c (by omega), nm_e ⟨10, key 9 0 _ _ _ rfl⟩⟩⟩
  · exact br_t (nI_le (a := 8) (by omega) (by omega)) (h fc _ _ _ hf)
theorem xl_takeOut {post : SX → Prop} {x : Int32} (fc : Nat) (hf : fc ≤ 8) (h : ∀ (fc' : Nat) (a_factorDegrees a_factorPowers a_factorCells : Nat → Int32), ∀ a_leftTop a_leftBottom a_rightTop a_rightBottom a_top a_bottom a_product a_quotient a_common a_spare a_rest a_divisor a_inverse a_numerator : Nat → Int32, fc' ≤ 8 → post (f_tokenCount, f_latestPlace, f_stepCount, f_waitingCount, f_stackCount, nI fc', a_tokenKind, a_tokenContent, a_stepKind, a_stepToken, a_waitingKind, a_waitingToken, a_present, a_cells, a_leftTop, a_leftBottom, a_rightTop, a_rightBottom, a_top, a_bottom, a_product, a_quotient, a_common, a_spare, a_rest, a_divisor, a_inverse, a_numerator, a_factorDegrees, a_factorPowers, a_factorCells)) : wpX_takeOut post (f_tokenCount, f_latestPlace, f_stepCount, f_waitingCount, f_stackCount, nI fc, a_tokenKind, a_tokenContent, a_stepKind, a_stepToken, a_waitingKind, a_waitingToken, a_present, a_cells, a_leftTop, a_leftBottom, a_rightTop, a_rightBottom, a_top, a_bottom, a_product, a_quotient, a_common, a_spare, a_rest, a_divisor, a_inverse, a_numerator, a_factorDegrees, a_factorPowers, a_factorCells) x := by
  have p70 : ∀ x2 : Int32, ∀ a_leftTop a_leftBottom a_rightTop a_rightBottom a_top a_bottom a_product a_quotient a_common a_spare a_rest a_divisor a_inverse a_numerator : Nat → Int32, wX_takeOut_70 post x x2 f_tokenCount f_latestPlace f_stepCount f_waitingCount f_stackCount (nI fc) a_tokenKind a_tokenContent a_stepKind a_stepToken a_waitingKind a_waitingToken a_present a_cells a_leftTop a_leftBottom a_rightTop a_rightBottom a_top a_bottom a_product a_quotient a_common a_spare a_rest a_divisor a_inverse a_numerator a_factorDegrees a_factorPowers a_factorCells := by
    intro x2 a_leftTop a_leftBottom a_rightTop a_rightBottom a_top a_bottom a_product a_quotient a_common a_spare a_rest a_divisor a_inverse a_numerator
    exact br_c (fun _ => h fc _ _ _ _ _ _ _ _ _ _ _ _ _ _ _ _ _ hf) (fun _ => xl_addFactor__divisor fc hf (fun fc' a_factorDegrees a_factorPowers a_factorCells hf' => h fc' _ _ _ _ _ _ _ _ _ _ _ _ _ _ _ _ _ hf'))
  have key : ∀ d j, ∀ x2 : Int32, ∀ a_leftTop a_leftBottom a_rightTop a_rightBottom a_top a_bottom a_product a_quotient a_common a_spare a_rest a_divisor a_inverse a_numerator : Nat → Int32, j + d = 8 → wX_takeOut_4 post x (d + 1) x2 (nI j) f_tokenCount f_latestPlace f_stepCount f_waitingCount f_stackCount (nI fc) a_tokenKind a_tokenContent a_stepKind a_stepToken a_waitingKind a_waitingToken a_present a_cells a_leftTop a_leftBottom a_rightTop a_rightBottom a_top a_bottom a_product a_quotient a_common a_spare a_rest a_divisor a_inverse a_numerator a_factorDegrees a_factorPowers a_factorCells := by
    intro d
    induction d with
    | zero =>
      intro j x2 a_leftTop a_leftBottom a_rightTop a_rightBottom a_top a_bottom a_product a_quotient a_common a_spare a_rest a_divisor a_inverse a_numerator hj
      exact br_t (nI_le (a := 8) (by omega) (by omega)) (p70 _ _ _ _ _ _ _ _ _ _ _ _ _ _ _)
    | succ d ih =>
      intro j x2 a_leftTop a_leftBottom a_rightTop a_rightBottom a_top a_bottom a_product a_quotient a_common a_spare a_rest a_divisor a_inverse a_numerator hj
      exact br_f (nI_ge (b := 8) (by omega) (by omega)) (xl_copy__rest_spare (fun a_spare => xl_divide__spare_divisor_quotient (fun a_spare a_quotient => xl_degreeOf__spare (fun _ _ => br_c (fun _ => xl_copy__quotient_rest (fun a_rest => nm_e (nm_r (nI_1 j) (ih (j + 1) _ _ _ _ _ _ _ _ _ _ _ _ _ _ _ (by omega))))) (fun _ => p70 _ _ _ _ _ _ _ _ _ _ _ _ _ _ _)))))
  exact ⟨9, key 8 0 0 _ _ _ _ _ _ _ _ _ _ _ _ _ _ rfl⟩
theorem xl_setMonic {post : SX → Prop} {y z : Int32} (d : Nat) (hd : d < 17) (h : ∀ a_divisor : Nat → Int32, post (f_tokenCount, f_latestPlace, f_stepCount, f_waitingCount, f_stackCount, f_factorCount, a_tokenKind, a_tokenContent, a_stepKind, a_stepToken, a_waitingKind, a_waitingToken, a_present, a_cells, a_leftTop, a_leftBottom, a_rightTop, a_rightBottom, a_top, a_bottom, a_product, a_quotient, a_common, a_spare, a_rest, a_divisor, a_inverse, a_numerator, a_factorDegrees, a_factorPowers, a_factorCells)) (ey : y = nI d := by rfl) : wpX_setMonic__divisor post (f_tokenCount, f_latestPlace, f_stepCount, f_waitingCount, f_stackCount, f_factorCount, a_tokenKind, a_tokenContent, a_stepKind, a_stepToken, a_waitingKind, a_waitingToken, a_present, a_cells, a_leftTop, a_leftBottom, a_rightTop, a_rightBottom, a_top, a_bottom, a_product, a_quotient, a_common, a_spare, a_rest, a_divisor, a_inverse, a_numerator, a_factorDegrees, a_factorPowers, a_factorCells) y z := by
  subst ey
  have key : ∀ m j, ∀ (x3 : Int32) (a_divisor : Nat → Int32), j + m = d → wX_setMonic__divisor_10 post (nI d) f_tokenCount f_latestPlace f_stepCount f_waitingCount f_stackCount f_factorCount (m + 1) x3 (nI j) a_tokenKind a_tokenContent a_stepKind a_stepToken a_waitingKind a_waitingToken a_present a_cells a_leftTop a_leftBottom a_rightTop a_rightBottom a_top a_bottom a_product a_quotient a_common a_spare a_rest a_divisor a_inverse a_numerator a_factorDegrees a_factorPowers a_factorCells := by
    intro m
    induction m with
    | zero =>
      intro j x3 a_divisor hj
      exact br_t (nI_le (by omega) (by omega)) ⟨vp_in_nI hd (by omega), nm_e (h _)⟩
    | succ m ih =>
      intro j x3 a_divisor hj
      exact br_f (nI_ge (by omega) (by omega)) ⟨by decide, vp_in_nI (by omega) (by omega), nm_e ⟨by decide, nm_e (nm_r (nI_1 j) (ih (j + 1) _ _ (by omega)))⟩⟩
  unfold wpX_setMonic__divisor
  exact xl_setNumber__divisor (fun a_divisor => ⟨d + 1, key d 0 _ _ (by omega)⟩)
theorem xl_split {post : SX → Prop} {p0 p1 : Int32} (hp : p1 = 0 ∨ p1 = 1) (h : ∀ (fc : Nat) (a_factorDegrees a_factorPowers a_factorCells : Nat → Int32), ∀ a_leftTop a_leftBottom a_rightTop a_rightBottom a_top a_bottom a_product a_quotient a_common a_spare a_rest a_divisor a_inverse a_numerator : Nat → Int32, fc ≤ 8 → post (f_tokenCount, f_latestPlace, f_stepCount, f_waitingCount, f_stackCount, nI fc, a_tokenKind, a_tokenContent, a_stepKind, a_stepToken, a_waitingKind, a_waitingToken, a_present, a_cells, a_leftTop, a_leftBottom, a_rightTop, a_rightBottom, a_top, a_bottom, a_product, a_quotient, a_common, a_spare, a_rest, a_divisor, a_inverse, a_numerator, a_factorDegrees, a_factorPowers, a_factorCells)) : wpX_split post (f_tokenCount, f_latestPlace, f_stepCount, f_waitingCount, f_stackCount, f_factorCount, a_tokenKind, a_tokenContent, a_stepKind, a_stepToken, a_waitingKind, a_waitingToken, a_present, a_cells, a_leftTop, a_leftBottom, a_rightTop, a_rightBottom, a_top, a_bottom, a_product, a_quotient, a_common, a_spare, a_rest, a_divisor, a_inverse, a_numerator, a_factorDegrees, a_factorPowers, a_factorCells) p0 p1 := by
  have s69 : ∀ (J : Int32 → Int32 → Int32 → Int32 → Int32 → Int32 → Int32 → Int32 → (Nat → Int32) → (Nat → Int32) → (Nat → Int32) → (Nat → Int32) → (Nat → Int32) → (Nat → Int32) → (Nat → Int32) → (Nat → Int32) → (Nat → Int32) → (Nat → Int32) → (Nat → Int32) → (Nat → Int32) → (Nat → Int32) → (Nat → Int32) → (Nat → Int32) → (Nat → Int32) → (Nat → Int32) → (Nat → Int32) → (Nat → Int32) → (Nat → Int32) → (Nat → Int32) → (Nat → Int32) → (Nat → Int32) → (Nat → Int32) → (Nat → Int32) → Prop) (q d : Nat), q < 2 ^ 31 → d ≤ 4 →
      (∀ (fc : Nat) (a_factorDegrees a_factorPowers a_factorCells : Nat → Int32), ∀ a_leftTop a_leftBottom a_rightTop a_rightBottom a_top a_bottom a_product a_quotient a_common a_spare a_rest a_divisor a_inverse a_numerator : Nat → Int32, fc ≤ 8 → J (nI q) (nI (d + 1)) f_tokenCount f_latestPlace f_stepCount f_waitingCount f_stackCount (nI fc) a_tokenKind a_tokenContent a_stepKind a_stepToken a_waitingKind a_waitingToken a_present a_cells a_leftTop a_leftBottom a_rightTop a_rightBottom a_top a_bottom a_product a_quotient a_common a_spare a_rest a_divisor a_inverse a_numerator a_factorDegrees a_factorPowers a_factorCells) →
      ∀ k t, ∀ (fc : Nat) (a_factorDegrees a_factorPowers a_factorCells : Nat → Int32), ∀ a_leftTop a_leftBottom a_rightTop a_rightBottom a_top a_bottom a_product a_quotient a_common a_spare a_rest a_divisor a_inverse a_numerator : Nat → Int32, t + k = q → fc ≤ 8 → wX_split_69 post J (nI q) (nI d) (k + 1) (nI t) f_tokenCount f_latestPlace f_stepCount f_waitingCount f_stackCount (nI fc) a_tokenKind a_tokenContent a_stepKind a_stepToken a_waitingKind a_waitingToken a_present a_cells a_leftTop a_leftBottom a_rightTop a_rightBottom a_top a_bottom a_product a_quotient a_common a_spare a_rest a_divisor a_inverse a_numerator a_factorDegrees a_factorPowers a_factorCells := by
    intro J q d hq hd hJ k
    induction k with
    | zero =>
      intro t fc a_factorDegrees a_factorPowers a_factorCells a_leftTop a_leftBottom a_rightTop a_rightBottom a_top a_bottom a_product a_quotient a_common a_spare a_rest a_divisor a_inverse a_numerator ht hf
      exact br_t (nI_le (by omega) (by omega)) (nm_r (nI_1 d) (hJ fc _ _ _ _ _ _ _ _ _ _ _ _ _ _ _ _ _ hf))
    | succ k ih =>
      intro t fc a_factorDegrees a_factorPowers a_factorCells a_leftTop a_leftBottom a_rightTop a_rightBottom a_top a_bottom a_product a_quotient a_common a_spare a_rest a_divisor a_inverse a_numerator ht hf
      exact br_f (nI_ge (by omega) (by omega)) (xl_degreeOf__rest (fun _ _ => br_c (fun _ => xl_setMonic d (by omega) (fun a_divisor => xl_takeOut fc hf (fun fc' a_factorDegrees a_factorPowers a_factorCells a_leftTop a_leftBottom a_rightTop a_rightBottom a_top a_bottom a_product a_quotient a_common a_spare a_rest a_divisor a_inverse a_numerator hf' => nm_r (nI_1 t) (ih (t + 1) fc' _ _ _ _ _ _ _ _ _ _ _ _ _ _ _ _ _ (by omega) hf')))) (fun _ => nm_r (nI_1 d) (hJ fc _ _ _ _ _ _ _ _ _ _ _ _ _ _ _ _ _ hf))))
  have s54 : ∀ k d q, ∀ (fc : Nat) (a_factorDegrees a_factorPowers a_factorCells : Nat → Int32), ∀ a_leftTop a_leftBottom a_rightTop a_rightBottom a_top a_bottom a_product a_quotient a_common a_spare a_rest a_divisor a_inverse a_numerator : Nat → Int32, d + k = 5 → q * 5 ^ k < 2 ^ 31 → fc ≤ 8 → wX_split_54 post (k + 1) (nI q) (nI d) f_tokenCount f_latestPlace f_stepCount f_waitingCount f_stackCount (nI fc) a_tokenKind a_tokenContent a_stepKind a_stepToken a_waitingKind a_waitingToken a_present a_cells a_leftTop a_leftBottom a_rightTop a_rightBottom a_top a_bottom a_product a_quotient a_common a_spare a_rest a_divisor a_inverse a_numerator a_factorDegrees a_factorPowers a_factorCells := by
    intro k
    induction k with
    | zero =>
      intro d q fc a_factorDegrees a_factorPowers a_factorCells a_leftTop a_leftBottom a_rightTop a_rightBottom a_top a_bottom a_product a_quotient a_common a_spare a_rest a_divisor a_inverse a_numerator hd hq hf
      obtain rfl : d = 5 := by omega
      exact br_t (by decide) (xl_degreeOf__rest (fun _ _ => br_c (fun _ => h fc _ _ _ _ _ _ _ _ _ _ _ _ _ _ _ _ _ hf) (fun _ => xl_addFactor__rest fc hf (fun fc' a_factorDegrees a_factorPowers a_factorCells hf' => h fc' _ _ _ _ _ _ _ _ _ _ _ _ _ _ _ _ _ hf'))))
    | succ k ih =>
      intro d q fc a_factorDegrees a_factorPowers a_factorCells a_leftTop a_leftBottom a_rightTop a_rightBottom a_top a_bottom a_product a_quotient a_common a_spare a_rest a_divisor a_inverse a_numerator hd hq hf
      have e5 : nI q * 5 = nI (q * 5) := pk_mul q 5
      have hq5 : q * 5 * 5 ^ k < 2 ^ 31 := by rw [Nat.pow_succ, Nat.mul_comm (5 ^ k) 5, ← Nat.mul_assoc] at hq; exact hq
      have h1 : 1 ≤ 5 ^ k := Nat.one_le_pow _ _ (by decide)
      have hq6 : q * 5 < 2 ^ 31 := Nat.lt_of_le_of_lt (Nat.le_mul_of_pos_right _ h1) hq5
      exact br_f (nI_nlt (a := 4) (b := d) (by omega) (by omega)) (nm_r e5 ⟨q * 5 + 1, s69 _ (q * 5) d hq6 (by omega) (fun fc' a_factorDegrees a_factorPowers a_factorCells a_leftTop a_leftBottom a_rightTop a_rightBottom a_top a_bottom a_product a_quotient a_common a_spare a_rest a_divisor a_inverse a_numerator hf' => ih (d + 1) (q * 5) fc' _ _ _ _ _ _ _ _ _ _ _ _ _ _ _ _ _ (by omega) hq5 hf') (q * 5) 0 fc _ _ _ _ _ _ _ _ _ _ _ _ _ _ _ _ _ (by omega) hf⟩)
  unfold wpX_split
  refine xl_load__rest hp (fun a_rest => xl_degreeOf__rest (fun r hr => ?_))
  rcases hr with e | ⟨k, hk, e⟩
  · subst e
    exact br_f (by decide) (h 0 _ _ _ _ _ _ _ _ _ _ _ _ _ _ _ _ _ (by omega))
  · subst e
    exact br_t (nI_pos' (by omega)) ⟨vp_in_nI (by omega) (by omega), by decide, xl_multiplyByNumber__rest (fun a_rest => ⟨5, s54 4 1 1 0 _ _ _ _ _ _ _ _ _ _ _ _ _ _ _ _ _ (by omega) (by decide) (by omega)⟩)⟩
theorem xl_hasFactor {post : Int32 → SX → Prop} {a b c : Int32} (h0 : ∀ (f_factorCount : Int32) (a_factorDegrees a_factorPowers a_factorCells : Nat → Int32), ∀ a_leftTop a_leftBottom a_rightTop a_rightBottom a_top a_bottom a_product a_quotient a_common a_spare a_rest a_divisor a_inverse a_numerator : Nat → Int32, post 0 (f_tokenCount, f_latestPlace, f_stepCount, f_waitingCount, f_stackCount, f_factorCount, a_tokenKind, a_tokenContent, a_stepKind, a_stepToken, a_waitingKind, a_waitingToken, a_present, a_cells, a_leftTop, a_leftBottom, a_rightTop, a_rightBottom, a_top, a_bottom, a_product, a_quotient, a_common, a_spare, a_rest, a_divisor, a_inverse, a_numerator, a_factorDegrees, a_factorPowers, a_factorCells)) (h1 : ∀ (i fc : Nat) (a_factorDegrees a_factorPowers a_factorCells : Nat → Int32), ∀ a_leftTop a_leftBottom a_rightTop a_rightBottom a_top a_bottom a_product a_quotient a_common a_spare a_rest a_divisor a_inverse a_numerator : Nat → Int32, i < fc → fc ≤ 8 → c = nI i → post 1 (f_tokenCount, f_latestPlace, f_stepCount, f_waitingCount, f_stackCount, nI fc, a_tokenKind, a_tokenContent, a_stepKind, a_stepToken, a_waitingKind, a_waitingToken, a_present, a_cells, a_leftTop, a_leftBottom, a_rightTop, a_rightBottom, a_top, a_bottom, a_product, a_quotient, a_common, a_spare, a_rest, a_divisor, a_inverse, a_numerator, a_factorDegrees, a_factorPowers, a_factorCells)) : wpX_hasFactor post (f_tokenCount, f_latestPlace, f_stepCount, f_waitingCount, f_stackCount, f_factorCount, a_tokenKind, a_tokenContent, a_stepKind, a_stepToken, a_waitingKind, a_waitingToken, a_present, a_cells, a_leftTop, a_leftBottom, a_rightTop, a_rightBottom, a_top, a_bottom, a_product, a_quotient, a_common, a_spare, a_rest, a_divisor, a_inverse, a_numerator, a_factorDegrees, a_factorPowers, a_factorCells) a b c := by
  unfold wpX_hasFactor
  refine xl_hasPart (br_t rfl (h0 _ _ _ _ _ _ _ _ _ _ _ _ _ _ _ _ _ _)) (fun _ _ _ hb => br_f (by decide) (xl_split hb (fun fc a_factorDegrees a_factorPowers a_factorCells a_leftTop a_leftBottom a_rightTop a_rightBottom a_top a_bottom a_product a_quotient a_common a_spare a_rest a_divisor a_inverse a_numerator hf => ?_)))
  by_cases c0 : c < 0
  · exact br_t c0 (h0 _ _ _ _ _ _ _ _ _ _ _ _ _ _ _ _ _ _)
  · obtain ⟨i, hi, rfl⟩ := nI_of c0
    by_cases c1 : i < fc
    · exact br_f c0 (br_f (nI_ge c1 (by omega)) (h1 i fc _ _ _ _ _ _ _ _ _ _ _ _ _ _ _ _ _ c1 hf rfl))
    · exact br_f c0 (br_t (nI_le (by omega) hi) (h0 _ _ _ _ _ _ _ _ _ _ _ _ _ _ _ _ _ _))
end
end
section
/-! The class's questions end: every answer, with the tokens' count as it was -/
section
variable {f_tokenCount f_latestPlace f_stepCount f_waitingCount f_stackCount f_factorCount : Int32} {a_tokenKind a_tokenContent a_stepKind a_stepToken a_waitingKind a_waitingToken a_present a_cells a_leftTop a_leftBottom a_rightTop a_rightBottom a_top a_bottom a_product a_quotient a_common a_spare a_rest a_divisor a_inverse a_numerator a_factorDegrees a_factorPowers a_factorCells : Nat → Int32}
theorem xl_degree {post : Int32 → SX → Prop} {a b : Int32} (h : ∀ r : Int32, ∀ a_leftTop a_leftBottom a_rightTop a_rightBottom a_top a_bottom a_product a_quotient a_common a_spare a_rest a_divisor a_inverse a_numerator : Nat → Int32, post r (f_tokenCount, f_latestPlace, f_stepCount, f_waitingCount, f_stackCount, f_factorCount, a_tokenKind, a_tokenContent, a_stepKind, a_stepToken, a_waitingKind, a_waitingToken, a_present, a_cells, a_leftTop, a_leftBottom, a_rightTop, a_rightBottom, a_top, a_bottom, a_product, a_quotient, a_common, a_spare, a_rest, a_divisor, a_inverse, a_numerator, a_factorDegrees, a_factorPowers, a_factorCells)) : wpX_degree post (f_tokenCount, f_latestPlace, f_stepCount, f_waitingCount, f_stackCount, f_factorCount, a_tokenKind, a_tokenContent, a_stepKind, a_stepToken, a_waitingKind, a_waitingToken, a_present, a_cells, a_leftTop, a_leftBottom, a_rightTop, a_rightBottom, a_top, a_bottom, a_product, a_quotient, a_common, a_spare, a_rest, a_divisor, a_inverse, a_numerator, a_factorDegrees, a_factorPowers, a_factorCells) a b := by
  unfold wpX_degree
  exact xl_hasPart (br_t rfl (h _ _ _ _ _ _ _ _ _ _ _ _ _ _ _)) (fun _ _ _ hb => br_f (by decide) (xl_load__rest hb (fun a_rest => xl_degreeOf__rest (fun r _ => h r _ _ _ _ _ _ _ _ _ _ _ _ _ _))))
theorem xl_i8 {x : Int32} (c0 : ¬ x < 0) (c8 : x ≤ 8) : vp_in x 17 := by
  obtain ⟨k, hk, rfl⟩ := nI_of c0
  have := (nI_leI (b := 8) hk (by decide)).mp c8
  exact vp_in_nI (by omega) (by omega)
theorem xl_number {post : Int32 → SX → Prop} {a b c : Int32} (h : ∀ r : Int32, ∀ a_leftTop a_leftBottom a_rightTop a_rightBottom a_top a_bottom a_product a_quotient a_common a_spare a_rest a_divisor a_inverse a_numerator : Nat → Int32, post r (f_tokenCount, f_latestPlace, f_stepCount, f_waitingCount, f_stackCount, f_factorCount, a_tokenKind, a_tokenContent, a_stepKind, a_stepToken, a_waitingKind, a_waitingToken, a_present, a_cells, a_leftTop, a_leftBottom, a_rightTop, a_rightBottom, a_top, a_bottom, a_product, a_quotient, a_common, a_spare, a_rest, a_divisor, a_inverse, a_numerator, a_factorDegrees, a_factorPowers, a_factorCells)) : wpX_number post (f_tokenCount, f_latestPlace, f_stepCount, f_waitingCount, f_stackCount, f_factorCount, a_tokenKind, a_tokenContent, a_stepKind, a_stepToken, a_waitingKind, a_waitingToken, a_present, a_cells, a_leftTop, a_leftBottom, a_rightTop, a_rightBottom, a_top, a_bottom, a_product, a_quotient, a_common, a_spare, a_rest, a_divisor, a_inverse, a_numerator, a_factorDegrees, a_factorPowers, a_factorCells) a b c := by
  unfold wpX_number
  refine xl_hasPart (br_t rfl (h _ _ _ _ _ _ _ _ _ _ _ _ _ _ _)) (fun _ _ _ hb => br_f (by decide) ?_)
  by_cases c0 : c < 0
  · exact br_t c0 (h _ _ _ _ _ _ _ _ _ _ _ _ _ _ _)
  · by_cases c8 : c ≤ 8
    · exact br_f c0 (br_t c8 (xl_load__rest hb (fun a_rest => ⟨xl_i8 c0 c8, h _ _ _ _ _ _ _ _ _ _ _ _ _ _ _⟩)))
    · exact br_f c0 (br_f c8 (h _ _ _ _ _ _ _ _ _ _ _ _ _ _ _))
theorem xl_value {post : Int32 → SX → Prop} {a b : Int32} (h : ∀ r : Int32, ∀ a_leftTop a_leftBottom a_rightTop a_rightBottom a_top a_bottom a_product a_quotient a_common a_spare a_rest a_divisor a_inverse a_numerator : Nat → Int32, post r (f_tokenCount, f_latestPlace, f_stepCount, f_waitingCount, f_stackCount, f_factorCount, a_tokenKind, a_tokenContent, a_stepKind, a_stepToken, a_waitingKind, a_waitingToken, a_present, a_cells, a_leftTop, a_leftBottom, a_rightTop, a_rightBottom, a_top, a_bottom, a_product, a_quotient, a_common, a_spare, a_rest, a_divisor, a_inverse, a_numerator, a_factorDegrees, a_factorPowers, a_factorCells)) : wpX_value post (f_tokenCount, f_latestPlace, f_stepCount, f_waitingCount, f_stackCount, f_factorCount, a_tokenKind, a_tokenContent, a_stepKind, a_stepToken, a_waitingKind, a_waitingToken, a_present, a_cells, a_leftTop, a_leftBottom, a_rightTop, a_rightBottom, a_top, a_bottom, a_product, a_quotient, a_common, a_spare, a_rest, a_divisor, a_inverse, a_numerator, a_factorDegrees, a_factorPowers, a_factorCells) a b := by
  unfold wpX_value
  exact xl_hasPart (br_t rfl (h _ _ _ _ _ _ _ _ _ _ _ _ _ _ _)) (fun _ _ _ _ => br_f (by decide) (xl_load__leftTop (Or.inl rfl) (fun a_leftTop => xl_load__leftBottom (Or.inr rfl) (fun a_leftBottom => xl_modulo (fun _ => xl_valueAt__leftBottom (fun _ => br_c (fun _ => h _ _ _ _ _ _ _ _ _ _ _ _ _ _ _) (fun _ => xl_valueAt__leftTop (fun _ => ⟨by decide, by decide, h _ _ _ _ _ _ _ _ _ _ _ _ _ _ _⟩))))))))
theorem xl_isZero {post : Int32 → SX → Prop} {a : Int32} (h : ∀ r : Int32, ∀ a_leftTop a_leftBottom a_rightTop a_rightBottom a_top a_bottom a_product a_quotient a_common a_spare a_rest a_divisor a_inverse a_numerator : Nat → Int32, post r (f_tokenCount, f_latestPlace, f_stepCount, f_waitingCount, f_stackCount, f_factorCount, a_tokenKind, a_tokenContent, a_stepKind, a_stepToken, a_waitingKind, a_waitingToken, a_present, a_cells, a_leftTop, a_leftBottom, a_rightTop, a_rightBottom, a_top, a_bottom, a_product, a_quotient, a_common, a_spare, a_rest, a_divisor, a_inverse, a_numerator, a_factorDegrees, a_factorPowers, a_factorCells)) : wpX_isZero post (f_tokenCount, f_latestPlace, f_stepCount, f_waitingCount, f_stackCount, f_factorCount, a_tokenKind, a_tokenContent, a_stepKind, a_stepToken, a_waitingKind, a_waitingToken, a_present, a_cells, a_leftTop, a_leftBottom, a_rightTop, a_rightBottom, a_top, a_bottom, a_product, a_quotient, a_common, a_spare, a_rest, a_divisor, a_inverse, a_numerator, a_factorDegrees, a_factorPowers, a_factorCells) a := by
  unfold wpX_isZero
  exact xl_load__rest (Or.inl rfl) (fun a_rest => xl_degreeOf__rest (fun _ _ => br_c (fun _ => h _ _ _ _ _ _ _ _ _ _ _ _ _ _ _) (fun _ => h _ _ _ _ _ _ _ _ _ _ _ _ _ _ _)))
theorem xl_factors {post : Int32 → SX → Prop} {a b : Int32} (h : ∀ (r f_factorCount : Int32) (a_factorDegrees a_factorPowers a_factorCells : Nat → Int32), ∀ a_leftTop a_leftBottom a_rightTop a_rightBottom a_top a_bottom a_product a_quotient a_common a_spare a_rest a_divisor a_inverse a_numerator : Nat → Int32, post r (f_tokenCount, f_latestPlace, f_stepCount, f_waitingCount, f_stackCount, f_factorCount, a_tokenKind, a_tokenContent, a_stepKind, a_stepToken, a_waitingKind, a_waitingToken, a_present, a_cells, a_leftTop, a_leftBottom, a_rightTop, a_rightBottom, a_top, a_bottom, a_product, a_quotient, a_common, a_spare, a_rest, a_divisor, a_inverse, a_numerator, a_factorDegrees, a_factorPowers, a_factorCells)) : wpX_factors post (f_tokenCount, f_latestPlace, f_stepCount, f_waitingCount, f_stackCount, f_factorCount, a_tokenKind, a_tokenContent, a_stepKind, a_stepToken, a_waitingKind, a_waitingToken, a_present, a_cells, a_leftTop, a_leftBottom, a_rightTop, a_rightBottom, a_top, a_bottom, a_product, a_quotient, a_common, a_spare, a_rest, a_divisor, a_inverse, a_numerator, a_factorDegrees, a_factorPowers, a_factorCells) a b := by
  unfold wpX_factors
  exact xl_hasPart (br_t rfl (h _ _ _ _ _ _ _ _ _ _ _ _ _ _ _ _ _ _ _)) (fun _ _ _ hb => br_f (by decide) (xl_isZero (fun r a_leftTop a_leftBottom a_rightTop a_rightBottom a_top a_bottom a_product a_quotient a_common a_spare a_rest a_divisor a_inverse a_numerator => br_c (fun _ => xl_split hb (fun fc a_factorDegrees a_factorPowers a_factorCells a_leftTop a_leftBottom a_rightTop a_rightBottom a_top a_bottom a_product a_quotient a_common a_spare a_rest a_divisor a_inverse a_numerator _ => h _ _ _ _ _ _ _ _ _ _ _ _ _ _ _ _ _ _ _)) (fun _ => h _ _ _ _ _ _ _ _ _ _ _ _ _ _ _ _ _ _ _))))
theorem xl_factorDegree {post : Int32 → SX → Prop} {a b c : Int32} (h : ∀ (r f_factorCount : Int32) (a_factorDegrees a_factorPowers a_factorCells : Nat → Int32), ∀ a_leftTop a_leftBottom a_rightTop a_rightBottom a_top a_bottom a_product a_quotient a_common a_spare a_rest a_divisor a_inverse a_numerator : Nat → Int32, post r (f_tokenCount, f_latestPlace, f_stepCount, f_waitingCount, f_stackCount, f_factorCount, a_tokenKind, a_tokenContent, a_stepKind, a_stepToken, a_waitingKind, a_waitingToken, a_present, a_cells, a_leftTop, a_leftBottom, a_rightTop, a_rightBottom, a_top, a_bottom, a_product, a_quotient, a_common, a_spare, a_rest, a_divisor, a_inverse, a_numerator, a_factorDegrees, a_factorPowers, a_factorCells)) : wpX_factorDegree post (f_tokenCount, f_latestPlace, f_stepCount, f_waitingCount, f_stackCount, f_factorCount, a_tokenKind, a_tokenContent, a_stepKind, a_stepToken, a_waitingKind, a_waitingToken, a_present, a_cells, a_leftTop, a_leftBottom, a_rightTop, a_rightBottom, a_top, a_bottom, a_product, a_quotient, a_common, a_spare, a_rest, a_divisor, a_inverse, a_numerator, a_factorDegrees, a_factorPowers, a_factorCells) a b c := by
  unfold wpX_factorDegree
  refine xl_hasFactor (fun f_factorCount a_factorDegrees a_factorPowers a_factorCells a_leftTop a_leftBottom a_rightTop a_rightBottom a_top a_bottom a_product a_quotient a_common a_spare a_rest a_divisor a_inverse a_numerator => br_t rfl (h _ _ _ _ _ _ _ _ _ _ _ _ _ _ _ _ _ _ _)) (fun i fc a_factorDegrees a_factorPowers a_factorCells a_leftTop a_leftBottom a_rightTop a_rightBottom a_top a_bottom a_product a_quotient a_common a_spare a_rest a_divisor a_inverse a_numerator hi hf e => br_f (by decide) ⟨?_, h _ _ _ _ _ _ _ _ _ _ _ _ _ _ _ _ _ _ _⟩)
  subst e; exact vp_in_nI (by omega) (by omega)
theorem xl_power {post : Int32 → SX → Prop} {a b c : Int32} (h : ∀ (r f_factorCount : Int32) (a_factorDegrees a_factorPowers a_factorCells : Nat → Int32), ∀ a_leftTop a_leftBottom a_rightTop a_rightBottom a_top a_bottom a_product a_quotient a_common a_spare a_rest a_divisor a_inverse a_numerator : Nat → Int32, post r (f_tokenCount, f_latestPlace, f_stepCount, f_waitingCount, f_stackCount, f_factorCount, a_tokenKind, a_tokenContent, a_stepKind, a_stepToken, a_waitingKind, a_waitingToken, a_present, a_cells, a_leftTop, a_leftBottom, a_rightTop, a_rightBottom, a_top, a_bottom, a_product, a_quotient, a_common, a_spare, a_rest, a_divisor, a_inverse, a_numerator, a_factorDegrees, a_factorPowers, a_factorCells)) : wpX_power post (f_tokenCount, f_latestPlace, f_stepCount, f_waitingCount, f_stackCount, f_factorCount, a_tokenKind, a_tokenContent, a_stepKind, a_stepToken, a_waitingKind, a_waitingToken, a_present, a_cells, a_leftTop, a_leftBottom, a_rightTop, a_rightBottom, a_top, a_bottom, a_product, a_quotient, a_common, a_spare, a_rest, a_divisor, a_inverse, a_numerator, a_factorDegrees, a_factorPowers, a_factorCells) a b c := by
  unfold wpX_power
  refine xl_hasFactor (fun f_factorCount a_factorDegrees a_factorPowers a_factorCells a_leftTop a_leftBottom a_rightTop a_rightBottom a_top a_bottom a_product a_quotient a_common a_spare a_rest a_divisor a_inverse a_numerator => br_t rfl (h _ _ _ _ _ _ _ _ _ _ _ _ _ _ _ _ _ _ _)) (fun i fc a_factorDegrees a_factorPowers a_factorCells a_leftTop a_leftBottom a_rightTop a_rightBottom a_top a_bottom a_product a_quotient a_common a_spare a_rest a_divisor a_inverse a_numerator hi hf e => br_f (by decide) ⟨?_, h _ _ _ _ _ _ _ _ _ _ _ _ _ _ _ _ _ _ _⟩)
  subst e; exact vp_in_nI (by omega) (by omega)
theorem xl_factor {post : Int32 → SX → Prop} {a b c d : Int32} (h : ∀ (r f_factorCount : Int32) (a_factorDegrees a_factorPowers a_factorCells : Nat → Int32), ∀ a_leftTop a_leftBottom a_rightTop a_rightBottom a_top a_bottom a_product a_quotient a_common a_spare a_rest a_divisor a_inverse a_numerator : Nat → Int32, post r (f_tokenCount, f_latestPlace, f_stepCount, f_waitingCount, f_stackCount, f_factorCount, a_tokenKind, a_tokenContent, a_stepKind, a_stepToken, a_waitingKind, a_waitingToken, a_present, a_cells, a_leftTop, a_leftBottom, a_rightTop, a_rightBottom, a_top, a_bottom, a_product, a_quotient, a_common, a_spare, a_rest, a_divisor, a_inverse, a_numerator, a_factorDegrees, a_factorPowers, a_factorCells)) : wpX_factor post (f_tokenCount, f_latestPlace, f_stepCount, f_waitingCount, f_stackCount, f_factorCount, a_tokenKind, a_tokenContent, a_stepKind, a_stepToken, a_waitingKind, a_waitingToken, a_present, a_cells, a_leftTop, a_leftBottom, a_rightTop, a_rightBottom, a_top, a_bottom, a_product, a_quotient, a_common, a_spare, a_rest, a_divisor, a_inverse, a_numerator, a_factorDegrees, a_factorPowers, a_factorCells) a b c d := by
  unfold wpX_factor
  by_cases c0 : d < 0
  · exact br_t c0 (h _ _ _ _ _ _ _ _ _ _ _ _ _ _ _ _ _ _ _)
  · by_cases c8 : 8 < d
    · exact br_f c0 (br_t c8 (h _ _ _ _ _ _ _ _ _ _ _ _ _ _ _ _ _ _ _))
    · refine br_f c0 (br_f c8 (xl_hasFactor (fun f_factorCount a_factorDegrees a_factorPowers a_factorCells a_leftTop a_leftBottom a_rightTop a_rightBottom a_top a_bottom a_product a_quotient a_common a_spare a_rest a_divisor a_inverse a_numerator => br_t rfl (h _ _ _ _ _ _ _ _ _ _ _ _ _ _ _ _ _ _ _)) (fun i fc a_factorDegrees a_factorPowers a_factorCells a_leftTop a_leftBottom a_rightTop a_rightBottom a_top a_bottom a_product a_quotient a_common a_spare a_rest a_divisor a_inverse a_numerator hi hf e => br_f (by decide) ⟨?_, h _ _ _ _ _ _ _ _ _ _ _ _ _ _ _ _ _ _ _⟩)))
      subst e
      obtain ⟨k, hk, rfl⟩ := nI_of c0
      have hk8 : k ≤ 8 := (nI_leI (b := 8) hk (by decide)).mp (Int32.not_lt.mp c8)
      have e9 : nI i * 9 = nI (i * 9) := pk_mul i 9
      exact pk_in (i * 9 + k) 72 (by omega) (by rw [e9, nI_add])
theorem xl_loadProperPart {post : SX → Prop} {a : Int32} (h : ∀ a_leftTop a_leftBottom a_rightTop a_rightBottom a_top a_bottom a_product a_quotient a_common a_spare a_rest a_divisor a_inverse a_numerator : Nat → Int32, post (f_tokenCount, f_latestPlace, f_stepCount, f_waitingCount, f_stackCount, f_factorCount, a_tokenKind, a_tokenContent, a_stepKind, a_stepToken, a_waitingKind, a_waitingToken, a_present, a_cells, a_leftTop, a_leftBottom, a_rightTop, a_rightBottom, a_top, a_bottom, a_product, a_quotient, a_common, a_spare, a_rest, a_divisor, a_inverse, a_numerator, a_factorDegrees, a_factorPowers, a_factorCells)) : wpX_loadProperPart post (f_tokenCount, f_latestPlace, f_stepCount, f_waitingCount, f_stackCount, f_factorCount, a_tokenKind, a_tokenContent, a_stepKind, a_stepToken, a_waitingKind, a_waitingToken, a_present, a_cells, a_leftTop, a_leftBottom, a_rightTop, a_rightBottom, a_top, a_bottom, a_product, a_quotient, a_common, a_spare, a_rest, a_divisor, a_inverse, a_numerator, a_factorDegrees, a_factorPowers, a_factorCells) a := by
  unfold wpX_loadProperPart
  exact xl_load__leftTop (Or.inl rfl) (fun a_leftTop => xl_load__leftBottom (Or.inr rfl) (fun a_leftBottom => xl_degreeOf__leftBottom (fun _ _ => xl_divide__leftTop_leftBottom_quotient (fun a_leftTop a_quotient => h _ _ _ _ _ _ _ _ _ _ _ _ _ _))))
theorem xl_mm1 {post : SX → Prop} {x : Int32} (h : ∀ a_leftTop a_leftBottom a_rightTop a_rightBottom a_top a_bottom a_product a_quotient a_common a_spare a_rest a_divisor a_inverse a_numerator : Nat → Int32, post (f_tokenCount, f_latestPlace, f_stepCount, f_waitingCount, f_stackCount, f_factorCount, a_tokenKind, a_tokenContent, a_stepKind, a_stepToken, a_waitingKind, a_waitingToken, a_present, a_cells, a_leftTop, a_leftBottom, a_rightTop, a_rightBottom, a_top, a_bottom, a_product, a_quotient, a_common, a_spare, a_rest, a_divisor, a_inverse, a_numerator, a_factorDegrees, a_factorPowers, a_factorCells)) : wpX_multiplyModulo__spare_common post (f_tokenCount, f_latestPlace, f_stepCount, f_waitingCount, f_stackCount, f_factorCount, a_tokenKind, a_tokenContent, a_stepKind, a_stepToken, a_waitingKind, a_waitingToken, a_present, a_cells, a_leftTop, a_leftBottom, a_rightTop, a_rightBottom, a_top, a_bottom, a_product, a_quotient, a_common, a_spare, a_rest, a_divisor, a_inverse, a_numerator, a_factorDegrees, a_factorPowers, a_factorCells) x := by
  unfold wpX_multiplyModulo__spare_common
  exact xl_multiply__spare_common_product (fun a_product => xl_divide__product_divisor_quotient (fun a_product a_quotient => xl_copy__product_spare (fun a_spare => h _ _ _ _ _ _ _ _ _ _ _ _ _ _)))
theorem xl_mm2 {post : SX → Prop} {x : Int32} (h : ∀ a_leftTop a_leftBottom a_rightTop a_rightBottom a_top a_bottom a_product a_quotient a_common a_spare a_rest a_divisor a_inverse a_numerator : Nat → Int32, post (f_tokenCount, f_latestPlace, f_stepCount, f_waitingCount, f_stackCount, f_factorCount, a_tokenKind, a_tokenContent, a_stepKind, a_stepToken, a_waitingKind, a_waitingToken, a_present, a_cells, a_leftTop, a_leftBottom, a_rightTop, a_rightBottom, a_top, a_bottom, a_product, a_quotient, a_common, a_spare, a_rest, a_divisor, a_inverse, a_numerator, a_factorDegrees, a_factorPowers, a_factorCells)) : wpX_multiplyModulo__inverse_spare post (f_tokenCount, f_latestPlace, f_stepCount, f_waitingCount, f_stackCount, f_factorCount, a_tokenKind, a_tokenContent, a_stepKind, a_stepToken, a_waitingKind, a_waitingToken, a_present, a_cells, a_leftTop, a_leftBottom, a_rightTop, a_rightBottom, a_top, a_bottom, a_product, a_quotient, a_common, a_spare, a_rest, a_divisor, a_inverse, a_numerator, a_factorDegrees, a_factorPowers, a_factorCells) x := by
  unfold wpX_multiplyModulo__inverse_spare
  exact xl_multiply__inverse_spare_product (fun a_product => xl_divide__product_divisor_quotient (fun a_product a_quotient => xl_copy__product_inverse (fun a_inverse => h _ _ _ _ _ _ _ _ _ _ _ _ _ _)))
theorem xl_mm3 {post : SX → Prop} {x : Int32} (h : ∀ a_leftTop a_leftBottom a_rightTop a_rightBottom a_top a_bottom a_product a_quotient a_common a_spare a_rest a_divisor a_inverse a_numerator : Nat → Int32, post (f_tokenCount, f_latestPlace, f_stepCount, f_waitingCount, f_stackCount, f_factorCount, a_tokenKind, a_tokenContent, a_stepKind, a_stepToken, a_waitingKind, a_waitingToken, a_present, a_cells, a_leftTop, a_leftBottom, a_rightTop, a_rightBottom, a_top, a_bottom, a_product, a_quotient, a_common, a_spare, a_rest, a_divisor, a_inverse, a_numerator, a_factorDegrees, a_factorPowers, a_factorCells)) : wpX_multiplyModulo__numerator_inverse post (f_tokenCount, f_latestPlace, f_stepCount, f_waitingCount, f_stackCount, f_factorCount, a_tokenKind, a_tokenContent, a_stepKind, a_stepToken, a_waitingKind, a_waitingToken, a_present, a_cells, a_leftTop, a_leftBottom, a_rightTop, a_rightBottom, a_top, a_bottom, a_product, a_quotient, a_common, a_spare, a_rest, a_divisor, a_inverse, a_numerator, a_factorDegrees, a_factorPowers, a_factorCells) x := by
  unfold wpX_multiplyModulo__numerator_inverse
  exact xl_multiply__numerator_inverse_product (fun a_product => xl_divide__product_divisor_quotient (fun a_product a_quotient => xl_copy__product_numerator (fun a_numerator => h _ _ _ _ _ _ _ _ _ _ _ _ _ _)))
theorem xl_findInverse {post : SX → Prop} {x : Int32} (h : ∀ a_leftTop a_leftBottom a_rightTop a_rightBottom a_top a_bottom a_product a_quotient a_common a_spare a_rest a_divisor a_inverse a_numerator : Nat → Int32, post (f_tokenCount, f_latestPlace, f_stepCount, f_waitingCount, f_stackCount, f_factorCount, a_tokenKind, a_tokenContent, a_stepKind, a_stepToken, a_waitingKind, a_waitingToken, a_present, a_cells, a_leftTop, a_leftBottom, a_rightTop, a_rightBottom, a_top, a_bottom, a_product, a_quotient, a_common, a_spare, a_rest, a_divisor, a_inverse, a_numerator, a_factorDegrees, a_factorPowers, a_factorCells)) : wpX_findInverse post (f_tokenCount, f_latestPlace, f_stepCount, f_waitingCount, f_stackCount, f_factorCount, a_tokenKind, a_tokenContent, a_stepKind, a_stepToken, a_waitingKind, a_waitingToken, a_present, a_cells, a_leftTop, a_leftBottom, a_rightTop, a_rightBottom, a_top, a_bottom, a_product, a_quotient, a_common, a_spare, a_rest, a_divisor, a_inverse, a_numerator, a_factorDegrees, a_factorPowers, a_factorCells) x := by
  have l43 : ∀ x2 : Int32, ∀ d j, j + d = 19 → ∀ a_leftTop a_leftBottom a_rightTop a_rightBottom a_top a_bottom a_product a_quotient a_common a_spare a_rest a_divisor a_inverse a_numerator : Nat → Int32, wX_findInverse_43 post x x2 (d + 1) (nI j) f_tokenCount f_latestPlace f_stepCount f_waitingCount f_stackCount f_factorCount a_tokenKind a_tokenContent a_stepKind a_stepToken a_waitingKind a_waitingToken a_present a_cells a_leftTop a_leftBottom a_rightTop a_rightBottom a_top a_bottom a_product a_quotient a_common a_spare a_rest a_divisor a_inverse a_numerator a_factorDegrees a_factorPowers a_factorCells := by
    intro x2 d
    induction d with
    | zero =>
      intro j hj a_leftTop a_leftBottom a_rightTop a_rightBottom a_top a_bottom a_product a_quotient a_common a_spare a_rest a_divisor a_inverse a_numerator
      exact br_t (nI_le (a := 19) (by omega) (by omega)) (h _ _ _ _ _ _ _ _ _ _ _ _ _ _)
    | succ d ih =>
      intro j hj a_leftTop a_leftBottom a_rightTop a_rightBottom a_top a_bottom a_product a_quotient a_common a_spare a_rest a_divisor a_inverse a_numerator
      have p71 : ∀ a_leftTop a_leftBottom a_rightTop a_rightBottom a_top a_bottom a_product a_quotient a_common a_spare a_rest a_divisor a_inverse a_numerator : Nat → Int32, wX_findInverse_71 post (wX_findInverse_43 post x x2 (d + 1)) x x2 (nI j) f_tokenCount f_latestPlace f_stepCount f_waitingCount f_stackCount f_factorCount a_tokenKind a_tokenContent a_stepKind a_stepToken a_waitingKind a_waitingToken a_present a_cells a_leftTop a_leftBottom a_rightTop a_rightBottom a_top a_bottom a_product a_quotient a_common a_spare a_rest a_divisor a_inverse a_numerator a_factorDegrees a_factorPowers a_factorCells := fun a_leftTop a_leftBottom a_rightTop a_rightBottom a_top a_bottom a_product a_quotient a_common a_spare a_rest a_divisor a_inverse a_numerator =>
        xl_copy__spare_common (fun a_common => xl_mm1 (fun a_leftTop a_leftBottom a_rightTop a_rightBottom a_top a_bottom a_product a_quotient a_common a_spare a_rest a_divisor a_inverse a_numerator => nm_r (nI_1 j) (ih (j + 1) (by omega) _ _ _ _ _ _ _ _ _ _ _ _ _ _)))
      exact br_f (nI_ge (b := 19) (by omega) (by omega)) (br_c (fun _ => xl_mm2 (fun a_leftTop a_leftBottom a_rightTop a_rightBottom a_top a_bottom a_product a_quotient a_common a_spare a_rest a_divisor a_inverse a_numerator => p71 _ _ _ _ _ _ _ _ _ _ _ _ _ _)) (fun _ => p71 _ _ _ _ _ _ _ _ _ _ _ _ _ _))
  have fin : ∀ n (x2 x3 : Int32), x ≤ x3 → wX_findInverse_4 post x f_tokenCount f_latestPlace f_stepCount f_waitingCount f_stackCount f_factorCount a_tokenKind a_tokenContent a_stepKind a_stepToken a_waitingKind a_waitingToken a_present a_cells a_leftTop a_leftBottom a_rightTop a_rightBottom a_top a_bottom a_product a_quotient a_common a_spare a_rest a_divisor a_inverse a_numerator a_factorDegrees a_factorPowers a_factorCells (n + 1) x2 x3 := fun n x2 x3 c =>
    br_t c (nm_e (xl_setNumber__inverse (fun a_inverse => xl_copy__leftBottom_spare (fun a_spare => ⟨20, l43 _ 19 0 rfl _ _ _ _ _ _ _ _ _ _ _ _ _ _⟩))))
  by_cases c : x ≤ 0
  · exact ⟨1, fin 0 1 0 c⟩
  · have c2 : ¬ x < 0 := fun z => c (Int32.le_of_lt z)
    obtain ⟨q, hq, rfl⟩ := nI_of c2
    have loop : ∀ d k, ∀ x2 : Int32, k + d = q → wX_findInverse_4 post (nI q) f_tokenCount f_latestPlace f_stepCount f_waitingCount f_stackCount f_factorCount a_tokenKind a_tokenContent a_stepKind a_stepToken a_waitingKind a_waitingToken a_present a_cells a_leftTop a_leftBottom a_rightTop a_rightBottom a_top a_bottom a_product a_quotient a_common a_spare a_rest a_divisor a_inverse a_numerator a_factorDegrees a_factorPowers a_factorCells (d + 1) x2 (nI k) := by
      intro d
      induction d with
      | zero => intro k x2 hk; exact fin 0 _ _ (nI_le (by omega) (by omega))
      | succ d ih =>
        intro k x2 hk
        exact br_f (nI_ge (by omega) (by omega)) (nm_e (nm_r (nI_1 k) (ih (k + 1) _ (by omega))))
    exact ⟨q + 1, loop q 0 1 (by omega)⟩
theorem xl_loadFactor {post : SX → Prop} {x : Int32} (i : Nat) (hi : i < 8) (h : ∀ a_divisor : Nat → Int32, post (f_tokenCount, f_latestPlace, f_stepCount, f_waitingCount, f_stackCount, f_factorCount, a_tokenKind, a_tokenContent, a_stepKind, a_stepToken, a_waitingKind, a_waitingToken, a_present, a_cells, a_leftTop, a_leftBottom, a_rightTop, a_rightBottom, a_top, a_bottom, a_product, a_quotient, a_common, a_spare, a_rest, a_divisor, a_inverse, a_numerator, a_factorDegrees, a_factorPowers, a_factorCells)) (ex : x = nI i := by rfl) : wpX_loadFactor__divisor post (f_tokenCount, f_latestPlace, f_stepCount, f_waitingCount, f_stackCount, f_factorCount, a_tokenKind, a_tokenContent, a_stepKind, a_stepToken, a_waitingKind, a_waitingToken, a_present, a_cells, a_leftTop, a_leftBottom, a_rightTop, a_rightBottom, a_top, a_bottom, a_product, a_quotient, a_common, a_spare, a_rest, a_divisor, a_inverse, a_numerator, a_factorDegrees, a_factorPowers, a_factorCells) x := by
  subst ex
  have e9 : nI i * 9 = nI (i * 9) := pk_mul i 9
  have key : ∀ d j, ∀ a_divisor : Nat → Int32, j + d = 9 → wX_loadFactor__divisor_7 post (nI i) f_tokenCount f_latestPlace f_stepCount f_waitingCount f_stackCount f_factorCount (d + 1) (nI j) a_tokenKind a_tokenContent a_stepKind a_stepToken a_waitingKind a_waitingToken a_present a_cells a_leftTop a_leftBottom a_rightTop a_rightBottom a_top a_bottom a_product a_quotient a_common a_spare a_rest a_divisor a_inverse a_numerator a_factorDegrees a_factorPowers a_factorCells := by
    intro d
    induction d with
    | zero =>
      intro j a_divisor hj
      obtain rfl : j = 9 := by omega
      exact br_t (by decide) (h _)
    | succ d ih =>
      intro j a_divisor hj
      exact br_f (nI_ge (b := 9) (by omega) (by decide)) ⟨pk_in (i * 9 + j) 72 (by omega) (by rw [e9, nI_add]), vp_in_nI (by omega) (by omega), nm_e (nm_r (nI_1 j) (ih (j + 1) _ (by omega)))⟩
  unfold wpX_loadFactor__divisor
  exact xl_setNumber__divisor (fun a_divisor => ⟨10, key 9 0 _ rfl⟩)
theorem xl_findNumerator {post : SX → Prop} {x y : Int32} (i : Nat) (hi : i < 8) (hy : ¬ y < 1) (h : ∀ a_leftTop a_leftBottom a_rightTop a_rightBottom a_top a_bottom a_product a_quotient a_common a_spare a_rest a_divisor a_inverse a_numerator : Nat → Int32, post (f_tokenCount, f_latestPlace, f_stepCount, f_waitingCount, f_stackCount, f_factorCount, a_tokenKind, a_tokenContent, a_stepKind, a_stepToken, a_waitingKind, a_waitingToken, a_present, a_cells, a_leftTop, a_leftBottom, a_rightTop, a_rightBottom, a_top, a_bottom, a_product, a_quotient, a_common, a_spare, a_rest, a_divisor, a_inverse, a_numerator, a_factorDegrees, a_factorPowers, a_factorCells)) (ex : x = nI i := by rfl) : wpX_findNumerator post (f_tokenCount, f_latestPlace, f_stepCount, f_waitingCount, f_stackCount, f_factorCount, a_tokenKind, a_tokenContent, a_stepKind, a_stepToken, a_waitingKind, a_waitingToken, a_present, a_cells, a_leftTop, a_leftBottom, a_rightTop, a_rightBottom, a_top, a_bottom, a_product, a_quotient, a_common, a_spare, a_rest, a_divisor, a_inverse, a_numerator, a_factorDegrees, a_factorPowers, a_factorCells) x y := by
  subst ex
  have i8 : vp_in (nI i) 8 := vp_in_nI hi (by omega)
  have l76 : ∀ x3 : Int32, ∀ q, q < 2 ^ 31 → ∀ a_leftTop a_leftBottom a_rightTop a_rightBottom a_top a_bottom a_product a_quotient a_common a_spare a_rest a_divisor a_inverse a_numerator : Nat → Int32, wX_findNumerator_76 post y x3 (q + 1) (nI q) f_tokenCount f_latestPlace f_stepCount f_waitingCount f_stackCount f_factorCount a_tokenKind a_tokenContent a_stepKind a_stepToken a_waitingKind a_waitingToken a_present a_cells a_leftTop a_leftBottom a_rightTop a_rightBottom a_top a_bottom a_product a_quotient a_common a_spare a_rest a_divisor a_inverse a_numerator a_factorDegrees a_factorPowers a_factorCells := by
    intro x3 q
    induction q with
    | zero =>
      intro _ a_leftTop a_leftBottom a_rightTop a_rightBottom a_top a_bottom a_product a_quotient a_common a_spare a_rest a_divisor a_inverse a_numerator
      refine br_t ?_ (h _ _ _ _ _ _ _ _ _ _ _ _ _ _)
      rw [Int32.not_lt, Int32.le_iff_toInt_le] at hy
      rw [Int32.lt_iff_toInt_lt]
      have e1 : (1 : Int32).toInt = 1 := by decide
      have e2 : (nI 0).toInt = 0 := by decide
      rw [e1] at hy; rw [e2]; omega
    | succ q ih =>
      intro hq a_leftTop a_leftBottom a_rightTop a_rightBottom a_top a_bottom a_product a_quotient a_common a_spare a_rest a_divisor a_inverse a_numerator
      exact br_c (fun _ => h _ _ _ _ _ _ _ _ _ _ _ _ _ _) (fun _ => xl_copy__leftTop_numerator (fun a_numerator => xl_mm3 (fun a_leftTop a_leftBottom a_rightTop a_rightBottom a_top a_bottom a_product a_quotient a_common a_spare a_rest a_divisor a_inverse a_numerator => xl_multiply__numerator_leftBottom_product (fun a_product => xl_addMultiple__leftTop_product (fun a_leftTop => xl_divide__leftTop_divisor_quotient (fun a_leftTop a_quotient => xl_copy__quotient_leftTop (fun a_leftTop => nm_r (pk_m1 q) (ih (by omega) _ _ _ _ _ _ _ _ _ _ _ _ _ _))))))))
  have l76' : ∀ x3 z : Int32, ∀ a_leftTop a_leftBottom a_rightTop a_rightBottom a_top a_bottom a_product a_quotient a_common a_spare a_rest a_divisor a_inverse a_numerator : Nat → Int32, ∃ n, wX_findNumerator_76 post y x3 n z f_tokenCount f_latestPlace f_stepCount f_waitingCount f_stackCount f_factorCount a_tokenKind a_tokenContent a_stepKind a_stepToken a_waitingKind a_waitingToken a_present a_cells a_leftTop a_leftBottom a_rightTop a_rightBottom a_top a_bottom a_product a_quotient a_common a_spare a_rest a_divisor a_inverse a_numerator a_factorDegrees a_factorPowers a_factorCells := by
    intro x3 z a_leftTop a_leftBottom a_rightTop a_rightBottom a_top a_bottom a_product a_quotient a_common a_spare a_rest a_divisor a_inverse a_numerator
    by_cases c : z < 0
    · refine ⟨1, br_t ?_ (h _ _ _ _ _ _ _ _ _ _ _ _ _ _)⟩
      rw [Int32.not_lt, Int32.le_iff_toInt_le] at hy
      rw [Int32.lt_iff_toInt_lt] at c ⊢
      have e1 : (1 : Int32).toInt = 1 := by decide
      have e0 : (0 : Int32).toInt = 0 := by decide
      rw [e1] at hy; rw [e0] at c; omega
    · obtain ⟨q, hq, rfl⟩ := nI_of c
      exact ⟨q + 1, l76 x3 q hq _ _ _ _ _ _ _ _ _ _ _ _ _ _⟩
  have fin : ∀ n (x3 x4 : Int32), a_factorPowers (nI i).toNatClampNeg ≤ x4 → ∀ a_leftTop a_leftBottom a_rightTop a_rightBottom a_top a_bottom a_product a_quotient a_common a_spare a_rest a_divisor a_inverse a_numerator : Nat → Int32, wX_findNumerator_19 post (nI i) y x3 (n + 1) x4 f_tokenCount f_latestPlace f_stepCount f_waitingCount f_stackCount f_factorCount a_tokenKind a_tokenContent a_stepKind a_stepToken a_waitingKind a_waitingToken a_present a_cells a_leftTop a_leftBottom a_rightTop a_rightBottom a_top a_bottom a_product a_quotient a_common a_spare a_rest a_divisor a_inverse a_numerator a_factorDegrees a_factorPowers a_factorCells := fun n x3 x4 c a_leftTop a_leftBottom a_rightTop a_rightBottom a_top a_bottom a_product a_quotient a_common a_spare a_rest a_divisor a_inverse a_numerator =>
    ⟨i8, br_t c (xl_findInverse (fun a_leftTop a_leftBottom a_rightTop a_rightBottom a_top a_bottom a_product a_quotient a_common a_spare a_rest a_divisor a_inverse a_numerator => ⟨i8, nm_e (l76' _ _ _ _ _ _ _ _ _ _ _ _ _ _ _ _)⟩))⟩
  have l19 : ∀ x3 : Int32, ∀ a_leftTop a_leftBottom a_rightTop a_rightBottom a_top a_bottom a_product a_quotient a_common a_spare a_rest a_divisor a_inverse a_numerator : Nat → Int32, ∃ n, wX_findNumerator_19 post (nI i) y x3 n 0 f_tokenCount f_latestPlace f_stepCount f_waitingCount f_stackCount f_factorCount a_tokenKind a_tokenContent a_stepKind a_stepToken a_waitingKind a_waitingToken a_present a_cells a_leftTop a_leftBottom a_rightTop a_rightBottom a_top a_bottom a_product a_quotient a_common a_spare a_rest a_divisor a_inverse a_numerator a_factorDegrees a_factorPowers a_factorCells := by
    intro x3 a_leftTop a_leftBottom a_rightTop a_rightBottom a_top a_bottom a_product a_quotient a_common a_spare a_rest a_divisor a_inverse a_numerator
    by_cases c : a_factorPowers (nI i).toNatClampNeg ≤ 0
    · exact ⟨1, fin 0 x3 0 c _ _ _ _ _ _ _ _ _ _ _ _ _ _⟩
    · have c2 : ¬ a_factorPowers (nI i).toNatClampNeg < 0 := fun z => c (Int32.le_of_lt z)
      obtain ⟨q, hq, eq⟩ := nI_of c2
      have loop : ∀ d k, k + d = q → ∀ a_leftTop a_leftBottom a_rightTop a_rightBottom a_top a_bottom a_product a_quotient a_common a_spare a_rest a_divisor a_inverse a_numerator : Nat → Int32, wX_findNumerator_19 post (nI i) y x3 (d + 1) (nI k) f_tokenCount f_latestPlace f_stepCount f_waitingCount f_stackCount f_factorCount a_tokenKind a_tokenContent a_stepKind a_stepToken a_waitingKind a_waitingToken a_present a_cells a_leftTop a_leftBottom a_rightTop a_rightBottom a_top a_bottom a_product a_quotient a_common a_spare a_rest a_divisor a_inverse a_numerator a_factorDegrees a_factorPowers a_factorCells := by
        intro d
        induction d with
        | zero =>
          intro k hk a_leftTop a_leftBottom a_rightTop a_rightBottom a_top a_bottom a_product a_quotient a_common a_spare a_rest a_divisor a_inverse a_numerator
          exact fin 0 _ _ (by rw [eq]; exact nI_le (by omega) (by omega)) _ _ _ _ _ _ _ _ _ _ _ _ _ _
        | succ d ih =>
          intro k hk a_leftTop a_leftBottom a_rightTop a_rightBottom a_top a_bottom a_product a_quotient a_common a_spare a_rest a_divisor a_inverse a_numerator
          exact ⟨i8, br_f (by rw [eq]; exact nI_ge (by omega) (by omega)) (xl_divide__leftBottom_divisor_quotient (fun a_leftBottom a_quotient => xl_copy__quotient_leftBottom (fun a_leftBottom => nm_r (nI_1 k) (ih (k + 1) (by omega) _ _ _ _ _ _ _ _ _ _ _ _ _ _))))⟩
      exact ⟨q + 1, loop q 0 (by omega) _ _ _ _ _ _ _ _ _ _ _ _ _ _⟩
  unfold wpX_findNumerator
  exact ⟨i8, nm_e (xl_loadFactor i hi (fun a_divisor => l19 _ _ _ _ _ _ _ _ _ _ _ _ _ _ _))⟩
theorem xl_fraction {post : Int32 → SX → Prop} {a i j k : Int32} (h : ∀ (r f_factorCount : Int32) (a_factorDegrees a_factorPowers a_factorCells : Nat → Int32), ∀ a_leftTop a_leftBottom a_rightTop a_rightBottom a_top a_bottom a_product a_quotient a_common a_spare a_rest a_divisor a_inverse a_numerator : Nat → Int32, post r (f_tokenCount, f_latestPlace, f_stepCount, f_waitingCount, f_stackCount, f_factorCount, a_tokenKind, a_tokenContent, a_stepKind, a_stepToken, a_waitingKind, a_waitingToken, a_present, a_cells, a_leftTop, a_leftBottom, a_rightTop, a_rightBottom, a_top, a_bottom, a_product, a_quotient, a_common, a_spare, a_rest, a_divisor, a_inverse, a_numerator, a_factorDegrees, a_factorPowers, a_factorCells)) : wpX_fraction post (f_tokenCount, f_latestPlace, f_stepCount, f_waitingCount, f_stackCount, f_factorCount, a_tokenKind, a_tokenContent, a_stepKind, a_stepToken, a_waitingKind, a_waitingToken, a_present, a_cells, a_leftTop, a_leftBottom, a_rightTop, a_rightBottom, a_top, a_bottom, a_product, a_quotient, a_common, a_spare, a_rest, a_divisor, a_inverse, a_numerator, a_factorDegrees, a_factorPowers, a_factorCells) a i j k := by
  unfold wpX_fraction
  refine xl_hasPart (br_t rfl (h _ _ _ _ _ _ _ _ _ _ _ _ _ _ _ _ _ _ _)) (fun _ _ _ _ => br_f (by decide) ?_)
  by_cases c0 : k < 0
  · exact br_t c0 (h _ _ _ _ _ _ _ _ _ _ _ _ _ _ _ _ _ _ _)
  · by_cases c8 : k ≤ 8
    · refine br_f c0 (br_t c8 (br_c (fun _ => xl_loadProperPart (fun a_leftTop a_leftBottom a_rightTop a_rightBottom a_top a_bottom a_product a_quotient a_common a_spare a_rest a_divisor a_inverse a_numerator => ⟨xl_i8 c0 c8, h _ _ _ _ _ _ _ _ _ _ _ _ _ _ _ _ _ _ _⟩)) (fun _ => ?_)))
      refine xl_hasFactor (fun f_factorCount a_factorDegrees a_factorPowers a_factorCells a_leftTop a_leftBottom a_rightTop a_rightBottom a_top a_bottom a_product a_quotient a_common a_spare a_rest a_divisor a_inverse a_numerator => br_t rfl (h _ _ _ _ _ _ _ _ _ _ _ _ _ _ _ _ _ _ _)) (fun q fc a_factorDegrees a_factorPowers a_factorCells a_leftTop a_leftBottom a_rightTop a_rightBottom a_top a_bottom a_product a_quotient a_common a_spare a_rest a_divisor a_inverse a_numerator hi hf e => br_f (by decide) ?_)
      subst e
      by_cases c1 : j < 1
      · exact br_t c1 (h _ _ _ _ _ _ _ _ _ _ _ _ _ _ _ _ _ _ _)
      · exact br_f c1 ⟨vp_in_nI (by omega) (by omega), br_c (fun _ => xl_loadProperPart (fun a_leftTop a_leftBottom a_rightTop a_rightBottom a_top a_bottom a_product a_quotient a_common a_spare a_rest a_divisor a_inverse a_numerator => xl_findNumerator q (by omega) c1 (fun a_leftTop a_leftBottom a_rightTop a_rightBottom a_top a_bottom a_product a_quotient a_common a_spare a_rest a_divisor a_inverse a_numerator => ⟨xl_i8 c0 c8, h _ _ _ _ _ _ _ _ _ _ _ _ _ _ _ _ _ _ _⟩))) (fun _ => h _ _ _ _ _ _ _ _ _ _ _ _ _ _ _ _ _ _ _)⟩
    · exact br_f c0 (br_f c8 (h _ _ _ _ _ _ _ _ _ _ _ _ _ _ _ _ _ _ _))
end
end
section
/-! The relation of the two sides: the same number of tokens; the reference's tokens are valid and its places small -/
def ab_R (u : SX) (v : SY) : Prop := ∃ (cnt : Nat) (g T : Nat → Fin 5) (kd : Nat → Nat), cnt ≤ 24 ∧ u.1 = nI cnt ∧ v.1 = nI cnt ∧ v.2.2.2.2.2.2.2.2.1 = fi_m g ∧ v.2.2.2.2.2.2.2.2.2.2.2.2.2.2.2 = fi_m T ∧
  ya_tk v.2.2.2.2.2.2.2.2.2.2.1 v.2.2.2.2.2.2.2.2.2.2.2.1 cnt kd ∧ ya_9 g ∧ xw_b u.2.2.2.2.2.2.2.2.2.2.2.2.1
theorem ab_0 : wpX_init (fun u => wpY_init (fun v => ab_R u v)) := by
  refine ⟨0, fun _ => 0, fun _ => 0, fun _ => 0, by omega, rfl, rfl, rfl, rfl, fun j hj => by omega, fun s _ _ k _ => ?_, fun _ => Or.inl rfl⟩
  show (if k < 20 then 0 else 0) = (0 : Fin 5)
  rw [ite_self]
theorem ab_5 : (5 : Int32).toInt = 5 := by decide
theorem ab_6 : (6 : Int32).toInt = 6 := by decide
theorem ab_m8 : (-8 : Int32).toInt = -8 := by decide
theorem ab_56 {a : Int32} : a < 6 ↔ ¬ 5 < a := by
  rw [Int32.not_lt, Int32.lt_iff_toInt_lt, Int32.le_iff_toInt_le, ab_5, ab_6]; omega
theorem ab_88 {a : Int32} : a ≤ 8 ↔ ¬ 8 < a := by rw [Int32.not_lt]
theorem ab_pw {a : Int32} (h1 : ¬ a < -8) (h2 : ¬ 8 < a) : ∃ q, q ≤ 8 ∧ (a = nI q ∨ (a = -nI q ∧ 1 ≤ q)) := by
  have e8 : (8 : Int32).toInt = 8 := by decide
  rw [Int32.not_lt, Int32.le_iff_toInt_le, ab_m8] at h1
  rw [Int32.not_lt, Int32.le_iff_toInt_le, e8] at h2
  by_cases c : 0 ≤ a.toInt
  · refine ⟨a.toInt.toNat, by omega, Or.inl ?_⟩
    apply Int32.toInt_inj.mp
    rw [nI_toInt (by omega)]; omega
  · refine ⟨(-a.toInt).toNat, by omega, Or.inr ⟨?_, by omega⟩⟩
    apply Int32.toInt_inj.mp
    rw [Int32.toInt_neg, nI_toInt (by omega)]
    rw [Int.bmod_eq_of_le (by omega) (by omega)]; omega
theorem ab_k {a : Int32} (h1 : ¬ a < 0) (h2 : ¬ 11 < a) : ∃ k, k ≤ 11 ∧ a = nI k := by
  obtain ⟨k, hk, rfl⟩ := nI_of h1
  exact ⟨k, (nI_leI (b := 11) hk (by decide)).mp (Int32.not_lt.mp h2), rfl⟩
theorem ab_tk {ak an : Nat → Int32} {cnt k : Nat} {kd : Nat → Nat} {x : Int32} (h : ya_tk ak an cnt kd) (hk : k ≤ 11) (h2 : k = 2 → ∃ n, n < 6 ∧ x = nI n) (h9 : k = 9 → ∃ q, q ≤ 8 ∧ (x = nI q ∨ (x = -nI q ∧ 1 ≤ q))) :
    ya_tk (upd ak cnt (nI k)) (upd an cnt x) (cnt + 1) (fun j => if j = cnt then k else kd j) := by
  intro j hj
  by_cases c : j = cnt
  · subst c
    dsimp only
    rw [if_pos rfl, pk_us, pk_us]
    exact ⟨rfl, hk, h2, h9⟩
  · dsimp only
    rw [if_neg c, pk_un c, pk_un c]
    exact h j (by omega)
theorem ab_token {u : SX} {v : SY} {v1 v2 : Int32} {Q : Int32 → Int32 → SX → SY → Prop} (I : ab_R u v) (h : ∀ r u' v', ab_R u' v' → Q r r u' v') : wpX_token (fun r u' => wpY_token (fun r' v' => Q r r' u' v') v v1 v2) u v1 v2 := by
  obtain ⟨f_tokenCount, f_latestPlace, f_stepCount, f_waitingCount, f_stackCount, f_factorCount, a_tokenKind, a_tokenContent, a_stepKind, a_stepToken, a_waitingKind, a_waitingToken, a_present, a_cells, a_leftTop, a_leftBottom, a_rightTop, a_rightBottom, a_top, a_bottom, a_product, a_quotient, a_common, a_spare, a_rest, a_divisor, a_inverse, a_numerator, a_factorDegrees, a_factorPowers, a_factorCells⟩ := u
  obtain ⟨f_count, f_place, f_opens, f_top, f_fault, f_faultAt, f_dry, f_found, a_c, a_there, a_kind, a_num, a_open, a_openAt, a_power, a_table⟩ := v
  have I0 := I
  obtain ⟨cnt, g, T, kd, hc, e1, e2, e3, e4, tk, p9, hb⟩ := I
  dsimp only at e1 e2 e3 e4 tk hb
  subst e1 e2 e3 e4
  unfold wpX_token wpY_token
  dsimp only
  by_cases h0 : v1 < 0
  · exact br_t h0 (br_t h0 (h _ _ _ I0))
  by_cases h11 : 11 < v1
  · exact br_f h0 (br_t h11 (br_f h0 (br_t h11 (h _ _ _ I0))))
  refine br_f h0 (br_f h11 ?_)
  obtain ⟨k, hk, rfl⟩ := ab_k h0 h11
  by_cases c24 : cnt < 24
  · have hin : vp_in (nI cnt) 24 := vp_in_nI c24 (by omega)
    have h24 : ¬ nI cnt = 24 := fun z => absurd ((nI_eq (b := 24) (by omega) (by omega)).mp z) (by omega)
    have fin : (k = 2 → ∃ n, n < 6 ∧ v2 = nI n) → (k = 9 → ∃ q, q ≤ 8 ∧ (v2 = nI q ∨ (v2 = -nI q ∧ 1 ≤ q))) →
        ab_R (nI cnt + 1, f_latestPlace, f_stepCount, f_waitingCount, f_stackCount, f_factorCount, upd a_tokenKind (nI cnt).toNatClampNeg (nI k), upd a_tokenContent (nI cnt).toNatClampNeg v2, a_stepKind, a_stepToken, a_waitingKind, a_waitingToken, a_present, a_cells, a_leftTop, a_leftBottom, a_rightTop, a_rightBottom, a_top, a_bottom, a_product, a_quotient, a_common, a_spare, a_rest, a_divisor, a_inverse, a_numerator, a_factorDegrees, a_factorPowers, a_factorCells) (nI cnt + 1, f_place, f_opens, f_top, f_fault, f_faultAt, f_dry, f_found, fi_m g, a_there, upd a_kind (nI cnt).toNatClampNeg (nI k), upd a_num (nI cnt).toNatClampNeg v2, a_open, a_openAt, a_power, fi_m T) := by
      intro a2 a9
      refine ⟨cnt + 1, g, T, (fun j => if j = cnt then k else kd j), by omega, nI_1 cnt, nI_1 cnt, rfl, rfl, ?_, p9, hb⟩
      dsimp only
      rw [nI_clamp (by omega)]
      exact ab_tk tk hk a2 a9
    refine br_t (nI_lt (b := 24) c24 (by decide)) ?_
    by_cases h2 : nI k = 2
    · have k2 : k = 2 := (nI_eq (b := 2) (by omega) (by omega)).mp h2
      by_cases n0 : v2 < 0
      · exact br_t h2 (br_t n0 (br_f h0 (br_f h11 (br_t h2 (br_t n0 (h _ _ _ I0))))))
      · by_cases n5 : 5 < v2
        · exact br_t h2 (br_f n0 (br_f (fun z => ab_56.mp z n5) (br_f h0 (br_f h11 (br_t h2 (br_f n0 (br_t n5 (h _ _ _ I0))))))))
        · have h9 : ¬ nI k = 9 := by rw [h2]; decide
          have hv : ∃ n, n < 6 ∧ v2 = nI n := by
            obtain ⟨n, hn, e⟩ := nI_of n0
            refine ⟨n, ?_, e⟩
            rw [e] at n5
            have := (nI_leI (b := 5) hn (by decide)).mp (Int32.not_lt.mp n5)
            omega
          refine br_t h2 (br_f n0 (br_t (ab_56.mpr n5) (br_f h9 ⟨hin, nm_e ⟨hin, nm_e (nm_e ?_)⟩⟩)))
          exact br_f h0 (br_f h11 (br_t h2 (br_f n0 (br_f n5 (br_f h9 (br_f h24 ⟨hin, nm_e ⟨hin, nm_e (nm_e (h _ _ _ (fin (fun _ => hv) (fun z => by omega))))⟩⟩))))))
    · have nk2 : k ≠ 2 := fun z => h2 (by rw [z]; rfl)
      by_cases h9 : nI k = 9
      · by_cases m8 : v2 < -8
        · exact br_f h2 (br_t h9 (br_t m8 (br_f h0 (br_f h11 (br_f h2 (br_t h9 (br_t m8 (h _ _ _ I0))))))))
        · by_cases p8 : 8 < v2
          · exact br_f h2 (br_t h9 (br_f m8 (br_f (fun z => ab_88.mp z p8) (br_f h0 (br_f h11 (br_f h2 (br_t h9 (br_f m8 (br_t p8 (h _ _ _ I0))))))))))
          · refine br_f h2 (br_t h9 (br_f m8 (br_t (ab_88.mpr p8) ⟨hin, nm_e ⟨hin, nm_e (nm_e ?_)⟩⟩)))
            exact br_f h0 (br_f h11 (br_f h2 (br_t h9 (br_f m8 (br_f p8 (br_f h24 ⟨hin, nm_e ⟨hin, nm_e (nm_e (h _ _ _ (fin (fun z => absurd z nk2) (fun _ => ab_pw m8 p8))))⟩⟩))))))
      · have nk9 : k ≠ 9 := fun z => h9 (by rw [z]; rfl)
        refine br_f h2 (br_f h9 ⟨hin, nm_e ⟨hin, nm_e (nm_e ?_)⟩⟩)
        exact br_f h0 (br_f h11 (br_f h2 (br_f h9 (br_f h24 ⟨hin, nm_e ⟨hin, nm_e (nm_e (h _ _ _ (fin (fun z => absurd z nk2) (fun z => absurd z nk9))))⟩⟩))))
  · have e24 : cnt = 24 := by omega
    have h24 : nI cnt = 24 := by rw [e24]; rfl
    refine br_f (nI_nlt (b := 24) (by omega) (by omega)) (br_f h0 (br_f h11 ?_))
    have y42 : wY_token_42 (fun r' v' => Q 0 r' (nI cnt, f_latestPlace, f_stepCount, f_waitingCount, f_stackCount, f_factorCount, a_tokenKind, a_tokenContent, a_stepKind, a_stepToken, a_waitingKind, a_waitingToken, a_present, a_cells, a_leftTop, a_leftBottom, a_rightTop, a_rightBottom, a_top, a_bottom, a_product, a_quotient, a_common, a_spare, a_rest, a_divisor, a_inverse, a_numerator, a_factorDegrees, a_factorPowers, a_factorCells) v') (nI k) v2 (nI cnt) f_place f_opens f_top f_fault f_faultAt f_dry f_found (fi_m g) a_there a_kind a_num a_open a_openAt a_power (fi_m T) := br_t h24 (h _ _ _ I0)
    have y24 : wY_token_24 (fun r' v' => Q 0 r' (nI cnt, f_latestPlace, f_stepCount, f_waitingCount, f_stackCount, f_factorCount, a_tokenKind, a_tokenContent, a_stepKind, a_stepToken, a_waitingKind, a_waitingToken, a_present, a_cells, a_leftTop, a_leftBottom, a_rightTop, a_rightBottom, a_top, a_bottom, a_product, a_quotient, a_common, a_spare, a_rest, a_divisor, a_inverse, a_numerator, a_factorDegrees, a_factorPowers, a_factorCells) v') (nI k) v2 (nI cnt) f_place f_opens f_top f_fault f_faultAt f_dry f_found (fi_m g) a_there a_kind a_num a_open a_openAt a_power (fi_m T) := br_c (fun _ => br_c (fun _ => h _ _ _ I0) (fun _ => br_c (fun _ => h _ _ _ I0) (fun _ => y42))) (fun _ => y42)
    exact br_c (fun _ => br_c (fun _ => h _ _ _ I0) (fun _ => br_c (fun _ => h _ _ _ I0) (fun _ => y24))) (fun _ => y24)
theorem ab_wipe {u : SX} {v : SY} {Q : Int32 → Int32 → SX → SY → Prop} (I : ab_R u v) (h : ∀ r u' v', ab_R u' v' → Q r r u' v') : wpX_wipe (fun r u' => wpY_wipe (fun r' v' => Q r r' u' v') v) u := by
  obtain ⟨f_tokenCount, f_latestPlace, f_stepCount, f_waitingCount, f_stackCount, f_factorCount, a_tokenKind, a_tokenContent, a_stepKind, a_stepToken, a_waitingKind, a_waitingToken, a_present, a_cells, a_leftTop, a_leftBottom, a_rightTop, a_rightBottom, a_top, a_bottom, a_product, a_quotient, a_common, a_spare, a_rest, a_divisor, a_inverse, a_numerator, a_factorDegrees, a_factorPowers, a_factorCells⟩ := u
  obtain ⟨f_count, f_place, f_opens, f_top, f_fault, f_faultAt, f_dry, f_found, a_c, a_there, a_kind, a_num, a_open, a_openAt, a_power, a_table⟩ := v
  obtain ⟨cnt, g, T, kd, hc, e1, e2, e3, e4, tk, p9, hb⟩ := I
  dsimp only at e1 e2 e3 e4 tk hb
  subst e1 e2 e3 e4
  unfold wpX_wipe wpY_wipe
  exact h _ _ _ ⟨0, g, T, kd, by omega, rfl, rfl, rfl, rfl, fun j hj => by omega, p9, hb⟩
theorem ab_place {u : SX} {v : SY} {Q : Int32 → Int32 → Prop} (h : ∀ r r', Q r r') : wpX_place (fun r => wpY_place (fun r' => Q r r') v) u := by
  obtain ⟨f_tokenCount, f_latestPlace, f_stepCount, f_waitingCount, f_stackCount, f_factorCount, a_tokenKind, a_tokenContent, a_stepKind, a_stepToken, a_waitingKind, a_waitingToken, a_present, a_cells, a_leftTop, a_leftBottom, a_rightTop, a_rightBottom, a_top, a_bottom, a_product, a_quotient, a_common, a_spare, a_rest, a_divisor, a_inverse, a_numerator, a_factorDegrees, a_factorPowers, a_factorCells⟩ := u
  obtain ⟨f_count, f_place, f_opens, f_top, f_fault, f_faultAt, f_dry, f_found, a_c, a_there, a_kind, a_num, a_open, a_openAt, a_power, a_table⟩ := v
  exact h _ _
end
section
/-! The other methods: both sides end, in related states -/
theorem ab_evaluate {u : SX} {v : SY} {Q : Int32 → Int32 → SX → SY → Prop} (I : ab_R u v) (h : ∀ r r' u' v', ab_R u' v' → Q r r' u' v') : wpX_evaluate (fun r u' => wpY_evaluate (fun r' v' => Q r r' u' v') v) u := by
  obtain ⟨f_tokenCount, f_latestPlace, f_stepCount, f_waitingCount, f_stackCount, f_factorCount, a_tokenKind, a_tokenContent, a_stepKind, a_stepToken, a_waitingKind, a_waitingToken, a_present, a_cells, a_leftTop, a_leftBottom, a_rightTop, a_rightBottom, a_top, a_bottom, a_product, a_quotient, a_common, a_spare, a_rest, a_divisor, a_inverse, a_numerator, a_factorDegrees, a_factorPowers, a_factorCells⟩ := u
  obtain ⟨f_count, f_place, f_opens, f_top, f_fault, f_faultAt, f_dry, f_found, a_c, a_there, a_kind, a_num, a_open, a_openAt, a_power, a_table⟩ := v
  obtain ⟨cnt, g, T, kd, hc, e1, e2, e3, e4, tk, p9, hb⟩ := I
  dsimp only at e1 e2 e3 e4 tk hb
  subst e1 e2 e3 e4
  refine xl_evaluate cnt hc hb (fun r f_latestPlace f_stepCount f_waitingCount f_stackCount a_stepKind a_stepToken a_waitingKind a_waitingToken a_present a_cells a_leftTop a_leftBottom a_rightTop a_rightBottom a_top a_bottom a_product a_quotient a_common a_spare a_rest a_divisor a_inverse a_numerator hb' => ?_)
  exact yc_evaluate hc tk p9 (fun r' g' f_place f_opens f_top f_fault f_faultAt f_dry f_found a_there a_open a_openAt a_power p' => (h _ _ _ _ ⟨cnt, g', T, kd, hc, rfl, rfl, rfl, rfl, tk, p', hb'⟩))
theorem ab_degree {u : SX} {v : SY} {v1 v2 : Int32} {Q : Int32 → Int32 → SX → SY → Prop} (I : ab_R u v) (h : ∀ r r' u' v', ab_R u' v' → Q r r' u' v') : wpX_degree (fun r u' => wpY_degree (fun r' => Q r r' u' v) v v1 v2) u v1 v2 := by
  obtain ⟨f_tokenCount, f_latestPlace, f_stepCount, f_waitingCount, f_stackCount, f_factorCount, a_tokenKind, a_tokenContent, a_stepKind, a_stepToken, a_waitingKind, a_waitingToken, a_present, a_cells, a_leftTop, a_leftBottom, a_rightTop, a_rightBottom, a_top, a_bottom, a_product, a_quotient, a_common, a_spare, a_rest, a_divisor, a_inverse, a_numerator, a_factorDegrees, a_factorPowers, a_factorCells⟩ := u
  obtain ⟨f_count, f_place, f_opens, f_top, f_fault, f_faultAt, f_dry, f_found, a_c, a_there, a_kind, a_num, a_open, a_openAt, a_power, a_table⟩ := v
  obtain ⟨cnt, g, T, kd, hc, e1, e2, e3, e4, tk, p9, hb⟩ := I
  dsimp only at e1 e2 e3 e4 tk hb
  subst e1 e2 e3 e4
  refine xl_degree (fun r a_leftTop a_leftBottom a_rightTop a_rightBottom a_top a_bottom a_product a_quotient a_common a_spare a_rest a_divisor a_inverse a_numerator => ?_)
  exact yc_degree (fun r' => (h _ _ _ _ ⟨cnt, g, T, kd, hc, rfl, rfl, rfl, rfl, tk, p9, hb⟩))
theorem ab_number {u : SX} {v : SY} {v1 v2 v3 : Int32} {Q : Int32 → Int32 → SX → SY → Prop} (I : ab_R u v) (h : ∀ r r' u' v', ab_R u' v' → Q r r' u' v') : wpX_number (fun r u' => wpY_number (fun r' => Q r r' u' v) v v1 v2 v3) u v1 v2 v3 := by
  obtain ⟨f_tokenCount, f_latestPlace, f_stepCount, f_waitingCount, f_stackCount, f_factorCount, a_tokenKind, a_tokenContent, a_stepKind, a_stepToken, a_waitingKind, a_waitingToken, a_present, a_cells, a_leftTop, a_leftBottom, a_rightTop, a_rightBottom, a_top, a_bottom, a_product, a_quotient, a_common, a_spare, a_rest, a_divisor, a_inverse, a_numerator, a_factorDegrees, a_factorPowers, a_factorCells⟩ := u
  obtain ⟨f_count, f_place, f_opens, f_top, f_fault, f_faultAt, f_dry, f_found, a_c, a_there, a_kind, a_num, a_open, a_openAt, a_power, a_table⟩ := v
  obtain ⟨cnt, g, T, kd, hc, e1, e2, e3, e4, tk, p9, hb⟩ := I
  dsimp only at e1 e2 e3 e4 tk hb
  subst e1 e2 e3 e4
  refine xl_number (fun r a_leftTop a_leftBottom a_rightTop a_rightBottom a_top a_bottom a_product a_quotient a_common a_spare a_rest a_divisor a_inverse a_numerator => ?_)
  exact yc_number (fun r' => (h _ _ _ _ ⟨cnt, g, T, kd, hc, rfl, rfl, rfl, rfl, tk, p9, hb⟩))
theorem ab_value {u : SX} {v : SY} {v1 v2 : Int32} {Q : Int32 → Int32 → SX → SY → Prop} (I : ab_R u v) (h : ∀ r r' u' v', ab_R u' v' → Q r r' u' v') : wpX_value (fun r u' => wpY_value (fun r' => Q r r' u' v) v v1 v2) u v1 v2 := by
  obtain ⟨f_tokenCount, f_latestPlace, f_stepCount, f_waitingCount, f_stackCount, f_factorCount, a_tokenKind, a_tokenContent, a_stepKind, a_stepToken, a_waitingKind, a_waitingToken, a_present, a_cells, a_leftTop, a_leftBottom, a_rightTop, a_rightBottom, a_top, a_bottom, a_product, a_quotient, a_common, a_spare, a_rest, a_divisor, a_inverse, a_numerator, a_factorDegrees, a_factorPowers, a_factorCells⟩ := u
  obtain ⟨f_count, f_place, f_opens, f_top, f_fault, f_faultAt, f_dry, f_found, a_c, a_there, a_kind, a_num, a_open, a_openAt, a_power, a_table⟩ := v
  obtain ⟨cnt, g, T, kd, hc, e1, e2, e3, e4, tk, p9, hb⟩ := I
  dsimp only at e1 e2 e3 e4 tk hb
  subst e1 e2 e3 e4
  refine xl_value (fun r a_leftTop a_leftBottom a_rightTop a_rightBottom a_top a_bottom a_product a_quotient a_common a_spare a_rest a_divisor a_inverse a_numerator => ?_)
  exact yc_value (fun r' => (h _ _ _ _ ⟨cnt, g, T, kd, hc, rfl, rfl, rfl, rfl, tk, p9, hb⟩))
theorem ab_factors {u : SX} {v : SY} {v1 v2 : Int32} {Q : Int32 → Int32 → SX → SY → Prop} (I : ab_R u v) (h : ∀ r r' u' v', ab_R u' v' → Q r r' u' v') : wpX_factors (fun r u' => wpY_factors (fun r' v' => Q r r' u' v') v v1 v2) u v1 v2 := by
  obtain ⟨f_tokenCount, f_latestPlace, f_stepCount, f_waitingCount, f_stackCount, f_factorCount, a_tokenKind, a_tokenContent, a_stepKind, a_stepToken, a_waitingKind, a_waitingToken, a_present, a_cells, a_leftTop, a_leftBottom, a_rightTop, a_rightBottom, a_top, a_bottom, a_product, a_quotient, a_common, a_spare, a_rest, a_divisor, a_inverse, a_numerator, a_factorDegrees, a_factorPowers, a_factorCells⟩ := u
  obtain ⟨f_count, f_place, f_opens, f_top, f_fault, f_faultAt, f_dry, f_found, a_c, a_there, a_kind, a_num, a_open, a_openAt, a_power, a_table⟩ := v
  obtain ⟨cnt, g, T, kd, hc, e1, e2, e3, e4, tk, p9, hb⟩ := I
  dsimp only at e1 e2 e3 e4 tk hb
  subst e1 e2 e3 e4
  refine xl_factors (fun r f_factorCount a_factorDegrees a_factorPowers a_factorCells a_leftTop a_leftBottom a_rightTop a_rightBottom a_top a_bottom a_product a_quotient a_common a_spare a_rest a_divisor a_inverse a_numerator => ?_)
  exact yc_factors p9 (h _ _ _ _ ⟨cnt, g, T, kd, hc, rfl, rfl, rfl, rfl, tk, p9, hb⟩) (fun a p m g' pw _ _ _ _ hm fr _ _ => (h _ _ _ _ ⟨cnt, g', T, kd, hc, rfl, rfl, rfl, rfl, tk, (ya_9_fr p9 fr), hb⟩))
theorem ab_factorDegree {u : SX} {v : SY} {v1 v2 v3 : Int32} {Q : Int32 → Int32 → SX → SY → Prop} (I : ab_R u v) (h : ∀ r r' u' v', ab_R u' v' → Q r r' u' v') : wpX_factorDegree (fun r u' => wpY_factorDegree (fun r' v' => Q r r' u' v') v v1 v2 v3) u v1 v2 v3 := by
  obtain ⟨f_tokenCount, f_latestPlace, f_stepCount, f_waitingCount, f_stackCount, f_factorCount, a_tokenKind, a_tokenContent, a_stepKind, a_stepToken, a_waitingKind, a_waitingToken, a_present, a_cells, a_leftTop, a_leftBottom, a_rightTop, a_rightBottom, a_top, a_bottom, a_product, a_quotient, a_common, a_spare, a_rest, a_divisor, a_inverse, a_numerator, a_factorDegrees, a_factorPowers, a_factorCells⟩ := u
  obtain ⟨f_count, f_place, f_opens, f_top, f_fault, f_faultAt, f_dry, f_found, a_c, a_there, a_kind, a_num, a_open, a_openAt, a_power, a_table⟩ := v
  obtain ⟨cnt, g, T, kd, hc, e1, e2, e3, e4, tk, p9, hb⟩ := I
  dsimp only at e1 e2 e3 e4 tk hb
  subst e1 e2 e3 e4
  refine xl_factorDegree (fun r f_factorCount a_factorDegrees a_factorPowers a_factorCells a_leftTop a_leftBottom a_rightTop a_rightBottom a_top a_bottom a_product a_quotient a_common a_spare a_rest a_divisor a_inverse a_numerator => ?_)
  exact yc_factorDegree p9 (fun r' g' f_found a_power p' => (h _ _ _ _ ⟨cnt, g', T, kd, hc, rfl, rfl, rfl, rfl, tk, p', hb⟩))
theorem ab_factor {u : SX} {v : SY} {v1 v2 v3 v4 : Int32} {Q : Int32 → Int32 → SX → SY → Prop} (I : ab_R u v) (h : ∀ r r' u' v', ab_R u' v' → Q r r' u' v') : wpX_factor (fun r u' => wpY_factor (fun r' v' => Q r r' u' v') v v1 v2 v3 v4) u v1 v2 v3 v4 := by
  obtain ⟨f_tokenCount, f_latestPlace, f_stepCount, f_waitingCount, f_stackCount, f_factorCount, a_tokenKind, a_tokenContent, a_stepKind, a_stepToken, a_waitingKind, a_waitingToken, a_present, a_cells, a_leftTop, a_leftBottom, a_rightTop, a_rightBottom, a_top, a_bottom, a_product, a_quotient, a_common, a_spare, a_rest, a_divisor, a_inverse, a_numerator, a_factorDegrees, a_factorPowers, a_factorCells⟩ := u
  obtain ⟨f_count, f_place, f_opens, f_top, f_fault, f_faultAt, f_dry, f_found, a_c, a_there, a_kind, a_num, a_open, a_openAt, a_power, a_table⟩ := v
  obtain ⟨cnt, g, T, kd, hc, e1, e2, e3, e4, tk, p9, hb⟩ := I
  dsimp only at e1 e2 e3 e4 tk hb
  subst e1 e2 e3 e4
  refine xl_factor (fun r f_factorCount a_factorDegrees a_factorPowers a_factorCells a_leftTop a_leftBottom a_rightTop a_rightBottom a_top a_bottom a_product a_quotient a_common a_spare a_rest a_divisor a_inverse a_numerator => ?_)
  exact yc_factor p9 (fun r' g' f_found a_power p' => (h _ _ _ _ ⟨cnt, g', T, kd, hc, rfl, rfl, rfl, rfl, tk, p', hb⟩))
theorem ab_power {u : SX} {v : SY} {v1 v2 v3 : Int32} {Q : Int32 → Int32 → SX → SY → Prop} (I : ab_R u v) (h : ∀ r r' u' v', ab_R u' v' → Q r r' u' v') : wpX_power (fun r u' => wpY_power (fun r' v' => Q r r' u' v') v v1 v2 v3) u v1 v2 v3 := by
  obtain ⟨f_tokenCount, f_latestPlace, f_stepCount, f_waitingCount, f_stackCount, f_factorCount, a_tokenKind, a_tokenContent, a_stepKind, a_stepToken, a_waitingKind, a_waitingToken, a_present, a_cells, a_leftTop, a_leftBottom, a_rightTop, a_rightBottom, a_top, a_bottom, a_product, a_quotient, a_common, a_spare, a_rest, a_divisor, a_inverse, a_numerator, a_factorDegrees, a_factorPowers, a_factorCells⟩ := u
  obtain ⟨f_count, f_place, f_opens, f_top, f_fault, f_faultAt, f_dry, f_found, a_c, a_there, a_kind, a_num, a_open, a_openAt, a_power, a_table⟩ := v
  obtain ⟨cnt, g, T, kd, hc, e1, e2, e3, e4, tk, p9, hb⟩ := I
  dsimp only at e1 e2 e3 e4 tk hb
  subst e1 e2 e3 e4
  refine xl_power (fun r f_factorCount a_factorDegrees a_factorPowers a_factorCells a_leftTop a_leftBottom a_rightTop a_rightBottom a_top a_bottom a_product a_quotient a_common a_spare a_rest a_divisor a_inverse a_numerator => ?_)
  exact yc_power p9 (fun r' g' f_found a_power p' => (h _ _ _ _ ⟨cnt, g', T, kd, hc, rfl, rfl, rfl, rfl, tk, p', hb⟩))
theorem ab_fraction {u : SX} {v : SY} {v1 v2 v3 v4 : Int32} {Q : Int32 → Int32 → SX → SY → Prop} (I : ab_R u v) (h : ∀ r r' u' v', ab_R u' v' → Q r r' u' v') : wpX_fraction (fun r u' => wpY_fraction (fun r' v' => Q r r' u' v') v v1 v2 v3 v4) u v1 v2 v3 v4 := by
  obtain ⟨f_tokenCount, f_latestPlace, f_stepCount, f_waitingCount, f_stackCount, f_factorCount, a_tokenKind, a_tokenContent, a_stepKind, a_stepToken, a_waitingKind, a_waitingToken, a_present, a_cells, a_leftTop, a_leftBottom, a_rightTop, a_rightBottom, a_top, a_bottom, a_product, a_quotient, a_common, a_spare, a_rest, a_divisor, a_inverse, a_numerator, a_factorDegrees, a_factorPowers, a_factorCells⟩ := u
  obtain ⟨f_count, f_place, f_opens, f_top, f_fault, f_faultAt, f_dry, f_found, a_c, a_there, a_kind, a_num, a_open, a_openAt, a_power, a_table⟩ := v
  obtain ⟨cnt, g, T, kd, hc, e1, e2, e3, e4, tk, p9, hb⟩ := I
  dsimp only at e1 e2 e3 e4 tk hb
  subst e1 e2 e3 e4
  refine xl_fraction (fun r f_factorCount a_factorDegrees a_factorPowers a_factorCells a_leftTop a_leftBottom a_rightTop a_rightBottom a_top a_bottom a_product a_quotient a_common a_spare a_rest a_divisor a_inverse a_numerator => ?_)
  exact yc_fraction p9 (fun r' g' T' f_found a_power p' => (h _ _ _ _ ⟨cnt, g', T', kd, hc, rfl, rfl, rfl, rfl, tk, p', hb⟩))
theorem ab_store {u : SX} {v : SY} {v1 : Int32} {Q : Int32 → Int32 → SX → SY → Prop} (I : ab_R u v) (h : ∀ r r' u' v', ab_R u' v' → Q r r' u' v') : wpX_store (fun r u' => wpY_store (fun r' v' => Q r r' u' v') v v1) u v1 := by
  obtain ⟨f_tokenCount, f_latestPlace, f_stepCount, f_waitingCount, f_stackCount, f_factorCount, a_tokenKind, a_tokenContent, a_stepKind, a_stepToken, a_waitingKind, a_waitingToken, a_present, a_cells, a_leftTop, a_leftBottom, a_rightTop, a_rightBottom, a_top, a_bottom, a_product, a_quotient, a_common, a_spare, a_rest, a_divisor, a_inverse, a_numerator, a_factorDegrees, a_factorPowers, a_factorCells⟩ := u
  obtain ⟨f_count, f_place, f_opens, f_top, f_fault, f_faultAt, f_dry, f_found, a_c, a_there, a_kind, a_num, a_open, a_openAt, a_power, a_table⟩ := v
  obtain ⟨cnt, g, T, kd, hc, e1, e2, e3, e4, tk, p9, hb⟩ := I
  dsimp only at e1 e2 e3 e4 tk hb
  subst e1 e2 e3 e4
  have hY : ∀ (r : Int32) (a_present a_cells : Nat → Int32), xw_b a_present → wpY_store (fun r' v' => Q r r' (nI cnt, f_latestPlace, f_stepCount, f_waitingCount, f_stackCount, f_factorCount, a_tokenKind, a_tokenContent, a_stepKind, a_stepToken, a_waitingKind, a_waitingToken, a_present, a_cells, a_leftTop, a_leftBottom, a_rightTop, a_rightBottom, a_top, a_bottom, a_product, a_quotient, a_common, a_spare, a_rest, a_divisor, a_inverse, a_numerator, a_factorDegrees, a_factorPowers, a_factorCells) v') (nI cnt, f_place, f_opens, f_top, f_fault, f_faultAt, f_dry, f_found, fi_m g, a_there, a_kind, a_num, a_open, a_openAt, a_power, fi_m T) v1 := fun r a_present a_cells hb =>
    yc_store p9 (fun r' g' a_there p' => (h _ _ _ _ ⟨cnt, g', T, kd, hc, rfl, rfl, rfl, rfl, tk, p', hb⟩))
  unfold wpX_store
  dsimp only
  by_cases c0 : v1 < 0
  · exact br_t c0 (hY _ _ _ hb)
  · by_cases c6 : 6 ≤ v1
    · exact br_f c0 (br_t c6 (hY _ _ _ hb))
    · obtain ⟨k, hk, rfl⟩ := nI_of c0
      have hk6 : k < 6 := by
        by_cases c : k < 6
        · exact c
        · exact absurd (nI_le (a := 6) (by omega) hk) c6
      exact br_f c0 (br_f c6 (br_c (fun _ => hY _ _ _ hb) (fun _ => xl_copySlot 6 k (by omega) (by omega) (fun a_cells => ⟨vp_in_nI (by omega) (by omega), nm_e (hY _ _ _ (xw_b1 hb _))⟩))))
theorem ab_clear {u : SX} {v : SY} {v1 : Int32} {Q : Int32 → Int32 → SX → SY → Prop} (I : ab_R u v) (h : ∀ r r' u' v', ab_R u' v' → Q r r' u' v') : wpX_clear (fun r u' => wpY_clear (fun r' v' => Q r r' u' v') v v1) u v1 := by
  obtain ⟨f_tokenCount, f_latestPlace, f_stepCount, f_waitingCount, f_stackCount, f_factorCount, a_tokenKind, a_tokenContent, a_stepKind, a_stepToken, a_waitingKind, a_waitingToken, a_present, a_cells, a_leftTop, a_leftBottom, a_rightTop, a_rightBottom, a_top, a_bottom, a_product, a_quotient, a_common, a_spare, a_rest, a_divisor, a_inverse, a_numerator, a_factorDegrees, a_factorPowers, a_factorCells⟩ := u
  obtain ⟨f_count, f_place, f_opens, f_top, f_fault, f_faultAt, f_dry, f_found, a_c, a_there, a_kind, a_num, a_open, a_openAt, a_power, a_table⟩ := v
  obtain ⟨cnt, g, T, kd, hc, e1, e2, e3, e4, tk, p9, hb⟩ := I
  dsimp only at e1 e2 e3 e4 tk hb
  subst e1 e2 e3 e4
  have hY : ∀ (r : Int32) (a_present : Nat → Int32), xw_b a_present → wpY_clear (fun r' v' => Q r r' (nI cnt, f_latestPlace, f_stepCount, f_waitingCount, f_stackCount, f_factorCount, a_tokenKind, a_tokenContent, a_stepKind, a_stepToken, a_waitingKind, a_waitingToken, a_present, a_cells, a_leftTop, a_leftBottom, a_rightTop, a_rightBottom, a_top, a_bottom, a_product, a_quotient, a_common, a_spare, a_rest, a_divisor, a_inverse, a_numerator, a_factorDegrees, a_factorPowers, a_factorCells) v') (nI cnt, f_place, f_opens, f_top, f_fault, f_faultAt, f_dry, f_found, fi_m g, a_there, a_kind, a_num, a_open, a_openAt, a_power, fi_m T) v1 := fun r a_present hb =>
    yc_clear (fun r' a_there => (h _ _ _ _ ⟨cnt, g, T, kd, hc, rfl, rfl, rfl, rfl, tk, p9, hb⟩))
  unfold wpX_clear
  dsimp only
  by_cases c0 : v1 < 0
  · exact br_t c0 (hY _ _ hb)
  · by_cases c6 : v1 < 6
    · obtain ⟨k, hk, rfl⟩ := nI_of c0
      have hk6 : k < 6 := (nI_ltI (b := 6) hk (by decide)).mp c6
      have i7 : vp_in (nI k) 7 := vp_in_nI (by omega) (by omega)
      refine br_f c0 (br_t c6 ⟨i7, nm_e ⟨i7, nm_e ⟨?_, hY _ _ (xw_b0 hb _)⟩⟩⟩)
      rcases hb (nI k).toNatClampNeg with e | e
      · rw [e]; rfl
      · rw [e]; rfl
    · exact br_f c0 (br_f c6 (hY _ _ hb))
end
section
/-! What is owed -/
def i_Rel (_ : Nat) (u : SX) (v : SY) : Prop := ab_R u v
theorem i_up {k : Nat} {u : SX} {v : SY} (h : i_Rel k u v) : i_Rel (k + 5) u v := h
theorem i_vc0 : wpX_init (fun u => wpY_init (fun v => i_Rel 0 u v)) := ab_0
theorem i_vc_token {k : Nat} {u : SX} {v : SY} (I : i_Rel k u v) (hk : k + 5 ≤ 2560) (v1 : Int32) (v2 : Int32) : wpX_token (fun r u' => wpY_token (fun r' v' => i_Rel (k + 5) u' v') v v1 v2) u v1 v2 := ab_token (Q := fun r r' u' v' => i_Rel (k + 5) u' v') I (fun _ _ _ R => R)
theorem i_vc_wipe {k : Nat} {u : SX} {v : SY} (I : i_Rel k u v) (hk : k + 5 ≤ 2560) : wpX_wipe (fun r u' => wpY_wipe (fun r' v' => r' = r ∧ i_Rel (k + 5) u' v') v) u := ab_wipe (Q := fun r r' u' v' => r' = r ∧ i_Rel (k + 5) u' v') I (fun _ _ _ R => ⟨rfl, R⟩)
theorem i_vc_evaluate {k : Nat} {u : SX} {v : SY} (I : i_Rel k u v) (hk : k + 5 ≤ 2560) : wpX_evaluate (fun r u' => wpY_evaluate (fun r' v' => i_Rel (k + 5) u' v') v) u := ab_evaluate (Q := fun r r' u' v' => i_Rel (k + 5) u' v') I (fun _ _ _ _ R => R)
theorem i_vc_place {k : Nat} {u : SX} {v : SY} (I : i_Rel k u v) (hk : k + 5 ≤ 2560) : wpX_place (fun r => wpY_place (fun r' => i_Rel (k + 5) u v) v) u := ab_place (Q := fun _ _ => i_Rel (k + 5) u v) (fun _ _ => I)
theorem i_vc_store {k : Nat} {u : SX} {v : SY} (I : i_Rel k u v) (hk : k + 5 ≤ 2560) (v1 : Int32) : wpX_store (fun r u' => wpY_store (fun r' v' => i_Rel (k + 5) u' v') v v1) u v1 := ab_store (Q := fun r r' u' v' => i_Rel (k + 5) u' v') I (fun _ _ _ _ R => R)
theorem i_vc_clear {k : Nat} {u : SX} {v : SY} (I : i_Rel k u v) (hk : k + 5 ≤ 2560) (v1 : Int32) : wpX_clear (fun r u' => wpY_clear (fun r' v' => i_Rel (k + 5) u' v') v v1) u v1 := ab_clear (Q := fun r r' u' v' => i_Rel (k + 5) u' v') I (fun _ _ _ _ R => R)
theorem i_vc_degree {k : Nat} {u : SX} {v : SY} (I : i_Rel k u v) (hk : k + 5 ≤ 2560) (v1 : Int32) (v2 : Int32) : wpX_degree (fun r u' => wpY_degree (fun r' => i_Rel (k + 5) u' v) v v1 v2) u v1 v2 := ab_degree (Q := fun r r' u' v' => i_Rel (k + 5) u' v') I (fun _ _ _ _ R => R)
theorem i_vc_number {k : Nat} {u : SX} {v : SY} (I : i_Rel k u v) (hk : k + 5 ≤ 2560) (v1 : Int32) (v2 : Int32) (v3 : Int32) : wpX_number (fun r u' => wpY_number (fun r' => i_Rel (k + 5) u' v) v v1 v2 v3) u v1 v2 v3 := ab_number (Q := fun r r' u' v' => i_Rel (k + 5) u' v') I (fun _ _ _ _ R => R)
theorem i_vc_value {k : Nat} {u : SX} {v : SY} (I : i_Rel k u v) (hk : k + 5 ≤ 2560) (v1 : Int32) (v2 : Int32) : wpX_value (fun r u' => wpY_value (fun r' => i_Rel (k + 5) u' v) v v1 v2) u v1 v2 := ab_value (Q := fun r r' u' v' => i_Rel (k + 5) u' v') I (fun _ _ _ _ R => R)
theorem i_vc_factors {k : Nat} {u : SX} {v : SY} (I : i_Rel k u v) (hk : k + 5 ≤ 2560) (v1 : Int32) (v2 : Int32) : wpX_factors (fun r u' => wpY_factors (fun r' v' => i_Rel (k + 5) u' v') v v1 v2) u v1 v2 := ab_factors (Q := fun r r' u' v' => i_Rel (k + 5) u' v') I (fun _ _ _ _ R => R)
theorem i_vc_factorDegree {k : Nat} {u : SX} {v : SY} (I : i_Rel k u v) (hk : k + 5 ≤ 2560) (v1 : Int32) (v2 : Int32) (v3 : Int32) : wpX_factorDegree (fun r u' => wpY_factorDegree (fun r' v' => i_Rel (k + 5) u' v') v v1 v2 v3) u v1 v2 v3 := ab_factorDegree (Q := fun r r' u' v' => i_Rel (k + 5) u' v') I (fun _ _ _ _ R => R)
theorem i_vc_factor {k : Nat} {u : SX} {v : SY} (I : i_Rel k u v) (hk : k + 5 ≤ 2560) (v1 : Int32) (v2 : Int32) (v3 : Int32) (v4 : Int32) : wpX_factor (fun r u' => wpY_factor (fun r' v' => i_Rel (k + 5) u' v') v v1 v2 v3 v4) u v1 v2 v3 v4 := ab_factor (Q := fun r r' u' v' => i_Rel (k + 5) u' v') I (fun _ _ _ _ R => R)
theorem i_vc_power {k : Nat} {u : SX} {v : SY} (I : i_Rel k u v) (hk : k + 5 ≤ 2560) (v1 : Int32) (v2 : Int32) (v3 : Int32) : wpX_power (fun r u' => wpY_power (fun r' v' => i_Rel (k + 5) u' v') v v1 v2 v3) u v1 v2 v3 := ab_power (Q := fun r r' u' v' => i_Rel (k + 5) u' v') I (fun _ _ _ _ R => R)
theorem i_vc_fraction {k : Nat} {u : SX} {v : SY} (I : i_Rel k u v) (hk : k + 5 ≤ 2560) (v1 : Int32) (v2 : Int32) (v3 : Int32) (v4 : Int32) : wpX_fraction (fun r u' => wpY_fraction (fun r' v' => i_Rel (k + 5) u' v') v v1 v2 v3 v4) u v1 v2 v3 v4 := ab_fraction (Q := fun r r' u' v' => i_Rel (k + 5) u' v') I (fun _ _ _ _ R => R)
end
