/-! Polynomials (and power series) over the numbers modulo 5, as coefficient functions: a commutative ring -/
abbrev PF : Type := Nat → Fin 5
def pf_tl (f : PF) : PF := fun k => f (k + 1)
def pf_add (f g : PF) : PF := fun k => f k + g k
def pf_neg (f : PF) : PF := fun k => - f k
def pf_c (c : Fin 5) : PF := fun k => if k = 0 then c else 0
def pf_mn (c : Fin 5) (j : Nat) : PF := fun k => if k = j then c else 0
def pf_cm : Nat → PF → PF → Fin 5
  | 0, f, g => f 0 * g 0
  | n + 1, f, g => f 0 * g (n + 1) + pf_cm n (pf_tl f) g
def pf_mul (f g : PF) : PF := fun n => pf_cm n f g
def pf_sub (f g : PF) : PF := pf_add f (pf_neg g)
def pf_pow (f : PF) : Nat → PF
  | 0 => pf_c 1
  | n + 1 => pf_mul (pf_pow f n) f
theorem pf_cm_add (n : Nat) : ∀ f f' g : PF, pf_cm n (pf_add f f') g = pf_cm n f g + pf_cm n f' g := by
  induction n with
  | zero => intro f f' g; show (f 0 + f' 0) * g 0 = f 0 * g 0 + f' 0 * g 0; grind
  | succ n ih =>
    intro f f' g
    show (f 0 + f' 0) * g (n + 1) + pf_cm n (pf_add (pf_tl f) (pf_tl f')) g = (f 0 * g (n + 1) + pf_cm n (pf_tl f) g) + (f' 0 * g (n + 1) + pf_cm n (pf_tl f') g)
    rw [ih]; grind
theorem pf_cm_sm (n : Nat) (c : Fin 5) : ∀ f g : PF, pf_cm n (fun k => c * f k) g = c * pf_cm n f g := by
  induction n with
  | zero => intro f g; show (c * f 0) * g 0 = c * (f 0 * g 0); grind
  | succ n ih =>
    intro f g
    show (c * f 0) * g (n + 1) + pf_cm n (fun k => c * (pf_tl f) k) g = c * (f 0 * g (n + 1) + pf_cm n (pf_tl f) g)
    rw [ih]; grind
theorem pf_cm_r (n : Nat) : ∀ f g : PF, pf_cm (n + 1) f g = f (n + 1) * g 0 + pf_cm n f (pf_tl g) := by
  induction n with
  | zero => intro f g; show f 0 * g 1 + f 1 * g 0 = f 1 * g 0 + f 0 * g 1; grind
  | succ n ih =>
    intro f g
    show f 0 * g (n + 1 + 1) + pf_cm (n + 1) (pf_tl f) g = f (n + 1 + 1) * g 0 + (f 0 * g (n + 1 + 1) + pf_cm n (pf_tl f) (pf_tl g))
    rw [ih (pf_tl f) g]
    show f 0 * g (n + 1 + 1) + (f (n + 1 + 1) * g 0 + pf_cm n (pf_tl f) (pf_tl g)) = f (n + 1 + 1) * g 0 + (f 0 * g (n + 1 + 1) + pf_cm n (pf_tl f) (pf_tl g))
    grind
theorem pf_cm_comm (n : Nat) : ∀ f g : PF, pf_cm n f g = pf_cm n g f := by
  induction n with
  | zero => intro f g; show f 0 * g 0 = g 0 * f 0; grind
  | succ n ih =>
    intro f g
    rw [pf_cm_r n g f]
    show f 0 * g (n + 1) + pf_cm n (pf_tl f) g = g (n + 1) * f 0 + pf_cm n g (pf_tl f)
    rw [ih (pf_tl f) g]; grind
theorem pf_cm_assoc (n : Nat) : ∀ f g h : PF, pf_cm n (pf_mul f g) h = pf_cm n f (pf_mul g h) := by
  induction n with
  | zero => intro f g h; show f 0 * g 0 * h 0 = f 0 * (g 0 * h 0); grind
  | succ n ih =>
    intro f g h
    have e : pf_tl (pf_mul f g) = pf_add (fun k => f 0 * pf_tl g k) (pf_mul (pf_tl f) g) := by funext k; rfl
    show f 0 * g 0 * h (n + 1) + pf_cm n (pf_tl (pf_mul f g)) h = f 0 * pf_cm (n + 1) g h + pf_cm n (pf_tl f) (pf_mul g h)
    rw [e, pf_cm_add, pf_cm_sm, ih]
    show f 0 * g 0 * h (n + 1) + (f 0 * pf_cm n (pf_tl g) h + pf_cm n (pf_tl f) (pf_mul g h)) = f 0 * (g 0 * h (n + 1) + pf_cm n (pf_tl g) h) + pf_cm n (pf_tl f) (pf_mul g h)
    grind
theorem pf_cm_z (n : Nat) : ∀ g : PF, pf_cm n (fun _ => 0) g = 0 := by
  induction n with
  | zero => intro g; show 0 * g 0 = 0; grind
  | succ n ih =>
    intro g
    show 0 * g (n + 1) + pf_cm n (fun _ => 0) g = 0
    rw [ih]; grind
theorem pf_tl_c (c : Fin 5) : pf_tl (pf_c c) = fun _ => 0 := by
  funext k; simp [pf_tl, pf_c]
theorem pf_cm_c (n : Nat) (c : Fin 5) (g : PF) : pf_cm n (pf_c c) g = c * g n := by
  cases n with
  | zero => rfl
  | succ n =>
    show c * g (n + 1) + pf_cm n (pf_tl (pf_c c)) g = c * g (n + 1)
    rw [pf_tl_c, pf_cm_z]; grind
theorem pf_mul_comm (f g : PF) : pf_mul f g = pf_mul g f := funext fun n => pf_cm_comm n f g
theorem pf_mul_assoc (f g h : PF) : pf_mul (pf_mul f g) h = pf_mul f (pf_mul g h) := funext fun n => pf_cm_assoc n f g h
theorem pf_mul_addl (f f' g : PF) : pf_mul (pf_add f f') g = pf_add (pf_mul f g) (pf_mul f' g) := funext fun n => pf_cm_add n f f' g
theorem pf_mul_cl (c : Fin 5) (g : PF) : pf_mul (pf_c c) g = fun k => c * g k := funext fun n => pf_cm_c n c g
theorem pf_one_mul (g : PF) : pf_mul (pf_c 1) g = g := by rw [pf_mul_cl]; funext k; grind
theorem pf_zero_mul (g : PF) : pf_mul (pf_c 0) g = pf_c 0 := by
  rw [pf_mul_cl]; funext k; show 0 * g k = if k = 0 then 0 else 0; rw [ite_self]; grind
theorem pf_c0 : pf_c 0 = fun _ => 0 := by funext k; simp [pf_c]
theorem pf_neg_mul (f g : PF) : pf_mul (pf_neg f) g = pf_neg (pf_mul f g) := by
  funext n
  have e : pf_neg f = fun k => (-1) * f k := by funext k; show - f k = (-1) * f k; grind
  show pf_cm n (pf_neg f) g = - pf_cm n f g
  rw [e, pf_cm_sm]; grind
def pf_ic : Int → PF
  | .ofNat n => pf_c (Fin.ofNat 5 n)
  | .negSucc n => pf_neg (pf_c (Fin.ofNat 5 (n + 1)))
theorem pf_neg_neg (f : PF) : pf_neg (pf_neg f) = f := by funext k; show - - f k = f k; grind
theorem pf_neg_c0 : pf_neg (pf_c 0) = pf_c 0 := by
  funext k; rw [pf_c0]; show - (0 : Fin 5) = 0; decide
theorem pf_ic_neg (i : Int) : pf_ic (-i) = pf_neg (pf_ic i) := by
  cases i with
  | ofNat n =>
    cases n with
    | zero => exact pf_neg_c0.symm
    | succ n => rfl
  | negSucc n => exact (pf_neg_neg _).symm
theorem pf_cs (a : Nat) : pf_c (Fin.ofNat 5 (a + 1)) = pf_add (pf_c (Fin.ofNat 5 a)) (pf_c (Fin.ofNat 5 1)) := by
  funext k
  have e : Fin.ofNat 5 (a + 1) = Fin.ofNat 5 a + Fin.ofNat 5 1 := by
    apply Fin.ext; simp [Fin.ofNat, Fin.add_def]
  by_cases hk : k = 0
  · subst hk; exact e
  · simp [pf_c, pf_add, hk]
def pf_ring : Lean.Grind.CommRing PF where
  add := pf_add
  mul := pf_mul
  neg := pf_neg
  sub := pf_sub
  natCast := ⟨fun n => pf_c (Fin.ofNat 5 n)⟩
  ofNat := fun n => ⟨pf_c (Fin.ofNat 5 n)⟩
  nsmul := ⟨fun n f => pf_mul (pf_c (Fin.ofNat 5 n)) f⟩
  npow := ⟨pf_pow⟩
  intCast := ⟨pf_ic⟩
  zsmul := ⟨fun i f => pf_mul (pf_ic i) f⟩
  add_zero := fun f => by
    show pf_add f (pf_c 0) = f
    rw [pf_c0]; funext k; show f k + 0 = f k; grind
  add_comm := fun f g => by
    show pf_add f g = pf_add g f
    funext k; show f k + g k = g k + f k; grind
  add_assoc := fun f g h => by
    show pf_add (pf_add f g) h = pf_add f (pf_add g h)
    funext k; show f k + g k + h k = f k + (g k + h k); grind
  mul_assoc := pf_mul_assoc
  mul_comm := pf_mul_comm
  mul_one := fun f => by
    show pf_mul f (pf_c 1) = f
    rw [pf_mul_comm, pf_one_mul]
  one_mul := pf_one_mul
  left_distrib := fun f g h => by
    show pf_mul f (pf_add g h) = pf_add (pf_mul f g) (pf_mul f h)
    rw [pf_mul_comm, pf_mul_addl, pf_mul_comm g, pf_mul_comm h]
  right_distrib := pf_mul_addl
  zero_mul := pf_zero_mul
  mul_zero := fun f => by
    show pf_mul f (pf_c 0) = pf_c 0
    rw [pf_mul_comm, pf_zero_mul]
  pow_zero := fun _ => rfl
  pow_succ := fun _ _ => rfl
  ofNat_succ := pf_cs
  ofNat_eq_natCast := fun _ => rfl
  nsmul_eq_natCast_mul := fun _ _ => rfl
  neg_add_cancel := fun f => by
    show pf_add (pf_neg f) f = pf_c 0
    rw [pf_c0]; funext k; show - f k + f k = 0; grind
  sub_eq_add_neg := fun _ _ => rfl
  neg_zsmul := fun i f => by
    show pf_mul (pf_ic (-i)) f = pf_neg (pf_mul (pf_ic i) f)
    rw [pf_ic_neg, pf_neg_mul]
  zsmul_natCast_eq_nsmul := fun _ _ => rfl
  intCast_ofNat := fun _ => rfl
  intCast_neg := pf_ic_neg
theorem pf_t1 (a b c : PF) : pf_mul a (pf_sub b c) = pf_sub (pf_mul a b) (pf_mul c a) := by
  letI := pf_ring
  show a * (b - c) = a * b - c * a
  grind
