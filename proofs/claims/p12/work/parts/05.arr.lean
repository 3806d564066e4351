/-! Arrays of numbers modulo 5: contents, writes into rows of cells, the remainder -/
def fi_I (x : Fin 5) : Int32 := nI x.val
def fi_m (g : Nat → Fin 5) : Nat → Int32 := fun k => fi_I (g k)
def fi_w (g : Nat → Fin 5) (b : Nat) (P : Nat → Fin 5) (j : Nat) : Nat → Fin 5 := fun k => if b ≤ k ∧ k < b + j then P (k - b) else g k
def fi_z (z : Int32) : Fin 5 := ⟨(z.toInt % 5).toNat, by omega⟩
theorem fi_0 : ∀ x : Fin 5, fi_I x = 0 ↔ x = 0 := by decide
theorem fi_lt : ∀ x : Fin 5, ¬ fi_I x < 0 := by decide
theorem fi_inj : ∀ x y : Fin 5, fi_I x = fi_I y → x = y := by decide
theorem fi_w_0 (g : Nat → Fin 5) (b : Nat) (P : Nat → Fin 5) : fi_w g b P 0 = g := by
  funext k
  show (if b ≤ k ∧ k < b + 0 then P (k - b) else g k) = g k
  rw [if_neg (by omega)]
theorem fi_w_in {g : Nat → Fin 5} {b : Nat} {P : Nat → Fin 5} {j k : Nat} (h : k < j) : fi_w g b P j (b + k) = P k := by
  show (if b ≤ b + k ∧ b + k < b + j then P (b + k - b) else g (b + k)) = P k
  rw [if_pos (by omega), Nat.add_sub_cancel_left]
theorem fi_w_out {g : Nat → Fin 5} {b : Nat} {P : Nat → Fin 5} {j k : Nat} (h : k < b ∨ b + j ≤ k) : fi_w g b P j k = g k := by
  show (if b ≤ k ∧ k < b + j then P (k - b) else g k) = g k
  rw [if_neg (by omega)]
theorem fi_w_s (g : Nat → Fin 5) (b : Nat) (P : Nat → Fin 5) (j : Nat) : upd (fi_m (fi_w g b P j)) (b + j) (fi_I (P j)) = fi_m (fi_w g b P (j + 1)) := by
  funext k
  show (if k = b + j then fi_I (P j) else fi_I (fi_w g b P j k)) = fi_I (fi_w g b P (j + 1) k)
  by_cases h : k = b + j
  · subst h; rw [if_pos rfl, fi_w_in (by omega)]
  · rw [if_neg h]
    by_cases h2 : b ≤ k ∧ k < b + j
    · obtain ⟨i, rfl⟩ : ∃ i, k = b + i := ⟨k - b, by omega⟩
      rw [fi_w_in (by omega), fi_w_in (by omega)]
    · rw [fi_w_out (by omega), fi_w_out (by omega)]
def fi_u (g : Nat → Fin 5) (k : Nat) (x : Fin 5) : Nat → Fin 5 := fun j => if j = k then x else g j
theorem fi_upd (g : Nat → Fin 5) (k : Nat) (x : Fin 5) : upd (fi_m g) k (fi_I x) = fi_m (fi_u g k x) := by
  funext j
  show (if j = k then fi_I x else fi_I (g j)) = fi_I (if j = k then x else g j)
  by_cases h : j = k
  · rw [if_pos h, if_pos h]
  · rw [if_neg h, if_neg h]
theorem fi_5 : (5 : Int32).toInt = 5 := by decide
theorem fi_00 : (0 : Int32).toInt = 0 := by decide
theorem fi_tm (a : Int) : a.tmod 5 = a % 5 ∨ (a.tmod 5 = a % 5 - 5 ∧ a % 5 ≠ 0 ∧ a < 0) := by
  rw [Int.tmod_eq_emod]
  by_cases h : 0 ≤ a ∨ (5 : Int) ∣ a
  · rw [if_pos h]; omega
  · rw [if_neg h]; right; omega
theorem fi_zT (z : Int32) : (fi_I (fi_z z)).toInt = z.toInt % 5 := by
  have c : (fi_I (fi_z z)).toInt = ((z.toInt % 5).toNat : Int) := nI_toInt (by show (z.toInt % 5).toNat < _; omega)
  rw [c]; omega
theorem fi_rT (z : Int32) : (z - z / 5 * 5).toInt = z.toInt.tmod 5 := by
  have e := rem_toInt z 5
  rw [fi_5] at e; exact e
theorem fi_zP (z : Int32) (h : 0 ≤ z - z / 5 * 5) : z - z / 5 * 5 = fi_I (fi_z z) := by
  apply Int32.toInt_inj.mp
  rw [Int32.le_iff_toInt_le, fi_rT, fi_00] at h
  rw [fi_rT, fi_zT]
  rcases fi_tm z.toInt with e | ⟨e, e2, e3⟩
  · exact e
  · omega
theorem fi_zN (z : Int32) (h : ¬ 0 ≤ z - z / 5 * 5) : z - z / 5 * 5 + 5 = fi_I (fi_z z) := by
  apply Int32.toInt_inj.mp
  rw [Int32.not_le, Int32.lt_iff_toInt_lt, fi_rT, fi_00] at h
  rw [Int32.toInt_add, fi_rT, fi_zT, fi_5]
  rcases fi_tm z.toInt with e | ⟨e, e2, e3⟩
  · omega
  · rw [e]
    have b : (z.toInt % 5 - 5 + 5).bmod (2 ^ 32) = z.toInt % 5 - 5 + 5 := Int.bmod_eq_of_le (by omega) (by omega)
    rw [b]; omega
theorem yc_mod {post : Int32 → Prop} {z : Int32} {x : Fin 5} (e : fi_z z = x) (h : post (fi_I x)) : wpY_mod post z := by
  subst e
  refine ⟨by decide, fun y ey => ?_⟩
  subst ey
  refine br_c (fun c => ?_) (fun c => ?_)
  · rw [fi_zP z c]; exact h
  · rw [fi_zN z c]; exact h
theorem fi_ma : ∀ a b c : Fin 5, fi_z (fi_I a + fi_I b * fi_I c) = a + b * c := by decide +kernel
theorem fi_ms : ∀ a b c : Fin 5, fi_z (fi_I a - fi_I b * fi_I c) = a - b * c := by decide +kernel
theorem fi_ma' : ∀ a b c : Fin 5, fi_z (fi_I b * fi_I c + fi_I a) = b * c + a := by decide +kernel
theorem fi_mm : ∀ a b : Fin 5, fi_z (fi_I a * fi_I b) = a * b := by decide +kernel
theorem fi_m1 : ∀ a b : Fin 5, fi_z (fi_I a + 1 * fi_I b) = a + b := by decide +kernel
theorem fi_mn : ∀ a b : Fin 5, fi_z (fi_I a + (-1) * fi_I b) = a - b := by decide +kernel
theorem fi_zi : ∀ a : Fin 5, fi_z (fi_I a) = a := by decide +kernel
theorem fi_mk : ∀ k : Fin 20, ∀ a : Fin 5, fi_z (nI k.val * fi_I a) = Fin.ofNat 5 k.val * a := by decide +kernel
theorem yc_inv {post : Int32 → Prop} {x : Fin 5} (h : post (fi_I (x * x * x))) : wpY_inverse post (fi_I x) := by
  have t : ∀ x : Fin 5, (fi_I x = 2 → fi_I (x * x * x) = 3) ∧ (¬ fi_I x = 2 → ((fi_I x = 3 → fi_I (x * x * x) = 2) ∧ (¬ fi_I x = 3 → fi_I (x * x * x) = fi_I x))) := by decide
  refine br_c (fun c => ?_) (fun c => br_c (fun d => ?_) (fun d => ?_))
  · rw [← (t x).1 c]; exact h
  · rw [← ((t x).2 c).1 d]; exact h
  · rw [← ((t x).2 c).2 d]; exact h
/-- the slot s of 20 numbers as a polynomial -/
def fi_s (g : Nat → Fin 5) (s : Nat) : PF := fun k => if k < 20 then g (20 * s + k) else 0
theorem fi_s_ln (g : Nat → Fin 5) (s : Nat) : pf_ln (fi_s g s) 20 := fun k hk => by
  show (if k < 20 then g (20 * s + k) else 0) = 0
  rw [if_neg (by omega)]
theorem fi_s_at {g : Nat → Fin 5} {s k : Nat} (h : k < 20) : fi_s g s k = g (20 * s + k) := if_pos h
/-- slot s holds P -/
def fi_p (g : Nat → Fin 5) (s : Nat) (P : PF) : Nat → Fin 5 := fi_w g (20 * s) P 20
theorem fi_sp {g : Nat → Fin 5} {s : Nat} {P : PF} (h : pf_ln P 20) : fi_s (fi_p g s P) s = P := by
  funext k
  by_cases c : k < 20
  · rw [fi_s_at c]; exact fi_w_in c
  · rw [fi_s_ln _ _ k (by omega), h k (by omega)]
theorem fi_sq {g : Nat → Fin 5} {s t : Nat} {P : PF} (h : t ≠ s) : fi_s (fi_p g s P) t = fi_s g t := by
  funext k
  by_cases c : k < 20
  · rw [fi_s_at c, fi_s_at c]; exact fi_w_out (by omega)
  · rw [fi_s_ln _ _ k (by omega), fi_s_ln _ _ k (by omega)]
theorem fi_pc {g : Nat → Fin 5} {s : Nat} {P Q : PF} (h : ∀ k, k < 20 → P k = Q k) : fi_p g s P = fi_p g s Q := by
  funext k
  show (if 20 * s ≤ k ∧ k < 20 * s + 20 then P (k - 20 * s) else g k) = (if 20 * s ≤ k ∧ k < 20 * s + 20 then Q (k - 20 * s) else g k)
  by_cases c : 20 * s ≤ k ∧ k < 20 * s + 20
  · rw [if_pos c, if_pos c, h _ (by omega)]
  · rw [if_neg c, if_neg c]
theorem fi_ix (s j : Nat) : (20 : Int32) * nI s + nI j = nI (20 * s + j) := by
  show nI 20 * nI s + nI j = _
  rw [pk_mul, nI_add]
theorem fi_ix0 (s : Nat) : (20 : Int32) * nI s = nI (20 * s) := pk_mul 20 s
