/-! The reference's operators on reduced forms -/
def pr_ok (w : PF × PF) : Prop := pf_ln w.1 9 ∧ pf_ln w.2 9 ∧ (∃ b, pf_hd w.2 b ∧ w.2 b = 1) ∧ pf_cp w.1 w.2
def ys_h (g : Nat → Fin 5) (v : Nat) (w : PF × PF) : Prop := fi_s g (2 * v) = w.1 ∧ fi_s g (2 * v + 1) = w.2
theorem pr_ok_n {w : PF × PF} (h : pr_ok w) : w.2 ≠ pf_c 0 := by
  obtain ⟨b, hb, _⟩ := h.2.2.1
  exact pf_hd_n0 hb
theorem pr_ok_f1 {w : PF × PF} (h : pr_ok w) : pf_fin w.1 := ⟨_, h.1⟩
theorem pr_ok_f2 {w : PF × PF} (h : pr_ok w) : pf_fin w.2 := ⟨_, h.2.1⟩
theorem pr_ok_red {w : PF × PF} (h : pr_ok w) : pr_red w.1 w.2 w.1 w.2 := by
  obtain ⟨b, hb, m⟩ := h.2.2.1
  exact pr_red_i (pr_ok_f1 h) hb m h.2.2.2
theorem pr_red_ok {P0 Q0 : PF} {w : PF × PF} (h : pr_red P0 Q0 w.1 w.2) (l1 : pf_ln w.1 9) (l2 : pf_ln w.2 9) : pr_ok w := ⟨l1, l2, h.2.1, h.2.2.1⟩
theorem pr_tk2 {a b : PF × PF} {P0 P1 Q1 : PF} (oa : pr_ok a) (ob : pr_ok b) (f1 : pf_fin P1) (tk : ys_tk P0 (pf_mul a.2 b.2) a.2 b.2 P1 Q1) : pr_red P0 (pf_mul a.2 b.2) P1 Q1 := by
  obtain ⟨x, hx, _⟩ := oa.2.2.1
  obtain ⟨y, hy, _⟩ := ob.2.2.1
  exact pr_red_tk tk f1 ⟨_, pf_mul_hd hx hy⟩ (pr_ok_f2 oa) (pr_ok_f2 ob) (pr_ok_n oa) (pr_ok_n ob) (fun f d hf dv => pr_prime hf (pr_ok_f2 oa) (pr_ok_f2 ob) dv)
/-- a number that stands at both numerators may go -/
theorem pr_red_c {A B A' B' P1 Q1 : PF} {c : Fin 5} (hc : c ≠ 0) (h : pr_red (pf_mul A (pf_mul (pf_c c) B)) (pf_mul A' (pf_mul (pf_c c) B')) P1 Q1) : pr_red (pf_mul A B) (pf_mul A' B') P1 Q1 := by
  obtain ⟨f1, hb, cp, K, e, hK, p, q⟩ := h
  have i : pf_mul (pf_c (c * c * c)) (pf_c c) = pf_c 1 := by rw [pf_c_mul, pf_inv c hc]
  refine ⟨f1, hb, cp, pf_mul (pf_c (c * c * c)) K, 0 + e, pf_mul_hd (pf_hd_c (pf_nz _ _ (pf_nz _ _ hc hc) hc)) hK, ?_, ?_⟩
  · generalize pf_c (c * c * c) = u at i
    generalize pf_c c = x at i p
    letI := pf_ring
    have i1 : u * x = 1 := i
    have p1 : A * (x * B) = P1 * K := p
    show A * B = P1 * (u * K)
    have e1 : P1 * (u * K) = u * (P1 * K) := by grind
    rw [e1, ← p1]; grind
  · generalize pf_c (c * c * c) = u at i
    generalize pf_c c = x at i q
    letI := pf_ring
    have i1 : u * x = 1 := i
    have p1 : A' * (x * B') = Q1 * K := q
    show A' * B' = Q1 * (u * K)
    have e1 : Q1 * (u * K) = u * (Q1 * K) := by grind
    rw [e1, ← p1]; grind
theorem pr_cp_c {P Q : PF} {c : Fin 5} (hc : c ≠ 0) (h : pf_cp P Q) : pf_cp (pf_mul (pf_c c) P) (pf_mul (pf_c c) Q) := by
  obtain ⟨u, v, hu, hv, e⟩ := h
  refine ⟨pf_mul u (pf_c (c * c * c)), pf_mul v (pf_c (c * c * c)), pf_fin_mul hu (pf_fin_c _), pf_fin_mul hv (pf_fin_c _), ?_⟩
  have e3 : pf_mul (pf_c (c * c * c)) (pf_c c) = pf_c 1 := by rw [pf_c_mul, pf_inv c hc]
  generalize pf_c (c * c * c) = i at e3
  generalize pf_c c = j at e3
  letI := pf_ring
  have e1 : u * P + v * Q = 1 := e
  have e2 : i * j = 1 := e3
  show (u * i) * (j * P) + (v * i) * (j * Q) = 1
  grind
/-- flip of a value that isn't 0 -/
theorem pr_ok_flip {w : PF × PF} {d : Nat} {c : Fin 5} (h : pr_ok w) (hd : pf_hd w.1 d) (hc : c = w.1 d * w.1 d * w.1 d) : c ≠ 0 ∧ pr_ok (pf_mul (pf_c c) w.2, pf_mul (pf_c c) w.1) := by
  have cz : c ≠ 0 := by rw [hc]; exact pf_nz _ _ (pf_nz _ _ hd.2 hd.2) hd.2
  refine ⟨cz, pf_c_ml _ h.2.1, pf_c_ml _ h.1, ⟨d, pf_c_hd cz hd, ?_⟩, pr_cp_c cz (pf_cp_s h.2.2.2)⟩
  show pf_mul (pf_c c) w.1 d = 1
  rw [pf_mul_cl]
  show c * w.1 d = 1
  rw [hc]; exact pf_inv _ hd.2
theorem pr_cp_pow2 {P Q : PF} (fP : pf_fin P) (fQ : pf_fin Q) (h : pf_cp P Q) (k : Nat) : pf_cp (pf_pow P k) (pf_pow Q k) :=
  pf_cp_pow (pf_fin_pow fP k) fQ (pf_cp_s (pf_cp_pow fQ fP (pf_cp_s h) k)) k
theorem pr_mon_pow {Q : PF} {b : Nat} (h : pf_hd Q b) (m : Q b = 1) (k : Nat) : pf_hd (pf_pow Q k) (k * b) ∧ pf_pow Q k (k * b) = 1 := by
  refine ⟨pf_pow_hd h k, ?_⟩
  induction k with
  | zero => rw [Nat.zero_mul]; rfl
  | succ k ih =>
    rw [Nat.succ_mul]
    show pf_cm (k * b + b) (pf_pow Q k) Q = 1
    rw [pf_cm_top (k * b) _ _ b (pf_pow_hd h k).1 h.1, ih, m]; decide
theorem pr_pow_red {w : PF × PF} (h : pr_ok w) (k : Nat) : pr_red (pf_pow w.1 k) (pf_pow w.2 k) (pf_pow w.1 k) (pf_pow w.2 k) := by
  obtain ⟨b, hb, m⟩ := h.2.2.1
  exact pr_red_i (pf_fin_pow (pr_ok_f1 h) k) (pr_mon_pow hb m k).1 (pr_mon_pow hb m k).2 (pr_cp_pow2 (pr_ok_f1 h) (pr_ok_f2 h) h.2.2.2 k)
theorem pr_sz_pow {P Q : PF} {m : Nat} (h : pr_sz P Q m) (k : Nat) : pr_sz (pf_pow P k) (pf_pow Q k) (k * m) := by
  refine ⟨pf_pow_ln h.1 k, pf_pow_ln h.2.1 k, ?_⟩
  rcases h.2.2 with h | h
  · exact Or.inl (pf_pow_hd h k)
  · exact Or.inr (pf_pow_hd h k)
theorem pr_sz_9 {P Q : PF} {m : Nat} (h : pr_sz P Q m) : (pf_ln P 9 ∧ pf_ln Q 9) ↔ m ≤ 8 := by
  refine ⟨fun l => ?_, fun l => ⟨pf_ln_mono h.1 (by omega), pf_ln_mono h.2.1 (by omega)⟩⟩
  rcases h.2.2 with h | h
  · have := pf_hd_lt h l.1; omega
  · have := pf_hd_lt h l.2; omega
theorem pr_sz_ex {w : PF × PF} (h : pr_ok w) : ∃ m, m ≤ 8 ∧ pr_sz w.1 w.2 m := by
  obtain ⟨b, hb, _⟩ := h.2.2.1
  have hb9 := pf_hd_lt hb h.2.1
  rcases pf_hd_of 9 w.1 h.1 with z | ⟨a, ha, hA⟩
  · refine ⟨b, by omega, ?_, hb.1, Or.inr hb⟩
    rw [z]; intro k _; rw [pf_c0]
  · by_cases c : a ≤ b
    · exact ⟨b, by omega, pf_ln_mono hA.1 (by omega), hb.1, Or.inr hb⟩
    · exact ⟨a, by omega, hA.1, pf_ln_mono hb.1 (by omega), Or.inl hA⟩
section
variable {f_count f_place f_opens f_top f_fault f_faultAt f_dry f_found : Int32} {a_c a_there a_kind a_num a_open a_openAt a_power a_table : Nat → Int32}
/-- raise: the powers themselves, or a fault -/
theorem yb_raise {post : SY → Prop} {g : Nat → Fin 5} {xv' xn xat : Int32} {a : PF × PF} {m : Nat} (v q : Nat) (hv : 2 * v + 1 < 52) (hq : q ≤ 8) (hn : xn = nI q ∨ (xn = -nI q ∧ 1 ≤ q)) (ha : ys_h g v a) (oa : pr_ok a) (sa : pr_sz a.1 a.2 m)
    (f3 : (xn = -nI q ∧ 1 ≤ q) → a.1 = pf_c 0 → post (f_count, f_place, f_opens, f_top, 3, xat, f_dry, f_found, fi_m g, a_there, a_kind, a_num, a_open, a_openAt, a_power, a_table))
    (f4 : ¬ ((xn = -nI q ∧ 1 ≤ q) ∧ a.1 = pf_c 0) → 8 < m * q → ∀ (g' : Nat → Fin 5) (mm : Int32) (pw : Nat → Int32), ya_fr v g g' → post (f_count, f_place, f_opens, f_top, 4, xat, f_dry, mm, fi_m g', a_there, a_kind, a_num, a_open, a_openAt, pw, a_table))
    (h : ¬ ((xn = -nI q ∧ 1 ≤ q) ∧ a.1 = pf_c 0) → m * q ≤ 8 → ∀ (g' : Nat → Fin 5) (mm : Int32) (pw : Nat → Int32) (R : PF × PF), ya_fr v g g' → ys_h g' v R → pr_ok R →
      ((xn = nI q ∧ pr_red (pf_pow a.1 q) (pf_pow a.2 q) R.1 R.2) ∨ ((xn = -nI q ∧ 1 ≤ q) ∧ pr_red (pf_pow a.2 q) (pf_pow a.1 q) R.1 R.2)) → post (f_count, f_place, f_opens, f_top, 0, f_faultAt, f_dry, mm, fi_m g', a_there, a_kind, a_num, a_open, a_openAt, pw, a_table))
    (ev : xv' = nI v := by rfl) : wpY_raise post (f_count, f_place, f_opens, f_top, 0, f_faultAt, f_dry, f_found, fi_m g, a_there, a_kind, a_num, a_open, a_openAt, a_power, a_table) xv' xn xat := by
  subst ev
  have o1 : pr_ok (pf_c 1, pf_c 1) := ⟨pf_ln_mono (pf_c_ln 1) (by omega), pf_ln_mono (pf_c_ln 1) (by omega), ⟨0, pf_hd_c (by decide), rfl⟩, pf_cp_1 _⟩
  -- the loop over a base w of the same size
  have loop : ∀ (w : PF × PF), pr_ok w → pr_sz w.1 w.2 m → (8 < m * q → ∀ (g' : Nat → Fin 5) (mm : Int32) (pw : Nat → Int32), ya_fr v g g' → post (f_count, f_place, f_opens, f_top, 4, xat, f_dry, mm, fi_m g', a_there, a_kind, a_num, a_open, a_openAt, pw, a_table)) →
      (m * q ≤ 8 → ∀ (g' : Nat → Fin 5) (mm : Int32) (pw : Nat → Int32), ya_fr v g g' → ys_h g' v (pf_pow w.1 q, pf_pow w.2 q) → post (f_count, f_place, f_opens, f_top, 0, f_faultAt, f_dry, mm, fi_m g', a_there, a_kind, a_num, a_open, a_openAt, pw, a_table)) →
      ∀ d k (g1 : Nat → Fin 5) (mm : Int32) (pw : Nat → Int32), k + d = q → m * k ≤ 8 → ya_fr v g g1 → ys_h g1 v (pf_pow w.1 k, pf_pow w.2 k) → fi_s g1 66 = w.1 → fi_s g1 67 = w.2 → wY_raise_81 post (nI v) xat (nI q) (d + 1) (nI k) f_count f_place f_opens f_top (0) f_faultAt f_dry (mm) (fi_m g1) a_there a_kind a_num a_open a_openAt (pw) a_table := by
    intro w ow sw h4 hh d
    induction d with
    | zero =>
      intro k g1 mm pw hk h8 fr hs _ _
      obtain rfl : k = q := by omega
      exact br_t (nI_le (Nat.le_refl _) (by omega)) (hh h8 g1 mm pw fr hs)
    | succ d ih =>
      intro k g1 mm pw hk h8 fr hs e66 e67
      refine br_f (nI_ge (by omega) (by omega)) (br_t rfl ?_)
      have sk := pr_sz_pow sw k
      rw [Nat.mul_comm] at sk
      have lk := (pr_sz_9 sk).mpr h8
      have ok : pr_ok (pf_pow w.1 k, pf_pow w.2 k) := pr_red_ok (w := (pf_pow w.1 k, pf_pow w.2 k)) (pr_pow_red ow k) lk.1 lk.2
      have e0 : fi_s g1 (2 * v) = pf_pow w.1 k := hs.1
      have e1 : fi_s g1 (2 * v + 1) = pf_pow w.2 k := hs.2
      refine yc_times v 33 hv (by omega) (by omega) (by rw [e0]; exact lk.1) (by rw [e1]; exact lk.2) (by rw [e66]; exact ow.1) (by rw [e67]; exact ow.2.1) (fun g2 m2 pw2 fr2 tk => ?_)
      have e66' : fi_s g1 (2 * 33) = w.1 := e66
      have e67' : fi_s g1 (2 * 33 + 1) = w.2 := e67
      rw [e0, e1, e66', e67'] at tk
      have rd := pr_tk2 (a := (pf_pow w.1 k, pf_pow w.2 k)) (b := w) ok ow ⟨_, fi_s_ln _ _⟩ tk
      have eq := pr_red_u rd (pr_pow_red ow (k + 1))
      have fr3 : ya_fr v g g2 := fun s h1 h2 h3 => by rw [fr2 s h1 h2 (by omega)]; exact fr s h1 h2 h3
      have sk1 := pr_sz_pow sw (k + 1)
      rw [Nat.mul_comm] at sk1
      refine yc_large v (by omega) (fun l1 l2 => nm_r (nI_1 k) ?_) (fun l => nm_r (nI_1 k) ?_)
      · rw [eq.1] at l1
        rw [eq.2] at l2
        exact ih (k + 1) g2 _ pw2 (by omega) ((pr_sz_9 sk1).mp ⟨l1, l2⟩) fr3 ⟨eq.1, eq.2⟩ (by rw [fr2 66 (by omega) (by omega) (by omega)]; exact e66) (by rw [fr2 67 (by omega) (by omega) (by omega)]; exact e67)
      · rw [eq.1, eq.2] at l
        have big : 8 < m * (k + 1) := by
          by_cases c : m * (k + 1) ≤ 8
          · exact absurd ((pr_sz_9 sk1).mpr c) l
          · omega
        have big2 : m * (k + 1) ≤ m * q := Nat.mul_le_mul_left m (by omega)
        have stop := h4 (by omega) g2 (nI m2) pw2 fr3
        cases d with
        | zero => exact br_t (nI_le (by omega) (by omega)) stop
        | succ d => exact br_f (nI_ge (by omega) (by omega)) (br_f (by decide) stop)
  have r38 : ∀ (w : PF × PF) (g1 : Nat → Fin 5), pr_ok w → pr_sz w.1 w.2 m → (8 < m * q → ∀ (g' : Nat → Fin 5) (mm : Int32) (pw : Nat → Int32), ya_fr v g g' → post (f_count, f_place, f_opens, f_top, 4, xat, f_dry, mm, fi_m g', a_there, a_kind, a_num, a_open, a_openAt, pw, a_table)) →
      (m * q ≤ 8 → ∀ (g' : Nat → Fin 5) (mm : Int32) (pw : Nat → Int32), ya_fr v g g' → ys_h g' v (pf_pow w.1 q, pf_pow w.2 q) → post (f_count, f_place, f_opens, f_top, 0, f_faultAt, f_dry, mm, fi_m g', a_there, a_kind, a_num, a_open, a_openAt, pw, a_table)) →
      ya_fr v g g1 → ys_h g1 v w → wY_raise_38 post (nI v) xat (nI q) f_count f_place f_opens f_top (0) f_faultAt f_dry f_found (fi_m g1) a_there a_kind a_num a_open a_openAt a_power a_table := by
    intro w g1 ow sw h4 hh fr hs
    unfold wY_raise_38
    refine yc_copy (2 * v) 66 (by omega) (by omega) ?_ (fi_2 v)
    refine yc_copy (2 * v + 1) 67 (by omega) (by omega) ?_ (fi_21 v)
    refine yc_become (2 * v) (by omega) ?_ (fi_2 v)
    refine yc_become (2 * v + 1) (by omega) ⟨q + 1, ?_⟩ (fi_21 v)
    have z1 : fi_z 1 = 1 := by decide
    rw [z1]
    have l20 : pf_ln (pf_c 1) 20 := pf_ln_mono (pf_c_ln 1) (by omega)
    refine loop w ow sw h4 hh q 0 _ _ _ (by omega) (by omega) (fun s h1 h2 h3 => ?_) ⟨?_, ?_⟩ ?_ ?_
    · rw [fi_sq h2, fi_sq h1, fi_sq (by omega), fi_sq (by omega)]; exact fr s h1 h2 h3
    · rw [fi_sq (by omega), fi_sp l20]; rfl
    · rw [fi_sp l20]; rfl
    · rw [fi_sq (by omega), fi_sq (by omega), fi_sq (by omega), fi_sp (fi_s_ln _ _)]; exact hs.1
    · rw [fi_sq (by omega), fi_sq (by omega), fi_sp (fi_s_ln _ _), fi_sq (by omega)]; exact hs.2
  have fits : ∀ w : PF × PF, pr_ok w → pr_sz w.1 w.2 m → m * q ≤ 8 → pr_ok (pf_pow w.1 q, pf_pow w.2 q) := by
    intro w ow sw h8
    have sk := pr_sz_pow sw q
    rw [Nat.mul_comm] at sk
    have lk := (pr_sz_9 sk).mpr h8
    exact pr_red_ok (w := (pf_pow w.1 q, pf_pow w.2 q)) (pr_pow_red ow q) lk.1 lk.2
  unfold wpY_raise
  rcases hn with e | ⟨e, hq1⟩
  · subst e
    have p0 : (0 : Int32) ≤ nI q := nI_pos' (by omega)
    have no : ¬ ((nI q = -nI q ∧ 1 ≤ q) ∧ a.1 = pf_c 0) := by
      intro t
      have e2 := congrArg Int32.toInt t.1.1
      rw [Int32.toInt_neg, nI_toInt (by omega), Int.bmod_eq_of_le (by omega) (by omega)] at e2
      have := t.1.2
      omega
    refine br_t p0 ?_
    unfold wY_raise_19 wY_raise_28
    exact br_t p0 (br_t p0 (r38 a g oa sa (f4 no) (fun h8 g' mm pw fr hs => h no h8 g' mm pw _ fr hs (fits a oa sa h8) (Or.inl ⟨rfl, pr_pow_red oa q⟩)) (fun _ _ _ _ => rfl) ha))
  · subst e
    have t : (-nI q).toInt = -(q : Int) := by
      rw [Int32.toInt_neg, nI_toInt (by omega)]
      exact Int.bmod_eq_of_le (by omega) (by omega)
    have p0 : ¬ (0 : Int32) ≤ -nI q := by
      rw [Int32.le_iff_toInt_le, t, fi_00]; omega
    have nn : -(-nI q) = nI q := Int32.neg_neg
    refine br_f p0 ?_
    refine yc_isZero v (by omega) (fun nz => ?_) (fun z => ?_)
    · rw [ha.1] at nz
      have no : ¬ ((-nI q = -nI q ∧ 1 ≤ q) ∧ a.1 = pf_c 0) := fun t => nz t.2
      refine br_t rfl ?_
      unfold wY_raise_19
      refine br_f p0 (yc_flip v hv (fun g' fr hf => ?_))
      unfold wY_raise_28
      refine br_f p0 ?_
      rw [nn]
      rcases hf with ⟨z, _, _⟩ | ⟨_, c, hc, e0, e1⟩
      · rw [ha.2] at z; exact absurd z (pr_ok_n oa)
      · rw [ha.1] at hc e1
        rw [ha.2] at e0
        rcases pf_fin_hd (pr_ok_f1 oa) with z | ⟨d, hd⟩
        · exact absurd z nz
        · obtain ⟨cz, ow⟩ := pr_ok_flip oa hd (hc d hd)
          have sw : pr_sz (pf_mul (pf_c c) a.2) (pf_mul (pf_c c) a.1) m := by
            refine ⟨pf_c_ml _ sa.2.1, pf_c_ml _ sa.1, ?_⟩
            rcases sa.2.2 with h | h
            · exact Or.inr (pf_c_hd cz h)
            · exact Or.inl (pf_c_hd cz h)
          refine r38 (pf_mul (pf_c c) a.2, pf_mul (pf_c c) a.1) g' ow sw (f4 no) (fun h8 g2 mm pw fr2 hs => h no h8 g2 mm pw _ fr2 hs (fits _ ow sw h8) (Or.inr ⟨⟨rfl, hq1⟩, ?_⟩)) (fun s h1 h2 h3 => fr s h1 h2 (by omega)) ⟨e0, e1⟩
          have hr := pr_pow_red ow q
          have pc : ∀ (A : PF) (n : Nat), ∃ c', c' ≠ 0 ∧ pf_pow (pf_mul (pf_c c) A) n = pf_mul (pf_c c') (pf_pow A n) ∧ c' = (Nat.rec (1 : Fin 5) (fun _ t => t * c) n) := by
            intro A n
            induction n with
            | zero => exact ⟨1, by decide, (pf_one_mul _).symm, rfl⟩
            | succ n ih =>
              obtain ⟨c', h1, h2, h3⟩ := ih
              refine ⟨c' * c, pf_nz _ _ h1 cz, ?_, by rw [h3]⟩
              show pf_mul (pf_pow (pf_mul (pf_c c) A) n) (pf_mul (pf_c c) A) = pf_mul (pf_c (c' * c)) (pf_mul (pf_pow A n) A)
              rw [h2, ← pf_c_mul]
              generalize pf_pow A n = p
              generalize pf_c c' = u
              generalize pf_c c = x
              letI := pf_ring
              show (u * p) * (x * A) = (u * x) * (p * A)
              grind
          obtain ⟨c1, hc1, x1, y1⟩ := pc a.2 q
          obtain ⟨c2, hc2, x2, y2⟩ := pc a.1 q
          have c12 : c1 = c2 := by rw [y1, y2]
          subst c12
          have hr2 : pr_red (pf_mul (pf_c 1) (pf_mul (pf_c c1) (pf_pow a.2 q))) (pf_mul (pf_c 1) (pf_mul (pf_c c1) (pf_pow a.1 q))) (pf_pow (pf_mul (pf_c c) a.2) q) (pf_pow (pf_mul (pf_c c) a.1) q) := by
            rw [pf_one_mul, pf_one_mul, ← x1, ← x2]; exact hr
          have hr3 := pr_red_c hc1 hr2
          rw [pf_one_mul, pf_one_mul] at hr3
          exact hr3
    · rw [ha.1] at z
      exact br_f (by decide) (br_t rfl (f3 ⟨rfl, hq1⟩ z))
end
