/-! Reduced forms: there is one, and both ways of reducing find it -/
/-- P1 / Q1 is the reduced form of P0 / Q0 -/
def pr_red (P0 Q0 P1 Q1 : PF) : Prop := pf_fin P1 ∧ (∃ b, pf_hd Q1 b ∧ Q1 b = 1) ∧ pf_cp P1 Q1 ∧ ∃ (K : PF) (e : Nat), pf_hd K e ∧ P0 = pf_mul P1 K ∧ Q0 = pf_mul Q1 K
theorem pr_dv_anti {A B : PF} {a b : Nat} (hA : pf_hd A a) (hB : pf_hd B b) (m1 : A a = 1) (m2 : B b = 1) (h1 : pf_dv A B) (h2 : pf_dv B A) : A = B := by
  obtain ⟨d, q, h3, h4, h5, h6⟩ := pf_dv_hd h1 hB (pf_hd_fin hA)
  obtain ⟨d', _, h7, _, h8, _⟩ := pf_dv_hd h2 hA (pf_hd_fin hB)
  have e1 := pf_hd_u h3 hA
  have e2 := pf_hd_u h7 hB
  have e3 : a = b := by omega
  subst e3
  have e4 : a - d = 0 := by omega
  rw [e4] at h4
  obtain ⟨c, hc, ec⟩ := pf_hd0 h4
  rw [ec, pf_mul_cl] at h6
  have h9 := congrFun h6 a
  rw [m2, m1] at h9
  have h10 : c = 1 := by grind
  rw [h6, h10]
  funext k; grind
theorem pr_red_u {P0 Q0 P1 Q1 P2 Q2 : PF} (h1 : pr_red P0 Q0 P1 Q1) (h2 : pr_red P0 Q0 P2 Q2) : P1 = P2 ∧ Q1 = Q2 := by
  obtain ⟨f1, ⟨b1, hb1, m1⟩, c1, K1, e1, hK1, p1, q1⟩ := h1
  obtain ⟨f2, ⟨b2, hb2, m2⟩, c2, K2, e2, hK2, p2, q2⟩ := h2
  -- P1 Q2 = P2 Q1, by cancelling K1 and K2
  have cr : pf_mul P1 Q2 = pf_mul P2 Q1 := by
    apply pf_cancel (pf_mul_hd hK1 hK2) (pf_fin_mul f1 (pf_hd_fin hb2)) (pf_fin_mul f2 (pf_hd_fin hb1))
    letI := pf_ring
    have a1 : P1 * K1 = P2 * K2 := p1.symm.trans p2
    have a2 : Q1 * K1 = Q2 * K2 := q1.symm.trans q2
    show P1 * Q2 * (K1 * K2) = P2 * Q1 * (K1 * K2)
    have a3 : P1 * Q2 * (K1 * K2) = (P1 * K1) * (Q2 * K2) := by grind
    have a4 : P2 * Q1 * (K1 * K2) = (P2 * K2) * (Q1 * K1) := by grind
    rw [a3, a4, a1, a2]
  have d1 : pf_dv Q1 Q2 := by
    refine pf_cp_dv (pf_cp_s c1) (pf_hd_fin hb2) ?_
    rw [cr]
    exact pf_dv_ml (pf_dv_r _) f2
  have d2 : pf_dv Q2 Q1 := by
    refine pf_cp_dv (pf_cp_s c2) (pf_hd_fin hb1) ?_
    rw [← cr]
    exact pf_dv_ml (pf_dv_r _) f1
  have eq := pr_dv_anti hb1 hb2 m1 m2 d1 d2
  refine ⟨?_, eq⟩
  rw [eq] at cr hb1
  exact pf_cancel hb1 f1 f2 cr
/-- a common factor more or less doesn't change the reduced form -/
theorem pr_red_m {P0 Q0 P1 Q1 C : PF} {c : Nat} (h : pr_red P0 Q0 P1 Q1) (hC : pf_hd C c) : pr_red (pf_mul P0 C) (pf_mul Q0 C) P1 Q1 := by
  obtain ⟨f1, hb, cp, K, e, hK, p, q⟩ := h
  refine ⟨f1, hb, cp, pf_mul K C, e + c, pf_mul_hd hK hC, ?_, ?_⟩
  · rw [p, pf_mul_assoc]
  · rw [q, pf_mul_assoc]
theorem pr_red_i {P Q : PF} {b : Nat} (fP : pf_fin P) (hQ : pf_hd Q b) (m : Q b = 1) (c : pf_cp P Q) : pr_red P Q P Q :=
  ⟨fP, ⟨b, hQ, m⟩, c, pf_c 1, 0, pf_hd_c (by decide), (pf_mul1 _).symm, (pf_mul1 _).symm⟩
theorem pr_irr_ex : ∀ (d : Nat) (f : PF), pf_hd f d → 1 ≤ d → ∃ (h : PF) (e : Nat), pf_irr h e ∧ pf_dv h f := by
  intro d
  induction d using Nat.strongRecOn with
  | ind d ih =>
    intro f hf hd
    by_cases c : pf_irr f d
    · exact ⟨f, d, c, pf_dv_r f⟩
    · have : ∃ (h : PF) (e : Nat), pf_hd h e ∧ pf_dv h f ∧ e ≠ 0 ∧ e ≠ d := by
        apply Classical.byContradiction
        intro no
        apply c
        refine ⟨hf, hd, fun h e hh dv => ?_⟩
        by_cases c0 : e = 0
        · exact Or.inl c0
        · by_cases c1 : e = d
          · exact Or.inr c1
          · exact absurd ⟨h, e, hh, dv, c0, c1⟩ no
      obtain ⟨h, e, hh, dv, c0, c1⟩ := this
      obtain ⟨e', _, h3, _, h4, _⟩ := pf_dv_hd dv hf (pf_hd_fin hh)
      have e5 := pf_hd_u hh h3
      obtain ⟨i, e6, hi, di⟩ := ih e (by omega) h hh (by omega)
      exact ⟨i, e6, hi, pf_dv_t di dv⟩
/-- no common divisor that can't be split: coprime -/
theorem pr_cp_of {P Q : PF} {b : Nat} (fP : pf_fin P) (hQ : pf_hd Q b) (no : ∀ (f : PF) (d : Nat), pf_irr f d → ¬ (pf_dv f P ∧ pf_dv f Q)) : pf_cp P Q := by
  obtain ⟨n, hn⟩ := pf_hd_fin hQ
  obtain ⟨g, s, t, hs, ht, eg, d1, d2⟩ := pf_bez n P Q fP hn
  have fg : pf_fin g := by rw [eg]; exact pf_fin_add (pf_fin_mul hs fP) (pf_fin_mul ht ⟨n, hn⟩)
  obtain ⟨e, _, he, _, _, _⟩ := pf_dv_hd d2 hQ fg
  by_cases c : e = 0
  · subst c
    obtain ⟨c, hc, ec⟩ := pf_hd0 he
    refine ⟨pf_mul (pf_c (c * c * c)) s, pf_mul (pf_c (c * c * c)) t, pf_fin_mul (pf_fin_c _) hs, pf_fin_mul (pf_fin_c _) ht, ?_⟩
    have e3 : pf_mul (pf_c (c * c * c)) (pf_c c) = pf_c 1 := by rw [pf_c_mul, pf_inv c hc]
    rw [← ec] at e3
    generalize pf_c (c * c * c) = i at e3
    letI := pf_ring
    have e1 : g = s * P + t * Q := eg
    have e4 : i * g = 1 := e3
    show (i * s) * P + (i * t) * Q = 1
    grind
  · obtain ⟨h, e2, hi, dh⟩ := pr_irr_ex e g he (by omega)
    exact absurd ⟨pf_dv_t dh d1, pf_dv_t dh d2⟩ (no h e2 hi)
/-- a factor that can't be split and divides a product divides a side -/
theorem pr_prime {f A B : PF} {d : Nat} (hf : pf_irr f d) (fA : pf_fin A) (fB : pf_fin B) (h : pf_dv f (pf_mul A B)) : pf_dv f A ∨ pf_dv f B := by
  by_cases c : pf_dv f A
  · exact Or.inl c
  · exact Or.inr (pf_cp_dv (pf_irr_cp hf fA c) fB h)
/-- what the reference's take leaves is the reduced form, if every prime divisor of the denominator divides one of the two slots -/
theorem pr_red_tk {P0 Q0 G H P1 Q1 : PF} (tk : ys_tk P0 Q0 G H P1 Q1) (f1 : pf_fin P1) (nQ : ∃ e, pf_hd Q0 e) (fG : pf_fin G) (fH : pf_fin H) (nG : G ≠ pf_c 0) (nH : H ≠ pf_c 0)
    (hd : ∀ (f : PF) (d : Nat), pf_irr f d → pf_dv f Q0 → pf_dv f G ∨ pf_dv f H) : pr_red P0 Q0 P1 Q1 := by
  obtain ⟨e0, hQ0⟩ := nQ
  rcases pf_0or P0 with z | nz
  · obtain ⟨a, b⟩ := tk.1 z
    subst a b
    refine ⟨pf_fin_c 0, ⟨0, pf_hd_c (by decide), rfl⟩, pf_cp_1 _, Q0, e0, hQ0, ?_, ?_⟩
    · rw [z, pf_zero_mul]
    · rw [pf_one_mul]
  · obtain ⟨K, e, b, hK, p, q, hb, m, ng, nh⟩ := tk.2 nz (pf_hd_n0 hQ0)
    refine ⟨f1, ⟨b, hb, m⟩, pr_cp_of f1 hb (fun f d hf dd => ?_), K, e, hK, p, q⟩
    have dq : pf_dv f Q0 := by rw [q]; exact pf_dv_mr dd.2 (pf_hd_fin hK)
    rcases hd f d hf dq with g | g
    · rcases ng with z | ng
      · exact nG z
      · exact ng f d hf g dd
    · rcases nh with z | nh
      · exact nH z
      · exact nh f d hf g dd
/-- the way by a greatest common divisor -/
theorem pr_red_gcd {P0 Q0 C P' Q' : PF} {b : Nat} {s : Fin 5} (hQ0 : ∃ e, pf_hd Q0 e) (fP : pf_fin P') (hC : ∃ c, pf_hd C c) (gc : ∀ f : PF, pf_fin f → pf_dv f P0 → pf_dv f Q0 → pf_dv f C) (p : P0 = pf_mul P' C) (q : Q0 = pf_mul Q' C) (hb : pf_hd Q' b) (hs : s = Q' b * Q' b * Q' b) :
    pr_red P0 Q0 (pf_mul (pf_c s) P') (pf_mul (pf_c s) Q') := by
  obtain ⟨c, hC⟩ := hC
  have sz : s ≠ 0 := by rw [hs]; exact pf_nz _ _ (pf_nz _ _ hb.2 hb.2) hb.2
  have cp : pf_cp P' Q' := by
    refine pr_cp_of fP hb (fun f d hf dd => ?_)
    have ff := pf_hd_fin hf.1
    have d1 : pf_dv (pf_mul f C) P0 := by
      obtain ⟨u, hu, eu⟩ := dd.1
      exact ⟨u, hu, by rw [p, eu, pf_mul_assoc]⟩
    have d2 : pf_dv (pf_mul f C) Q0 := by
      obtain ⟨u, hu, eu⟩ := dd.2
      exact ⟨u, hu, by rw [q, eu, pf_mul_assoc]⟩
    have d3 := gc (pf_mul f C) (pf_fin_mul ff (pf_hd_fin hC)) d1 d2
    have h1 := pf_mul_hd hf.1 hC
    have h2 := hf.2.1
    exact pf_nd_lt h1 hC (by omega) d3
  have cs : pf_cp (pf_mul (pf_c s) P') (pf_mul (pf_c s) Q') := by
    obtain ⟨u, v, hu, hv, e⟩ := cp
    refine ⟨pf_mul u (pf_c (s * s * s)), pf_mul v (pf_c (s * s * s)), pf_fin_mul hu (pf_fin_c _), pf_fin_mul hv (pf_fin_c _), ?_⟩
    have e3 : pf_mul (pf_c (s * s * s)) (pf_c s) = pf_c 1 := by rw [pf_c_mul, pf_inv s sz]
    generalize pf_c (s * s * s) = i at e3
    generalize pf_c s = j at e3
    letI := pf_ring
    have e1 : u * P' + v * Q' = 1 := e
    have e2 : i * j = 1 := e3
    show (u * i) * (j * P') + (v * i) * (j * Q') = 1
    grind
  refine ⟨pf_fin_mul (pf_fin_c _) fP, ⟨b, pf_c_hd sz hb, ?_⟩, cs, pf_mul (pf_c (s * s * s)) C, 0 + c, pf_mul_hd (pf_hd_c (pf_nz _ _ (pf_nz _ _ sz sz) sz)) hC, ?_, ?_⟩
  · rw [pf_mul_cl]
    show s * Q' b = 1
    rw [hs]; exact pf_inv _ hb.2
  · rw [p]
    have e3 : pf_mul (pf_c s) (pf_c (s * s * s)) = pf_c 1 := by rw [pf_mul_comm, pf_c_mul, pf_inv s sz]
    generalize pf_c (s * s * s) = i at e3
    generalize pf_c s = j at e3
    letI := pf_ring
    have e2 : j * i = 1 := e3
    show P' * C = (j * P') * (i * C)
    grind
  · rw [q]
    have e3 : pf_mul (pf_c s) (pf_c (s * s * s)) = pf_c 1 := by rw [pf_mul_comm, pf_c_mul, pf_inv s sz]
    generalize pf_c (s * s * s) = i at e3
    generalize pf_c s = j at e3
    letI := pf_ring
    have e2 : j * i = 1 := e3
    show Q' * C = (j * Q') * (i * C)
    grind
