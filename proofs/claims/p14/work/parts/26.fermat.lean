/-! Powers in the field of the rests by a polynomial that can't be split -/
theorem nl_perm : ∀ (l1 l2 : List Nat), l1.Nodup → (∀ x, x ∈ l1 → x ∈ l2) → l2.length ≤ l1.length → l1.Perm l2 := by
  intro l1
  induction l1 with
  | nil =>
    intro l2 _ _ h
    have : l2 = [] := List.eq_nil_of_length_eq_zero (Nat.le_zero.mp h)
    rw [this]
  | cons a l1 ih =>
    intro l2 nd sub hl
    have ha : a ∈ l2 := sub a (List.mem_cons_self ..)
    have nd2 := List.nodup_cons.mp nd
    have p1 := List.perm_cons_erase ha
    have p2 := ih (l2.erase a) nd2.2 (fun x hx => (List.mem_erase_of_ne (a := x) (b := a) (fun e => nd2.1 (by rw [← e]; exact hx))).mpr (sub x (List.mem_cons_of_mem _ hx))) (by
      rw [List.length_erase_of_mem ha]
      rw [List.length_cons] at hl
      omega)
    exact (p2.cons a).trans p1.symm
def pf_pd (f : Nat → PF) : List Nat → PF
  | [] => pf_c 1
  | a :: l => pf_mul (f a) (pf_pd f l)
theorem pf_pd_perm (f : Nat → PF) {l l' : List Nat} (h : l.Perm l') : pf_pd f l = pf_pd f l' := by
  induction h with
  | nil => rfl
  | cons a _ ih => show pf_mul (f a) _ = pf_mul (f a) _; rw [ih]
  | swap a b l =>
    show pf_mul (f b) (pf_mul (f a) (pf_pd f l)) = pf_mul (f a) (pf_mul (f b) (pf_pd f l))
    rw [← pf_mul_assoc, ← pf_mul_assoc, pf_mul_comm (f b)]
  | trans _ _ i1 i2 => rw [i1, i2]
theorem pf_pd_map (f : Nat → PF) (s : Nat → Nat) (l : List Nat) : pf_pd f (l.map s) = pf_pd (fun t => f (s t)) l := by
  induction l with
  | nil => rfl
  | cons a l ih => show pf_mul (f (s a)) _ = pf_mul (f (s a)) _; rw [ih]
theorem pf_pd_fin {f : Nat → PF} (l : List Nat) (h : ∀ t, t ∈ l → pf_fin (f t)) : pf_fin (pf_pd f l) := by
  induction l with
  | nil => exact pf_fin_c 1
  | cons a l ih => exact pf_fin_mul (h a (List.mem_cons_self ..)) (ih (fun t ht => h t (List.mem_cons_of_mem _ ht)))
/-- equal up to a multiple of F -/
def pf_cg (F a b : PF) : Prop := pf_dv F (pf_sub a b)
theorem pf_cg_r (F a : PF) : pf_cg F a a := by
  have e : pf_sub a a = pf_c 0 := by
    letI := pf_ring
    show a - a = 0
    grind
  show pf_dv F (pf_sub a a)
  rw [e]; exact pf_dv_0 F
theorem pf_cg_s {F a b : PF} (h : pf_cg F a b) : pf_cg F b a := by
  have e : pf_sub b a = pf_neg (pf_sub a b) := by
    letI := pf_ring
    show b - a = - (a - b)
    grind
  show pf_dv F (pf_sub b a)
  rw [e]; exact pf_dv_neg h
theorem pf_cg_t {F a b c : PF} (h : pf_cg F a b) (h2 : pf_cg F b c) : pf_cg F a c := by
  have e : pf_sub a c = pf_add (pf_sub a b) (pf_sub b c) := by
    letI := pf_ring
    show a - c = (a - b) + (b - c)
    grind
  show pf_dv F (pf_sub a c)
  rw [e]; exact pf_dv_add h h2
theorem pf_cg_m {F a b c d : PF} (h : pf_cg F a b) (h2 : pf_cg F c d) (fc : pf_fin c) (fb : pf_fin b) : pf_cg F (pf_mul a c) (pf_mul b d) := by
  have e : pf_sub (pf_mul a c) (pf_mul b d) = pf_add (pf_mul (pf_sub a b) c) (pf_mul b (pf_sub c d)) := by
    letI := pf_ring
    show a * c - b * d = (a - b) * c + b * (c - d)
    grind
  show pf_dv F (pf_sub (pf_mul a c) (pf_mul b d))
  rw [e]; exact pf_dv_add (pf_dv_mr h fc) (pf_dv_ml h2 fb)
/-- a small multiple of F is 0 -/
theorem pf_dv_ln {F a : PF} {d : Nat} (hF : pf_hd F d) (la : pf_ln a d) (h : pf_dv F a) : a = pf_c 0 := by
  rcases pf_hd_of d a la with z | ⟨e, he, hE⟩
  · exact z
  · obtain ⟨d', _, h1, _, h2, _⟩ := pf_dv_hd h hE (pf_hd_fin hF)
    have := pf_hd_u hF h1
    omega
theorem pf_cg_u {F a b : PF} {d : Nat} (hF : pf_hd F d) (la : pf_ln a d) (lb : pf_ln b d) (h : pf_cg F a b) : a = b := by
  have z := pf_dv_ln hF (pf_sub_ln la lb) h
  letI := pf_ring
  have z1 : a - b = 0 := z
  grind
def pf_dg (d t : Nat) : PF := fun k => if k < d then Fin.ofNat 5 (t / 5 ^ k) else 0
theorem pf_dg_ln (d t : Nat) : pf_ln (pf_dg d t) d := fun k hk => if_neg (by omega)
theorem pf_dg_mk {d t s : Nat} (h : pf_dg d t = pf_dg d s) : pf_mk d t = pf_mk d s := by
  funext k
  have e := congrFun h k
  have e2 : (if k < d then Fin.ofNat 5 (t / 5 ^ k) else 0) = (if k < d then Fin.ofNat 5 (s / 5 ^ k) else (0 : Fin 5)) := e
  show (if k < d then Fin.ofNat 5 (t / 5 ^ k) else if k = d then 1 else 0) = (if k < d then Fin.ofNat 5 (s / 5 ^ k) else if k = d then 1 else 0)
  by_cases c : k < d
  · rw [if_pos c, if_pos c] at e2
    rw [if_pos c, if_pos c, e2]
  · rw [if_neg c, if_neg c]
theorem pf_dg_inj {d t s : Nat} (ht : t < 5 ^ d) (hs : s < 5 ^ d) (h : pf_dg d t = pf_dg d s) : t = s := pf_mk_inj ht hs (pf_dg_mk h)
theorem pf_dg_0 (d : Nat) : pf_dg d 0 = pf_c 0 := by
  rw [pf_c0]
  funext k
  show (if k < d then Fin.ofNat 5 (0 / 5 ^ k) else 0) = 0
  rw [Nat.zero_div]
  exact ite_self _
theorem pf_dg_all {d : Nat} {f : PF} (h : pf_ln f d) : ∃ t, t < 5 ^ d ∧ f = pf_dg d t := by
  obtain ⟨t, ht, e⟩ := pf_mk_all d (pf_add f (pf_mn 1 d)) (pf_add_ln (pf_ln_mono h (by omega)) (pf_mn_ln 1 d)) (by
    show f d + (if d = d then 1 else 0) = 1
    rw [h d (Nat.le_refl d), if_pos rfl]; decide)
  refine ⟨t, ht, ?_⟩
  funext k
  have e2 : f k + (if k = d then 1 else 0) = (if k < d then Fin.ofNat 5 (t / 5 ^ k) else if k = d then 1 else 0) := congrFun e k
  show f k = if k < d then Fin.ofNat 5 (t / 5 ^ k) else 0
  by_cases c : k < d
  · rw [if_neg (show ¬ k = d by omega), if_pos c] at e2
    rw [if_pos c, ← e2]; grind
  · rw [if_neg c]; exact h k (by omega)
theorem pf_fermat {F c : PF} {d : Nat} (hF : pf_irr F d) (fc : pf_fin c) (nd : ¬ pf_dv F c) : pf_cg F (pf_pow c (5 ^ d - 1)) (pf_c 1) := by
  have fF := pf_hd_fin hF.1
  have ex : ∀ t : Nat, ∃ s : Nat, s < 5 ^ d ∧ pf_cg F (pf_mul (pf_dg d t) c) (pf_dg d s) := by
    intro t
    obtain ⟨n, hn⟩ := pf_fin_mul ⟨d, pf_dg_ln d t⟩ fc
    obtain ⟨q, r, hq, hr, e⟩ := pf_div hF.1 n _ hn
    obtain ⟨s, hs, es⟩ := pf_dg_all hr
    refine ⟨s, hs, q, ⟨_, hq⟩, ?_⟩
    rw [e, es]
    letI := pf_ring
    show q * F + pf_dg d s - pf_dg d s = q * F
    grind
  obtain ⟨σ, hσ⟩ := Classical.axiomOfChoice ex
  have cpc := pf_irr_cp hF fc nd
  have inj : ∀ t s, t < 5 ^ d → s < 5 ^ d → σ t = σ s → t = s := by
    intro t s ht hs e
    have h1 := (hσ t).2
    have h2 := (hσ s).2
    rw [← e] at h2
    have h3 := pf_cg_t h1 (pf_cg_s h2)
    apply pf_dg_inj ht hs
    apply pf_cg_u hF.1 (pf_dg_ln d t) (pf_dg_ln d s)
    refine pf_cp_dv cpc (pf_fin_sub ⟨_, pf_dg_ln d t⟩ ⟨_, pf_dg_ln d s⟩) ?_
    have e2 : pf_mul c (pf_sub (pf_dg d t) (pf_dg d s)) = pf_sub (pf_mul (pf_dg d t) c) (pf_mul (pf_dg d s) c) := by
      generalize pf_dg d t = a
      generalize pf_dg d s = b
      letI := pf_ring
      show c * (a - b) = a * c - b * c
      grind
    rw [e2]; exact h3
  have p5 : 0 < 5 ^ d := Nat.pow_pos (by decide)
  have σ0 : σ 0 = 0 := by
    apply pf_dg_inj (hσ 0).1 p5
    have h1 := (hσ 0).2
    rw [pf_dg_0, pf_zero_mul] at h1
    rw [pf_dg_0]
    exact (pf_cg_u hF.1 (pf_ln_mono (fun k hk => by rw [pf_c0]) (Nat.zero_le d)) (pf_dg_ln d _) h1).symm
  have mem : ∀ t, t ∈ List.range' 1 (5 ^ d - 1) ↔ 1 ≤ t ∧ t < 5 ^ d := by
    intro t
    rw [List.mem_range'_1]
    omega
  have nz : ∀ t, t ∈ List.range' 1 (5 ^ d - 1) → ¬ pf_dv F (pf_dg d t) := by
    intro t ht dv
    have h1 := (mem t).mp ht
    have h2 := pf_dv_ln hF.1 (pf_dg_ln d t) dv
    have h3 := pf_dg_inj h1.2 p5 (h2.trans (pf_dg_0 d).symm)
    omega
  have perm : ((List.range' 1 (5 ^ d - 1)).map σ).Perm (List.range' 1 (5 ^ d - 1)) := by
    apply nl_perm
    · show List.Pairwise (fun a b => a ≠ b) _
      rw [List.pairwise_map]
      have nr : (List.range' 1 (5 ^ d - 1)).Pairwise (fun a b => a ≠ b) := List.nodup_range'
      refine nr.imp_of_mem ?_
      intro a b ha hb hab e
      exact hab (inj a b ((mem a).mp ha).2 ((mem b).mp hb).2 e)
    · intro x hx
      obtain ⟨t, ht, rfl⟩ := List.mem_map.mp hx
      have h1 := (mem t).mp ht
      rw [mem]
      refine ⟨?_, (hσ t).1⟩
      by_cases c : σ t = 0
      · have := inj t 0 h1.2 p5 (c.trans σ0.symm)
        omega
      · omega
    · rw [List.length_map]; exact Nat.le_refl _
  have fdg : ∀ t, pf_fin (pf_dg d t) := fun t => ⟨d, pf_dg_ln d t⟩
  have pr : ∀ l : List Nat, pf_cg F (pf_mul (pf_pow c l.length) (pf_pd (pf_dg d) l)) (pf_pd (fun t => pf_dg d (σ t)) l) := by
    intro l
    induction l with
    | nil =>
      show pf_cg F (pf_mul (pf_c 1) (pf_c 1)) (pf_c 1)
      rw [pf_one_mul]; exact pf_cg_r F _
    | cons a l ih =>
      have h1 := pf_cg_m (hσ a).2 ih (pf_fin_mul (pf_fin_pow fc _) (pf_pd_fin l (fun t _ => fdg t))) (fdg _)
      have e : pf_mul (pf_pow c (a :: l).length) (pf_pd (pf_dg d) (a :: l)) = pf_mul (pf_mul (pf_dg d a) c) (pf_mul (pf_pow c l.length) (pf_pd (pf_dg d) l)) := by
        show pf_mul (pf_mul (pf_pow c l.length) c) (pf_mul (pf_dg d a) (pf_pd (pf_dg d) l)) = _
        generalize pf_pow c l.length = p
        generalize pf_pd (pf_dg d) l = w
        generalize pf_dg d a = z
        letI := pf_ring
        show p * c * (z * w) = z * c * (p * w)
        grind
      rw [e]; exact h1
  have cpP : ∀ l : List Nat, (∀ t, t ∈ l → ¬ pf_dv F (pf_dg d t)) → pf_cp F (pf_pd (pf_dg d) l) := by
    intro l
    induction l with
    | nil => intro _; exact pf_cp_1 F
    | cons a l ih =>
      intro h
      exact pf_cp_mul fF (fdg a) (pf_irr_cp hF (fdg a) (h a (List.mem_cons_self ..))) (ih (fun t ht => h t (List.mem_cons_of_mem _ ht)))
  have h1 := pr (List.range' 1 (5 ^ d - 1))
  rw [← pf_pd_map (pf_dg d) σ, pf_pd_perm _ perm, List.length_range'] at h1
  have h2 := cpP _ nz
  refine pf_cp_dv h2 (pf_fin_sub (pf_fin_pow fc _) (pf_fin_c 1)) ?_
  have h3 : pf_dv F (pf_sub (pf_mul (pf_pow c (5 ^ d - 1)) (pf_pd (pf_dg d) (List.range' 1 (5 ^ d - 1)))) (pf_pd (pf_dg d) (List.range' 1 (5 ^ d - 1)))) := h1
  generalize pf_pd (pf_dg d) (List.range' 1 (5 ^ d - 1)) = P at h3
  generalize pf_pow c (5 ^ d - 1) = w at h3
  have e : pf_mul P (pf_sub w (pf_c 1)) = pf_sub (pf_mul w P) P := by
    letI := pf_ring
    show P * (w - 1) = w * P - P
    grind
  rw [e]; exact h3
theorem pf_powA (f : PF) (a b : Nat) : pf_pow f (a + b) = pf_mul (pf_pow f a) (pf_pow f b) := by
  induction b with
  | zero => show pf_pow f a = pf_mul (pf_pow f a) (pf_c 1); rw [pf_mul_comm, pf_one_mul]
  | succ b ih => show pf_mul (pf_pow f (a + b)) f = pf_mul (pf_pow f a) (pf_mul (pf_pow f b) f); rw [ih, pf_mul_assoc]
/-- the inverse that the class works out -/
theorem pf_finv {F c : PF} {d : Nat} (hF : pf_irr F d) (fc : pf_fin c) (nd : ¬ pf_dv F c) : pf_cg F (pf_mul (pf_pow c (5 ^ d - 2)) c) (pf_c 1) := by
  have h := pf_fermat hF fc nd
  have h5 : 5 ^ 1 ≤ 5 ^ d := Nat.pow_le_pow_right (by decide) hF.2.1
  have e : 5 ^ d - 1 = (5 ^ d - 2) + 1 := by omega
  rw [e] at h
  exact h
