/-! Monic polynomials by code; what trial division finds can't be split; the state of a factorization -/
def pf_mk (d t : Nat) : PF := fun k => if k < d then Fin.ofNat 5 (t / 5 ^ k) else if k = d then 1 else 0
theorem pf_mk_ln (d t : Nat) : pf_ln (pf_mk d t) (d + 1) := fun k hk => by
  show (if k < d then Fin.ofNat 5 (t / 5 ^ k) else if k = d then 1 else 0) = 0
  rw [if_neg (by omega), if_neg (by omega)]
theorem pf_mk_top (d t : Nat) : pf_mk d t d = 1 := by
  show (if d < d then Fin.ofNat 5 (t / 5 ^ d) else if d = d then 1 else 0) = 1
  rw [if_neg (by omega), if_pos rfl]
theorem pf_mk_hd (d t : Nat) : pf_hd (pf_mk d t) d := ⟨pf_mk_ln d t, by rw [pf_mk_top]; decide⟩
theorem pf_mk_all : ∀ (d : Nat) (h : PF), pf_ln h (d + 1) → h d = 1 → ∃ t, t < 5 ^ d ∧ h = pf_mk d t := by
  intro d
  induction d with
  | zero =>
    intro h hl h1
    refine ⟨0, by decide, ?_⟩
    funext k
    show h k = (if k < 0 then Fin.ofNat 5 (0 / 5 ^ k) else if k = 0 then 1 else 0)
    rw [if_neg (by omega)]
    by_cases hk : k = 0
    · rw [if_pos hk, hk, h1]
    · rw [if_neg hk, hl k (by omega)]
  | succ d ih =>
    intro h hl h1
    obtain ⟨t, ht, e⟩ := ih (pf_tl h) (pf_ln_tl hl) h1
    refine ⟨(h 0).val + 5 * t, ?_, ?_⟩
    · have := (h 0).isLt
      rw [Nat.pow_succ]; omega
    · funext k
      cases k with
      | zero =>
        show h 0 = (if 0 < d + 1 then Fin.ofNat 5 (((h 0).val + 5 * t) / 5 ^ 0) else if 0 = d + 1 then 1 else 0)
        rw [if_pos (by omega)]
        apply Fin.ext
        show (h 0).val = ((h 0).val + 5 * t) / 5 ^ 0 % 5
        have := (h 0).isLt
        rw [Nat.pow_zero, Nat.div_one]; omega
      | succ j =>
        have e2 : h (j + 1) = pf_mk d t j := congrFun e j
        rw [e2]
        show (if j < d then Fin.ofNat 5 (t / 5 ^ j) else if j = d then 1 else 0) = (if j + 1 < d + 1 then Fin.ofNat 5 (((h 0).val + 5 * t) / 5 ^ (j + 1)) else if j + 1 = d + 1 then 1 else 0)
        have e3 : ((h 0).val + 5 * t) / 5 ^ (j + 1) = t / 5 ^ j := by
          rw [Nat.pow_succ, Nat.mul_comm (5 ^ j) 5, ← Nat.div_div_eq_div_mul]
          have := (h 0).isLt
          have e4 : ((h 0).val + 5 * t) / 5 = t := by omega
          rw [e4]
        rw [e3]
        by_cases c1 : j < d
        · rw [if_pos c1, if_pos (show j + 1 < d + 1 by omega)]
        · rw [if_neg c1, if_neg (show ¬ j + 1 < d + 1 by omega)]
          by_cases c2 : j = d
          · rw [if_pos c2, if_pos (show j + 1 = d + 1 by omega)]
          · rw [if_neg c2, if_neg (show ¬ j + 1 = d + 1 by omega)]
theorem pf_c_ml (c : Fin 5) {h : PF} {n : Nat} (hl : pf_ln h n) : pf_ln (pf_mul (pf_c c) h) n := fun k hk => by
  rw [pf_mul_cl]; show c * h k = 0; rw [hl k hk]; grind
theorem pf_c_inv {c : Fin 5} (hc : c ≠ 0) (h : PF) : pf_mul (pf_c c) (pf_mul (pf_c (c * c * c)) h) = h := by
  rw [← pf_mul_assoc, pf_c_mul]
  have e : c * (c * c * c) = 1 := by have := pf_inv c hc; grind
  rw [e, pf_one_mul]
theorem pf_c_inv' {c : Fin 5} (hc : c ≠ 0) (h : PF) : pf_mul (pf_c (c * c * c)) (pf_mul (pf_c c) h) = h := by
  rw [← pf_mul_assoc, pf_c_mul, pf_inv c hc, pf_one_mul]
theorem pf_norm {h : PF} {e : Nat} (hh : pf_hd h e) : ∃ s, s < 5 ^ e ∧ pf_dv (pf_mk e s) h := by
  obtain ⟨s, hs, es⟩ := pf_mk_all e (pf_mul (pf_c (h e * h e * h e)) h) (pf_c_ml _ hh.1) (by
    rw [pf_mul_cl]; show h e * h e * h e * h e = 1; exact pf_inv _ hh.2)
  refine ⟨s, hs, pf_c (h e), pf_fin_c _, ?_⟩
  rw [← es, pf_c_inv hh.2]
theorem pf_irr_mk {d t : Nat} {r : PF} (hd : 1 ≤ d) (hfr : ∀ e s, 1 ≤ e → e < d → s < 5 ^ e → ¬ pf_dv (pf_mk e s) r) (h : pf_dv (pf_mk d t) r) : pf_irr (pf_mk d t) d := by
  refine ⟨pf_mk_hd d t, hd, ?_⟩
  intro g e hg dg
  obtain ⟨e', _, h1, _, h2, _⟩ := pf_dv_hd dg (pf_mk_hd d t) (pf_hd_fin hg)
  have h3 := pf_hd_u hg h1
  by_cases c1 : e = 0
  · exact Or.inl c1
  · by_cases c2 : e = d
    · exact Or.inr c2
    · exfalso
      obtain ⟨s, hs, ds⟩ := pf_norm hg
      exact hfr e s (by omega) (by omega) hs (pf_dv_t ds (pf_dv_t dg h))
def pf_fr (d : Nat) (r : PF) (D : Nat) : Prop := ∀ e s, 1 ≤ e → e < d → 2 * e ≤ D → s < 5 ^ e → ¬ pf_dv (pf_mk e s) r
theorem pf_irr_last {r : PF} {D d : Nat} (hr : pf_hd r D) (hD : 1 ≤ D) (h2 : D < 2 * d) (hfr : pf_fr d r D) : pf_irr r D := by
  refine ⟨hr, hD, ?_⟩
  intro g e hg dg
  obtain ⟨e', q, h1, hq, h3, eq⟩ := pf_dv_hd dg hr (pf_hd_fin hg)
  have h4 := pf_hd_u hg h1
  subst h4
  by_cases c1 : e = 0
  · exact Or.inl c1
  · by_cases c2 : e = D
    · exact Or.inr c2
    · exfalso
      by_cases c3 : 2 * e ≤ D
      · obtain ⟨s, hs, ds⟩ := pf_norm hg
        exact hfr e s (by omega) (by omega) c3 hs (pf_dv_t ds dg)
      · obtain ⟨s, hs, ds⟩ := pf_norm hq
        refine hfr (D - e) s (by omega) (by omega) (by omega) hs (pf_dv_t ds ⟨g, pf_hd_fin hg, ?_⟩)
        rw [eq, pf_mul_comm]
theorem pf_c_hd {c : Fin 5} (hc : c ≠ 0) {f : PF} {d : Nat} (hf : pf_hd f d) : pf_hd (pf_mul (pf_c c) f) d := by
  have h := pf_mul_hd (pf_hd_c hc) hf
  rw [Nat.zero_add] at h; exact h
theorem pf_irr_c {c : Fin 5} (hc : c ≠ 0) {f : PF} {d : Nat} (hf : pf_irr f d) : pf_irr (pf_mul (pf_c c) f) d := by
  refine ⟨pf_c_hd hc hf.1, hf.2.1, fun h e hh dh => hf.2.2 h e hh (pf_dv_t dh ?_)⟩
  exact ⟨pf_c (c * c * c), pf_fin_c _, (pf_c_inv' hc f).symm⟩
theorem pf_cancel {u v g : PF} {d : Nat} (hg : pf_hd g d) (fu : pf_fin u) (fv : pf_fin v) (h : pf_mul u g = pf_mul v g) : u = v := by
  have e : pf_mul (pf_sub u v) g = pf_c 0 := by
    letI := pf_ring
    have h1 : u * g = v * g := h
    show (u - v) * g = 0
    grind
  rcases pf_fin_hd (pf_fin_sub fu fv) with z | ⟨m, hm⟩
  · letI := pf_ring
    have z1 : u - v = 0 := z
    grind
  · exact absurd e (pf_hd_n0 (pf_mul_hd hm hg))
def pf_ns (n D : Nat → Nat) : Nat → Nat
  | 0 => 0
  | m + 1 => pf_ns n D m + n m * D m
theorem pf_ns_congr {n D n' D' : Nat → Nat} {m : Nat} (e : ∀ i, i < m → n i = n' i ∧ D i = D' i) : pf_ns n D m = pf_ns n' D' m := by
  induction m with
  | zero => rfl
  | succ m ih =>
    show pf_ns n D m + n m * D m = pf_ns n' D' m + n' m * D' m
    rw [ih (fun i hi => e i (by omega)), (e m (by omega)).1, (e m (by omega)).2]
/-- a = r times the powers of the m factors found so far -/
def pf_Sp (a r : PF) (m : Nat) (F : Nat → PF) (D n : Nat → Nat) : Prop :=
  (∀ i, i < m → pf_irr (F i) (D i)) ∧ (∀ i, i < m → 1 ≤ n i) ∧ (∀ i, i < m → ¬ pf_dv (F i) r) ∧
  (∀ i, i < m → ∀ j, j < m → i ≠ j → pf_cp (F i) (F j)) ∧ (∀ i, i < m → pf_dv (pf_pow (F i) (n i)) a) ∧
  (∀ i, i < m → ¬ pf_dv (pf_pow (F i) (n i + 1)) a) ∧
  ∃ G : PF, pf_hd G (pf_ns n D m) ∧ a = pf_mul r G ∧ ∀ h : PF, pf_fin h → (∀ i, i < m → pf_cp h (F i)) → pf_cp h G
theorem pf_Sp0 (a : PF) (F : Nat → PF) (D n : Nat → Nat) : pf_Sp a a 0 F D n := by
  refine ⟨fun i hi => by omega, fun i hi => by omega, fun i hi => by omega, fun i hi => by omega, fun i hi => by omega, fun i hi => by omega, pf_c 1, pf_hd_c (by decide), ?_, fun h _ _ => pf_cp_1 h⟩
  rw [pf_mul_comm, pf_one_mul]
theorem pf_Sp_step {a r r' f : PF} {m k d : Nat} {F F' : Nat → PF} {D n D' n' : Nat → Nat} (S : pf_Sp a r m F D n)
    (hf : pf_irr f d) (hk : 1 ≤ k) (er : r = pf_mul r' (pf_pow f k)) (nd : ¬ pf_dv f r') (fr : pf_fin r')
    (eF : ∀ i, i < m → F' i = F i) (eD : ∀ i, i < m → D' i = D i) (en : ∀ i, i < m → n' i = n i) (eFm : F' m = f) (eDm : D' m = d) (enm : n' m = k) :
    pf_Sp a r' (m + 1) F' D' n' := by
  obtain ⟨s1, s2, s3, s4, s5, s6, G, hG, ea, cG⟩ := S
  have ff := pf_hd_fin hf.1
  have cpf : ∀ i, i < m → pf_cp (F i) f := by
    intro i hi
    apply pf_irr_cp (s1 i hi) ff
    intro d1
    apply s3 i hi
    rw [er]
    apply pf_dv_ml _ fr
    obtain ⟨k', rfl⟩ : ∃ k', k = k' + 1 := ⟨k - 1, by omega⟩
    exact pf_dv_ml d1 (pf_fin_pow ff k')
  have hG' : pf_hd (pf_mul G (pf_pow f k)) (pf_ns n D m + k * d) := pf_mul_hd hG (pf_pow_hd hf.1 k)
  have ea' : a = pf_mul r' (pf_mul G (pf_pow f k)) := by
    rw [ea, er]
    generalize pf_pow f k = p
    letI := pf_ring
    show r' * p * G = r' * (G * p)
    grind
  have fG := pf_hd_fin hG
  have dvfa : pf_dv (pf_pow f k) a := by
    rw [ea']; exact pf_dv_ml (pf_dv_ml (pf_dv_r _) fG) fr
  have ndfa : ¬ pf_dv (pf_pow f (k + 1)) a := by
    intro dd
    obtain ⟨q, hq, eq⟩ := dd
    have e1 : pf_mul (pf_mul q f) (pf_pow f k) = pf_mul (pf_mul r' G) (pf_pow f k) := by
      rw [ea'] at eq
      have eq2 : pf_mul r' (pf_mul G (pf_pow f k)) = pf_mul q (pf_mul (pf_pow f k) f) := eq
      generalize pf_pow f k = p at eq2
      letI := pf_ring
      have eq3 : r' * (G * p) = q * (p * f) := eq2
      show q * f * p = r' * G * p
      grind
    have e2 := pf_cancel (pf_pow_hd hf.1 k) (pf_fin_mul hq ff) (pf_fin_mul fr fG) e1
    apply nd
    refine pf_cp_dv (cG f ff (fun i hi => pf_cp_s (cpf i hi))) fr ⟨q, hq, ?_⟩
    rw [e2, pf_mul_comm]
  have cl : ∀ {P : Nat → Prop}, (∀ i, i < m → P i) → P m → ∀ i, i < m + 1 → P i := by
    intro P h1 h2 i hi
    by_cases c : i = m
    · rw [c]; exact h2
    · exact h1 i (by omega)
  refine ⟨cl (fun i hi => by rw [eF i hi, eD i hi]; exact s1 i hi) (by rw [eFm, eDm]; exact hf),
    cl (fun i hi => by rw [en i hi]; exact s2 i hi) (by rw [enm]; exact hk),
    cl (fun i hi => ?_) (by rw [eFm]; exact nd), ?_,
    cl (fun i hi => by rw [eF i hi, en i hi]; exact s5 i hi) (by rw [eFm, enm]; exact dvfa),
    cl (fun i hi => by rw [eF i hi, en i hi]; exact s6 i hi) (by rw [eFm, enm]; exact ndfa),
    pf_mul G (pf_pow f k), ?_, ea', ?_⟩
  · rw [eF i hi]
    intro d1
    apply s3 i hi
    rw [er]; exact pf_dv_mr d1 (pf_fin_pow ff k)
  · refine cl (fun i hi => cl (fun j hj hij => ?_) (fun _ => ?_)) (cl (fun j hj _ => ?_) (fun h => absurd rfl h))
    · rw [eF i hi, eF j hj]; exact s4 i hi j hj hij
    · rw [eF i hi, eFm]; exact cpf i hi
    · rw [eF j hj, eFm]; exact pf_cp_s (cpf j hj)
  · have e3 : pf_ns n' D' (m + 1) = pf_ns n D m + k * d := by
      show pf_ns n' D' m + n' m * D' m = _
      rw [pf_ns_congr (n' := n) (D' := D) (fun i hi => ⟨en i hi, eD i hi⟩), enm, eDm]
    rw [e3]; exact hG'
  · intro h fh hc
    refine pf_cp_mul fh fG (cG h fh fun i hi => ?_) (pf_cp_pow fh ff ?_ k)
    · have := hc i (by omega)
      rw [eF i hi] at this; exact this
    · have := hc m (by omega)
      rw [eFm] at this; exact this
theorem pf_ns_ge {n D : Nat → Nat} {m : Nat} (h : ∀ i, i < m → 1 ≤ n i ∧ 1 ≤ D i) : m ≤ pf_ns n D m := by
  induction m with
  | zero => exact Nat.le_refl _
  | succ m ih =>
    have h1 := ih (fun i hi => h i (by omega))
    have h2 := h m (by omega)
    have h3 : 1 * 1 ≤ n m * D m := Nat.mul_le_mul h2.1 h2.2
    show m + 1 ≤ pf_ns n D m + n m * D m
    omega
theorem pf_Sp_deg {a r : PF} {m N : Nat} {F : Nat → PF} {D n : Nat → Nat} (S : pf_Sp a r m F D n) (ha : pf_hd a N) (fr : pf_fin r) :
    ∃ e, pf_hd r e ∧ e + pf_ns n D m = N := by
  obtain ⟨s1, s2, s3, s4, s5, s6, G, hG, ea, cG⟩ := S
  obtain ⟨e, q, h1, h2, h3, h4⟩ := pf_dv_hd (a := r) (b := a) ⟨G, pf_hd_fin hG, by rw [ea, pf_mul_comm]⟩ ha fr
  have h5 := pf_mul_hd h1 hG
  rw [← ea] at h5
  have h6 := pf_hd_u ha h5
  exact ⟨e, h1, h6.symm⟩
theorem pf_Sp_m {a r : PF} {m N : Nat} {F : Nat → PF} {D n : Nat → Nat} (S : pf_Sp a r m F D n) (ha : pf_hd a N) (fr : pf_fin r) : m ≤ N := by
  obtain ⟨e, _, h⟩ := pf_Sp_deg S ha fr
  have := pf_ns_ge (m := m) (fun i hi => ⟨S.2.1 i hi, (S.1 i hi).2.1⟩)
  omega
/-! The order of the factors: there is one factorization in rising order -/
/-- the factors are monic, in rising order of degree and code, and r has no smaller factor left -/
def pf_so (r : PF) (m : Nat) (F : Nat → PF) (D : Nat → Nat) : Prop :=
  ∃ c : Nat → Nat, (∀ i, i < m → c i < 5 ^ D i ∧ F i = pf_mk (D i) (c i)) ∧ (∀ i j, i < j → j < m → 5 ^ D i + c i < 5 ^ D j + c j) ∧
  ∀ i, i < m → ∀ e s, 1 ≤ e → s < 5 ^ e → pf_dv (pf_mk e s) r → 5 ^ D i + c i < 5 ^ e + s
theorem pf_so0 (r : PF) (F : Nat → PF) (D : Nat → Nat) : pf_so r 0 F D := ⟨fun _ => 0, fun i hi => by omega, fun i j _ hj => by omega, fun i hi => by omega⟩
theorem pf_so_dv {r r' : PF} {m : Nat} {F : Nat → PF} {D : Nat → Nat} (S : pf_so r m F D) (h : pf_dv r' r) : pf_so r' m F D := by
  obtain ⟨c, s1, s2, s3⟩ := S
  exact ⟨c, s1, s2, fun i hi e s h1 h2 h3 => s3 i hi e s h1 h2 (pf_dv_t h3 h)⟩
theorem pf_so_eq {r : PF} {m : Nat} {F F' : Nat → PF} {D : Nat → Nat} (S : pf_so r m F D) (h : ∀ i, i < m → F' i = F i) : pf_so r m F' D := by
  obtain ⟨c, s1, s2, s3⟩ := S
  exact ⟨c, fun i hi => ⟨(s1 i hi).1, by rw [h i hi]; exact (s1 i hi).2⟩, s2, s3⟩
theorem pf_so_step {r r' : PF} {m d t : Nat} {F F' : Nat → PF} {D D' : Nat → Nat} (S : pf_so r m F D) (hd : 1 ≤ d) (ht : t < 5 ^ d) (dv : pf_dv (pf_mk d t) r) (dr : pf_dv r' r)
    (hs : ∀ e s, 1 ≤ e → s < 5 ^ e → pf_dv (pf_mk e s) r' → 5 ^ d + t < 5 ^ e + s)
    (eF : ∀ i, i < m → F' i = F i) (eD : ∀ i, i < m → D' i = D i) (eFm : F' m = pf_mk d t) (eDm : D' m = d) : pf_so r' (m + 1) F' D' := by
  obtain ⟨c, s1, s2, s3⟩ := S
  refine ⟨fun i => if i = m then t else c i, fun i hi => ?_, fun i j hij hj => ?_, fun i hi e s h1 h2 h3 => ?_⟩
  · by_cases e : i = m
    · subst e; dsimp only; rw [if_pos rfl, eDm]; exact ⟨ht, eFm⟩
    · dsimp only; rw [if_neg e, eD i (by omega), eF i (by omega)]; exact s1 i (by omega)
  · dsimp only
    rw [if_neg (show ¬ i = m by omega), eD i (by omega)]
    by_cases e : j = m
    · subst e; rw [if_pos rfl, eDm]; exact s3 i hij d t hd ht dv
    · rw [if_neg e, eD j (by omega)]; exact s2 i j hij (by omega)
  · dsimp only
    by_cases e0 : i = m
    · subst e0; rw [if_pos rfl, eDm]; exact hs e s h1 h2 h3
    · rw [if_neg e0, eD i (by omega)]; exact s3 i (by omega) e s h1 h2 (pf_dv_t h3 dr)
/-- a code below, or a degree below: what the loops have tried -/
theorem pf_key {d t e s : Nat} {r : PF} (hd : ∀ e s, 1 ≤ e → e < d → s < 5 ^ e → ¬ pf_dv (pf_mk e s) r) (ht : ∀ s, s < t + 1 → ¬ pf_dv (pf_mk d s) r) (htd : t < 5 ^ d) (he : 1 ≤ e) (hs : s < 5 ^ e) (dv : pf_dv (pf_mk e s) r) : 5 ^ d + t < 5 ^ e + s := by
  by_cases c1 : e < d
  · exact absurd dv (hd e s he c1 hs)
  · by_cases c2 : e = d
    · subst c2
      by_cases c3 : s < t + 1
      · exact absurd dv (ht s c3)
      · omega
    · have h1 : 5 ^ (d + 1) ≤ 5 ^ e := Nat.pow_le_pow_right (by decide) (by omega)
      rw [Nat.pow_succ] at h1
      omega
theorem pf_mk_inj {d t s : Nat} (ht : t < 5 ^ d) (hs : s < 5 ^ d) (h : pf_mk d t = pf_mk d s) : t = s := by
  have key : ∀ k, k ≤ d → t % 5 ^ k = s % 5 ^ k := by
    intro k
    induction k with
    | zero => intro _; rw [Nat.pow_zero, Nat.mod_one, Nat.mod_one]
    | succ k ih =>
      intro hk
      have h1 := congrFun h k
      have h2 : (if k < d then Fin.ofNat 5 (t / 5 ^ k) else if k = d then 1 else 0) = (if k < d then Fin.ofNat 5 (s / 5 ^ k) else if k = d then (1 : Fin 5) else 0) := h1
      rw [if_pos (by omega), if_pos (by omega)] at h2
      have h3 : t / 5 ^ k % 5 = s / 5 ^ k % 5 := congrArg Fin.val h2
      rw [Nat.mod_pow_succ, Nat.mod_pow_succ, ih (by omega), h3]
  have h4 := key d (Nat.le_refl d)
  rw [Nat.mod_eq_of_lt ht, Nat.mod_eq_of_lt hs] at h4
  exact h4
theorem pf_key_inj {d t e s : Nat} (ht : t < 5 ^ d) (hs : s < 5 ^ e) (h : 5 ^ d + t = 5 ^ e + s) : d = e ∧ t = s := by
  have key : ∀ {d t e s : Nat}, t < 5 ^ d → s < 5 ^ e → 5 ^ d + t = 5 ^ e + s → ¬ d < e := by
    intro d t e s ht hs h c
    have h1 : 5 ^ (d + 1) ≤ 5 ^ e := Nat.pow_le_pow_right (by decide) (by omega)
    rw [Nat.pow_succ] at h1
    omega
  have e1 := key ht hs h
  have e2 := key hs ht h.symm
  have e3 : d = e := by omega
  subst e3
  exact ⟨rfl, by omega⟩
theorem pf_rise {m m' : Nat} {K K' : Nat → Nat} (inc : ∀ i j, i < j → j < m → K i < K j) (inc' : ∀ i j, i < j → j < m' → K' i < K' j)
    (h : ∀ i, i < m → ∃ j, j < m' ∧ K i = K' j) (h' : ∀ j, j < m' → ∃ i, i < m ∧ K' j = K i) : ∀ i, i < m → i < m' ∧ K i = K' i := by
  intro i
  induction i using Nat.strongRecOn with
  | ind i ih =>
    intro hi
    obtain ⟨j, hj, ej⟩ := h i hi
    have h1 : i ≤ j := by
      by_cases c : i ≤ j
      · exact c
      · have h2 := (ih j (by omega) (by omega)).2
        have h3 := inc j i (by omega) hi
        omega
    have hi' : i < m' := by omega
    obtain ⟨k, hk, ek⟩ := h' i hi'
    have h4 : i ≤ k := by
      by_cases c : i ≤ k
      · exact c
      · have h2 := (ih k (by omega) (by omega)).2
        have h3 := inc' k i (by omega) hi'
        omega
    refine ⟨hi', ?_⟩
    have h5 : K' i ≤ K' j := by
      by_cases c : i = j
      · rw [c]; exact Nat.le_refl _
      · exact Nat.le_of_lt (inc' i j (by omega) hj)
    have h6 : K i ≤ K k := by
      by_cases c : i = k
      · rw [c]; exact Nat.le_refl _
      · exact Nat.le_of_lt (inc i k (by omega) hk)
    omega
/-- monic, of one degree, one divides the other: the same -/
theorem pf_mk_dv {d t s : Nat} (h : pf_dv (pf_mk d t) (pf_mk d s)) : pf_mk d s = pf_mk d t := by
  obtain ⟨d', q, h1, h2, h3, h4⟩ := pf_dv_hd h (pf_mk_hd d s) (pf_hd_fin (pf_mk_hd d t))
  have e1 := pf_hd_u (pf_mk_hd d t) h1
  subst e1
  rw [Nat.sub_self] at h2
  obtain ⟨c, hc, rfl⟩ := pf_hd0 h2
  have e2 := congrFun h4 d
  rw [pf_mul_cl, pf_mk_top] at e2
  have e3 : (1 : Fin 5) = c * pf_mk d t d := e2
  rw [pf_mk_top] at e3
  have e4 : c = 1 := by grind
  rw [h4, e4, pf_one_mul]
theorem pf_Sp_mem {a r r' : PF} {m m' : Nat} {F F' : Nat → PF} {D n D' n' : Nat → Nat} {c c' : Nat → Nat} (S : pf_Sp a r m F D n) (S' : pf_Sp a r' m' F' D' n') (hr' : pf_hd r' 0)
    (s1 : ∀ i, i < m → c i < 5 ^ D i ∧ F i = pf_mk (D i) (c i)) (s1' : ∀ i, i < m' → c' i < 5 ^ D' i ∧ F' i = pf_mk (D' i) (c' i)) :
    ∀ i, i < m → ∃ j, j < m' ∧ 5 ^ D i + c i = 5 ^ D' j + c' j := by
  intro i hi
  have fi := pf_hd_fin (S.1 i hi).1
  have dva : pf_dv (F i) a := by
    refine pf_dv_t ?_ (S.2.2.2.2.1 i hi)
    obtain ⟨k, ek⟩ : ∃ k, n i = k + 1 := ⟨n i - 1, by have := S.2.1 i hi; omega⟩
    rw [ek]
    exact pf_dv_ml (pf_dv_r _) (pf_fin_pow fi k)
  by_cases hc : ∀ j, j < m' → pf_cp (F i) (F' j)
  · exfalso
    obtain ⟨G, hG, ea, cG⟩ := S'.2.2.2.2.2.2
    have d1 : pf_dv (F i) r' := pf_cp_dv (cG (F i) fi hc) (pf_hd_fin hr') (by rw [pf_mul_comm, ← ea]; exact dva)
    obtain ⟨d', _, h1, _, h2, _⟩ := pf_dv_hd d1 hr' fi
    have := pf_hd_u (S.1 i hi).1 h1
    have := (S.1 i hi).2.1
    omega
  · obtain ⟨j, hj⟩ := Classical.not_forall.mp hc
    obtain ⟨hj1, hj2⟩ := Classical.not_imp.mp hj
    refine ⟨j, hj1, ?_⟩
    have fj := pf_hd_fin (S'.1 j hj1).1
    have dv : pf_dv (F i) (F' j) := Classical.byContradiction fun nd => hj2 (pf_irr_cp (S.1 i hi) fj nd)
    have eD : D i = D' j := by
      rcases (S'.1 j hj1).2.2 (F i) (D i) (S.1 i hi).1 dv with z | z
      · have := (S.1 i hi).2.1
        omega
      · exact z
    have e1 := (s1 i hi).2
    have e2 := (s1' j hj1).2
    have b1 := (s1 i hi).1
    have b2 := (s1' j hj1).1
    rw [e1, e2, eD] at dv
    have e3 := pf_mk_dv dv
    rw [eD] at b1
    have e4 := pf_mk_inj b2 b1 e3
    rw [eD, e4]
theorem pf_pow_dv {F : PF} (ff : pf_fin F) {k n : Nat} (h : k ≤ n) : pf_dv (pf_pow F k) (pf_pow F n) := by
  induction n with
  | zero =>
    obtain rfl : k = 0 := by omega
    exact pf_dv_r _
  | succ n ih =>
    by_cases c : k = n + 1
    · subst c; exact pf_dv_r _
    · exact pf_dv_mr (ih (by omega)) ff
theorem pf_so_u {a r r' : PF} {m m' : Nat} {F F' : Nat → PF} {D n D' n' : Nat → Nat} (S : pf_Sp a r m F D n) (S' : pf_Sp a r' m' F' D' n') (hr : pf_hd r 0) (hr' : pf_hd r' 0) (so : pf_so r m F D) (so' : pf_so r' m' F' D') :
    m = m' ∧ ∀ i, i < m → D i = D' i ∧ F i = F' i ∧ n i = n' i := by
  obtain ⟨c, s1, s2, s3⟩ := so
  obtain ⟨c', s1', s2', s3'⟩ := so'
  have h1 := pf_Sp_mem S S' hr' s1 s1'
  have h2 := pf_Sp_mem S' S hr s1' s1
  have r1 := pf_rise (K := fun i => 5 ^ D i + c i) (K' := fun i => 5 ^ D' i + c' i) s2 s2' h1 h2
  have r2 := pf_rise (K := fun i => 5 ^ D' i + c' i) (K' := fun i => 5 ^ D i + c i) s2' s2 h2 h1
  have em : m = m' := by
    by_cases c1 : m < m'
    · have := (r2 m c1).1
      omega
    · by_cases c2 : m' < m
      · have := (r1 m' c2).1
        omega
      · omega
  subst em
  refine ⟨rfl, fun i hi => ?_⟩
  obtain ⟨e1, e2⟩ := pf_key_inj (s1 i hi).1 (s1' i hi).1 (r1 i hi).2
  have eF : F i = F' i := by rw [(s1 i hi).2, (s1' i hi).2, e1, e2]
  have fi := pf_hd_fin (S.1 i hi).1
  refine ⟨e1, eF, ?_⟩
  have a1 := S.2.2.2.2.1 i hi
  have a2 := S.2.2.2.2.2.1 i hi
  have b1 := S'.2.2.2.2.1 i hi
  have b2 := S'.2.2.2.2.2.1 i hi
  rw [← eF] at b1 b2
  by_cases c1 : n i < n' i
  · exact absurd (pf_dv_t (pf_pow_dv fi (by omega)) b1) a2
  · by_cases c2 : n' i < n i
    · exact absurd (pf_dv_t (pf_pow_dv fi (by omega)) a1) b2
    · omega
