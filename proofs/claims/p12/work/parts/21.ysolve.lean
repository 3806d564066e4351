/-! The reference's elimination ends where the system has no kernel -/
theorem fi_9 (r c : Nat) : (9 : Int32) * nI r + nI c = nI (9 * r + c) := by
  show nI 9 * nI r + nI c = _
  rw [pk_mul, nI_add]
theorem fi_i9 {r c : Nat} (hr : r < 9) (hc : c < 9) : vp_in ((9 : Int32) * nI r + nI c) 90 := pk_in (9 * r + c) 90 (by omega) (fi_9 r c)
theorem fi_r9 {T : Nat → Fin 5} {r c : Nat} (hr : r < 9) (hc : c < 9) : fi_m T ((9 : Int32) * nI r + nI c).toNatClampNeg = fi_I (T (9 * r + c)) := by
  rw [fi_9, nI_clamp (by omega)]; rfl
def fi_sw (T : Nat → Fin 5) (p r k : Nat) : Nat → Fin 5 := fun x => if 9 * p ≤ x ∧ x < 9 * p + k then T (9 * r + (x - 9 * p)) else if 9 * r ≤ x ∧ x < 9 * r + k then T (9 * p + (x - 9 * r)) else T x
theorem fi_sw0 (T : Nat → Fin 5) (p r : Nat) : fi_sw T p r 0 = T := by
  funext x
  show (if 9 * p ≤ x ∧ x < 9 * p + 0 then T (9 * r + (x - 9 * p)) else if 9 * r ≤ x ∧ x < 9 * r + 0 then T (9 * p + (x - 9 * r)) else T x) = T x
  rw [if_neg (by omega), if_neg (by omega)]
theorem fi_sws (T : Nat → Fin 5) {p r k : Nat} (hk : k < 9) : fi_u (fi_u (fi_sw T p r k) (9 * p + k) (fi_sw T p r k (9 * r + k))) (9 * r + k) (fi_sw T p r k (9 * p + k)) = fi_sw T p r (k + 1) := by
  have e1 : fi_sw T p r k (9 * r + k) = T (9 * r + k) := by
    show (if 9 * p ≤ 9 * r + k ∧ 9 * r + k < 9 * p + k then T (9 * r + (9 * r + k - 9 * p)) else if 9 * r ≤ 9 * r + k ∧ 9 * r + k < 9 * r + k then T (9 * p + (9 * r + k - 9 * r)) else T (9 * r + k)) = _
    rw [if_neg (by omega), if_neg (by omega)]
  have e2 : fi_sw T p r k (9 * p + k) = T (9 * p + k) := by
    show (if 9 * p ≤ 9 * p + k ∧ 9 * p + k < 9 * p + k then T (9 * r + (9 * p + k - 9 * p)) else if 9 * r ≤ 9 * p + k ∧ 9 * p + k < 9 * r + k then T (9 * p + (9 * p + k - 9 * r)) else T (9 * p + k)) = _
    rw [if_neg (by omega), if_neg (by omega)]
  rw [e1, e2]
  funext x
  show (if x = 9 * r + k then T (9 * p + k) else if x = 9 * p + k then T (9 * r + k) else fi_sw T p r k x) = (if 9 * p ≤ x ∧ x < 9 * p + (k + 1) then T (9 * r + (x - 9 * p)) else if 9 * r ≤ x ∧ x < 9 * r + (k + 1) then T (9 * p + (x - 9 * r)) else T x)
  by_cases c1 : x = 9 * r + k
  · rw [if_pos c1]
    by_cases c3 : p = r
    · subst c3
      rw [if_pos (by omega)]; congr 1; omega
    · rw [if_neg (by omega), if_pos (by omega)]; congr 1; omega
  · rw [if_neg c1]
    by_cases c2 : x = 9 * p + k
    · rw [if_pos c2, if_pos (by omega)]; congr 1; omega
    · rw [if_neg c2]
      show (if 9 * p ≤ x ∧ x < 9 * p + k then T (9 * r + (x - 9 * p)) else if 9 * r ≤ x ∧ x < 9 * r + k then T (9 * p + (x - 9 * r)) else T x) = _
      by_cases c4 : 9 * p ≤ x ∧ x < 9 * p + k
      · rw [if_pos c4, if_pos (by omega)]
      · rw [if_neg c4, if_neg (show ¬ (9 * p ≤ x ∧ x < 9 * p + (k + 1)) by omega)]
        by_cases c5 : 9 * r ≤ x ∧ x < 9 * r + k
        · rw [if_pos c5, if_pos (by omega)]
        · rw [if_neg c5, if_neg (by omega)]
theorem fi_sw_p {T : Nat → Fin 5} {p r n c : Nat} (hc : c < n) : fi_sw T p r n (9 * p + c) = T (9 * r + c) := by
  show (if 9 * p ≤ 9 * p + c ∧ 9 * p + c < 9 * p + n then T (9 * r + (9 * p + c - 9 * p)) else _) = _
  rw [if_pos (by omega)]; congr 1; omega
theorem fi_sw_r {T : Nat → Fin 5} {p r n c : Nat} (hc : c < n) (hn : n ≤ 9) : fi_sw T p r n (9 * r + c) = T (9 * p + c) := by
  by_cases e : p = r
  · subst e; exact fi_sw_p hc
  · show (if 9 * p ≤ 9 * r + c ∧ 9 * r + c < 9 * p + n then _ else if 9 * r ≤ 9 * r + c ∧ 9 * r + c < 9 * r + n then T (9 * p + (9 * r + c - 9 * r)) else _) = _
    rw [if_neg (by omega), if_pos (by omega)]; congr 1; omega
theorem fi_sw_o {T : Nat → Fin 5} {p r n i c : Nat} (hc : c < n) (hn : n ≤ 9) (h1 : i ≠ p) (h2 : i ≠ r) : fi_sw T p r n (9 * i + c) = T (9 * i + c) := by
  show (if 9 * p ≤ 9 * i + c ∧ 9 * i + c < 9 * p + n then _ else if 9 * r ≤ 9 * i + c ∧ 9 * i + c < 9 * r + n then _ else T (9 * i + c)) = _
  rw [if_neg (by omega), if_neg (by omega)]
/-- every solution of the system T' (its right side in column n) solves T -/
def ya_so (T T' : Nat → Fin 5) (n : Nat) : Prop := ∀ x : Nat → Fin 5, (∀ r, r < n → pf_sm (fun c => T' (9 * r + c) * x c) n = T' (9 * r + n)) → ∀ r, r < n → pf_sm (fun c => T (9 * r + c) * x c) n = T (9 * r + n)
theorem ya_so_r (T : Nat → Fin 5) (n : Nat) : ya_so T T n := fun _ h => h
theorem ya_so_t {T T' T2 : Nat → Fin 5} {n : Nat} (h : ya_so T T' n) (h2 : ya_so T' T2 n) : ya_so T T2 n := fun x hx => h x (h2 x hx)
theorem ya_so_swap {T T' : Nat → Fin 5} {n p r : Nat} (hp : p < n) (hr : r < n)
    (e1 : ∀ c, c < n + 1 → T' (9 * p + c) = T (9 * r + c)) (e2 : ∀ c, c < n + 1 → T' (9 * r + c) = T (9 * p + c)) (e3 : ∀ i, i < n → i ≠ p → i ≠ r → ∀ c, c < n + 1 → T' (9 * i + c) = T (9 * i + c)) : ya_so T T' n := by
  intro x hx i hi
  have key : ∀ j, j < n → (∀ c, c < n + 1 → T (9 * i + c) = T' (9 * j + c)) → pf_sm (fun c => T (9 * i + c) * x c) n = T (9 * i + n) := by
    intro j hj e
    rw [e n (by omega), ← hx j hj]
    apply pf_sm_congr
    intro c hc
    rw [e c (by omega)]
  by_cases c1 : i = r
  · subst c1; exact key p hp (fun c hc => (e1 c hc).symm)
  · by_cases c2 : i = p
    · subst c2; exact key r hr (fun c hc => (e2 c hc).symm)
    · exact key i hi (fun c hc => (e3 i hi c2 c1 c hc).symm)
theorem ya_so_scale {T T' : Nat → Fin 5} {n r : Nat} {b : Fin 5} (hb : b ≠ 0)
    (e1 : ∀ c, c < n + 1 → T' (9 * r + c) = T (9 * r + c) * b) (e2 : ∀ i, i < n → i ≠ r → ∀ c, c < n + 1 → T' (9 * i + c) = T (9 * i + c)) : ya_so T T' n := by
  intro x hx i hi
  by_cases c1 : i = r
  · subst c1
    have h1 := hx i hi
    rw [e1 n (by omega)] at h1
    have h2 : pf_sm (fun c => T' (9 * i + c) * x c) n = b * pf_sm (fun c => T (9 * i + c) * x c) n := by
      rw [← pf_sm_sc]
      apply pf_sm_congr
      intro c hc
      rw [e1 c (by omega)]; grind
    rw [h2] at h1
    have h3 := pf_inv b hb
    generalize pf_sm (fun c => T (9 * i + c) * x c) n = y at h1
    generalize T (9 * i + n) = z at h1
    have h4 : b * b * b * (b * y) = b * b * b * (z * b) := by rw [h1]
    grind
  · rw [← e2 i hi c1 n (by omega), ← hx i hi]
    apply pf_sm_congr
    intro c hc
    rw [e2 i hi c1 c (by omega)]
theorem ya_so_clear {T T' : Nat → Fin 5} {n p r : Nat} {b : Fin 5} (hr : r < n) (hpr : p ≠ r)
    (e1 : ∀ c, c < n + 1 → T' (9 * p + c) = T (9 * p + c) - b * T (9 * r + c)) (e2 : ∀ i, i < n → i ≠ p → ∀ c, c < n + 1 → T' (9 * i + c) = T (9 * i + c)) : ya_so T T' n := by
  intro x hx
  have keep : ∀ i, i < n → i ≠ p → pf_sm (fun c => T (9 * i + c) * x c) n = T (9 * i + n) := by
    intro i hi c1
    rw [← e2 i hi c1 n (by omega), ← hx i hi]
    apply pf_sm_congr
    intro c hc
    rw [e2 i hi c1 c (by omega)]
  intro i hi
  by_cases c1 : i = p
  · subst c1
    have h1 := hx i hi
    have h2 := keep r hr (fun e => hpr e.symm)
    rw [e1 n (by omega)] at h1
    have h3 : pf_sm (fun c => T (9 * i + c) * x c) n = pf_sm (fun c => T' (9 * i + c) * x c) n + b * pf_sm (fun c => T (9 * r + c) * x c) n := by
      rw [← pf_sm_lin]
      apply pf_sm_congr
      intro c hc
      rw [e1 c (by omega)]; grind
    rw [h3, h1, h2]; grind
  · exact keep i hi c1
/-- where the matrix is the unit matrix, the right side is the solution -/
theorem ya_so_un {T T' : Nat → Fin 5} {n : Nat} (h : ya_so T T' n) (un : ∀ c, c < n → ∀ i, i < n → T' (9 * i + c) = if i = c then 1 else 0) : ∀ r, r < n → pf_sm (fun c => T (9 * r + c) * T' (9 * c + n)) n = T (9 * r + n) := by
  refine h (fun c => T' (9 * c + n)) (fun r hr => ?_)
  have e : pf_sm (fun c => T' (9 * r + c) * T' (9 * c + n)) n = pf_sm (fun c => (if r = c then 1 else 0) * T' (9 * c + n)) n := by
    apply pf_sm_congr
    intro c hc
    rw [un c hc r hr]
  have e2 := pf_sm_d (fun c => T' (9 * c + n)) r n
  rw [e]
  exact e2.trans (if_pos hr)
section
variable {f_count f_place f_opens f_top f_fault f_faultAt f_dry f_found : Int32} {a_c a_there a_kind a_num a_open a_openAt a_power a_table : Nat → Int32}
theorem yc_clearRow {post : SY → Prop} {T : Nat → Fin 5} (q r n : Nat) (hq : q < 9) (hr : r < 9) (hqr : q ≠ r) (hn : n ≤ 8)
    (h : post (f_count, f_place, f_opens, f_top, f_fault, f_faultAt, f_dry, f_found, a_c, a_there, a_kind, a_num, a_open, a_openAt, a_power, fi_m (fi_w T (9 * q) (fun k => T (9 * q + k) - T (9 * q + r) * T (9 * r + k)) (n + 1)))) : wpY_clearRow post (f_count, f_place, f_opens, f_top, f_fault, f_faultAt, f_dry, f_found, a_c, a_there, a_kind, a_num, a_open, a_openAt, a_power, fi_m T) (nI q) (nI r) (nI n) := by
  have key : ∀ d j, j + d = n + 1 → wY_clearRow_16 post (nI q) (nI r) (nI n) (fi_I (T (9 * q + r))) f_count f_place f_opens f_top f_fault f_faultAt f_dry f_found (d + 1) (nI j) a_c a_there a_kind a_num a_open a_openAt a_power (fi_m (fi_w T (9 * q) (fun k => T (9 * q + k) - T (9 * q + r) * T (9 * r + k)) j)) := by
    intro d
    induction d with
    | zero =>
      intro j hj
      obtain rfl : j = n + 1 := by omega
      exact br_t (nI_lt (by omega) (by omega)) h
    | succ d ih =>
      intro j hj
      refine br_f (nI_nlt (by omega) (by omega)) ⟨fi_i9 hq (by omega), fi_i9 hr (by omega), yc_mod (x := T (9 * q + j) - T (9 * q + r) * T (9 * r + j)) ?_ ⟨fi_i9 hq (by omega), nm_r ?_ (nm_r (nI_1 j) (ih (j + 1) (by omega)))⟩⟩
      · rw [fi_r9 hq (by omega), fi_r9 hr (by omega), fi_w_out (by omega), fi_w_out (by omega), fi_ms]
      · rw [← fi_w_s, fi_9, nI_clamp (by omega)]
  unfold wpY_clearRow
  refine ⟨fi_i9 hq hr, nm_r (fi_r9 hq hr) ?_⟩
  have t := key (n + 1) 0 (by omega)
  rw [fi_w_0] at t
  exact ⟨n + 2, t⟩
/-- the columns before r are those of the unit matrix -/
def ya_un (T : Nat → Fin 5) (n r : Nat) : Prop := ∀ c, c < r → ∀ i, i < n → T (9 * i + c) = if i = c then 1 else 0
theorem yc_solve160 {post : SY → Prop} {T0 : Nat → Fin 5} {n r : Nat} (hn : n ≤ 8) (hr : r < n)
    (J : Int32 → Int32 → Int32 → Int32 → Int32 → Int32 → Int32 → Int32 → Int32 → (Nat → Int32) → (Nat → Int32) → (Nat → Int32) → (Nat → Int32) → (Nat → Int32) → (Nat → Int32) → (Nat → Int32) → (Nat → Int32) → Prop)
    (hJ : ∀ T : Nat → Fin 5, ya_so T0 T n → pf_inj (fun i c => T (9 * i + c)) n → ya_un T n (r + 1) → J (nI (r + 1)) f_count f_place f_opens f_top f_fault f_faultAt f_dry f_found a_c a_there a_kind a_num a_open a_openAt a_power (fi_m T)) :
    ∀ d q, ∀ T : Nat → Fin 5, q + d = n → ya_so T0 T n → pf_inj (fun i c => T (9 * i + c)) n → ya_un T n r → T (9 * r + r) = 1 → (∀ i, i < q → i ≠ r → T (9 * i + r) = 0) → wY_solve_160 post J (nI n) (nI r) (d + 1) (nI q) f_count f_place f_opens f_top f_fault f_faultAt f_dry f_found a_c a_there a_kind a_num a_open a_openAt a_power (fi_m T) := by
  intro d
  induction d with
  | zero =>
    intro q T hq so inj un p1 cl
    obtain rfl : q = n := by omega
    refine br_t (nI_le (Nat.le_refl _) (by omega)) (nm_r (nI_1 r) (hJ T so inj ?_))
    intro c hc i hi
    by_cases e : c = r
    · subst e
      by_cases e2 : i = c
      · rw [e2, p1, if_pos rfl]
      · rw [cl i hi e2, if_neg e2]
    · exact un c (by omega) i hi
  | succ d ih =>
    intro q T hq so inj un p1 cl
    refine br_f (nI_ge (by omega) (by omega)) ?_
    by_cases e : q = r
    · subst e
      refine br_t rfl (nm_r (nI_1 q) (ih (q + 1) T (by omega) so inj un p1 (fun i h1 h2 => cl i (by omega) h2)))
    · refine br_f (fun z => e ((nI_eq (by omega) (by omega)).mp z)) (yc_clearRow q r n (by omega) (by omega) e hn (nm_r (nI_1 q) ?_))
      have hin : ∀ c, c < n + 1 → fi_w T (9 * q) (fun k => T (9 * q + k) - T (9 * q + r) * T (9 * r + k)) (n + 1) (9 * q + c) = T (9 * q + c) - T (9 * q + r) * T (9 * r + c) := fun c hc => fi_w_in hc
      have hout : ∀ i c, i ≠ q → c < 9 → fi_w T (9 * q) (fun k => T (9 * q + k) - T (9 * q + r) * T (9 * r + k)) (n + 1) (9 * i + c) = T (9 * i + c) := fun i c h1 h2 => fi_w_out (by omega)
      refine ih (q + 1) _ (by omega) (ya_so_t so (ya_so_clear (b := T (9 * q + r)) hr e (fun c hc => hin c hc) (fun i hi hiq c hc => hout i c hiq (by omega)))) ?_ ?_ ?_ ?_
      · exact pf_inj_clear (b := T (9 * q + r)) inj (by omega) hr e (fun c hc => hin c (by omega)) (fun i hi hiq c hc => hout i c hiq (by omega))
      · intro c hc i hi
        by_cases e2 : i = q
        · subst e2
          rw [hin c (by omega), un c hc i hi, un c hc r hr, if_neg (show ¬ r = c by omega)]; grind
        · rw [hout i c e2 (by omega)]; exact un c hc i hi
      · rw [hout r r (by omega) (by omega)]; exact p1
      · intro i h1 h2
        by_cases e2 : i = q
        · subst e2; rw [hin r (by omega), p1]; grind
        · rw [hout i r e2 (by omega)]; exact cl i (by omega) h2
theorem yc_solve {post : SY → Prop} {T0 : Nat → Fin 5} (n : Nat) (hn : n ≤ 8) (inj : pf_inj (fun i c => T0 (9 * i + c)) n) (h : ∀ T' : Nat → Fin 5, (∀ r, r < n → pf_sm (fun c => T0 (9 * r + c) * T' (9 * c + n)) n = T0 (9 * r + n)) → post (f_count, f_place, f_opens, f_top, f_fault, f_faultAt, f_dry, f_found, a_c, a_there, a_kind, a_num, a_open, a_openAt, a_power, fi_m T')) : wpY_solve post (f_count, f_place, f_opens, f_top, f_fault, f_faultAt, f_dry, f_found, a_c, a_there, a_kind, a_num, a_open, a_openAt, a_power, fi_m T0) (nI n) := by
  have key : ∀ d r, ∀ T : Nat → Fin 5, r + d = n → ya_so T0 T n → pf_inj (fun i c => T (9 * i + c)) n → ya_un T n r → wY_solve_2 post (nI n) (d + 1) (nI r) f_count f_place f_opens f_top f_fault f_faultAt f_dry f_found a_c a_there a_kind a_num a_open a_openAt a_power (fi_m T) := by
    intro d
    induction d with
    | zero =>
      intro r T1 hr so _ un
      obtain rfl : r = n := by omega
      exact br_t (nI_le (by omega) (by omega)) (h T1 (ya_so_un so un))
    | succ d ih =>
      intro r T hr so inj un
      refine br_f (nI_ge (by omega) (by omega)) ?_
      obtain ⟨ps, hps1, hps2, hps3⟩ := pf_piv inj (by omega) un
      -- the scaling, from a table whose row r has its pivot
      have sc : ∀ T1 : Nat → Fin 5, ya_so T0 T1 n → pf_inj (fun i c => T1 (9 * i + c)) n → ya_un T1 n r → T1 (9 * r + r) ≠ 0 → ∃ n115 : Nat, wY_solve_115 post (wY_solve_2 post (nI n) (d + 1)) (nI n) (nI r) (fi_I (T1 (9 * r + r) * T1 (9 * r + r) * T1 (9 * r + r))) f_count f_place f_opens f_top f_fault f_faultAt f_dry f_found n115 0 a_c a_there a_kind a_num a_open a_openAt a_power (fi_m T1) := by
        intro T1 so1 inj1 un1 nz
        generalize eb : T1 (9 * r + r) * T1 (9 * r + r) * T1 (9 * r + r) = b
        have bz : b ≠ 0 := by rw [← eb]; exact pf_nz _ _ (pf_nz _ _ nz nz) nz
        have l115 : ∀ m j, j + m = n + 1 → wY_solve_115 post (wY_solve_2 post (nI n) (d + 1)) (nI n) (nI r) (fi_I b) f_count f_place f_opens f_top f_fault f_faultAt f_dry f_found (m + 1) (nI j) a_c a_there a_kind a_num a_open a_openAt a_power (fi_m (fi_w T1 (9 * r) (fun k => T1 (9 * r + k) * b) j)) := by
          intro m
          induction m with
          | zero =>
            intro j hj
            obtain rfl : j = n + 1 := by omega
            have hin : ∀ c, c < n + 1 → fi_w T1 (9 * r) (fun k => T1 (9 * r + k) * b) (n + 1) (9 * r + c) = T1 (9 * r + c) * b := fun c hc => fi_w_in hc
            have hout : ∀ i c, i ≠ r → c < 9 → fi_w T1 (9 * r) (fun k => T1 (9 * r + k) * b) (n + 1) (9 * i + c) = T1 (9 * i + c) := fun i c h1 h2 => fi_w_out (by omega)
            refine br_t (nI_lt (by omega) (by omega)) ⟨n + 1, ?_⟩
            refine yc_solve160 hn (by omega) _ (fun T2 s2 i2 u2 => ih (r + 1) T2 (by omega) s2 i2 u2) n 0 _ (by omega) (ya_so_t so1 (ya_so_scale bz (fun c hc => hin c hc) (fun i hi hir c hc => hout i c hir (by omega)))) ?_ ?_ ?_ (fun i hi => by omega)
            · exact pf_inj_scale (b := b) inj1 (by omega) bz (fun c hc => hin c (by omega)) (fun i hi hir c hc => hout i c hir (by omega))
            · intro c hc i hi
              by_cases e : i = r
              · subst e
                rw [hin c (by omega), un1 c hc i hi, if_neg (by omega)]; grind
              · rw [hout i c e (by omega)]; exact un1 c hc i hi
            · rw [hin r (by omega), ← eb]
              have := pf_inv _ nz
              grind
          | succ m ihm =>
            intro j hj
            refine br_f (nI_nlt (by omega) (by omega)) ⟨fi_i9 (by omega) (by omega), yc_mod (x := T1 (9 * r + j) * b) ?_ ⟨fi_i9 (by omega) (by omega), nm_r ?_ (nm_r (nI_1 j) (ihm (j + 1) (by omega)))⟩⟩
            · rw [fi_r9 (by omega) (by omega), fi_w_out (by omega), fi_mm]
            · rw [← fi_w_s, fi_9, nI_clamp (by omega)]
        have t := l115 (n + 1) 0 (by omega)
        rw [fi_w_0] at t
        exact ⟨n + 2, t⟩
      -- the swap with row p
      have swp : ∀ p, r ≤ p → p < n → T (9 * p + r) ≠ 0 → ∃ n32 : Nat, wY_solve_32 post (wY_solve_2 post (nI n) (d + 1)) (nI n) (nI r) (nI p) f_count f_place f_opens f_top f_fault f_faultAt f_dry f_found n32 0 a_c a_there a_kind a_num a_open a_openAt a_power (fi_m T) := by
        intro p hp1 hp2 hp3
        have l32 : ∀ m j, j + m = n + 1 → wY_solve_32 post (wY_solve_2 post (nI n) (d + 1)) (nI n) (nI r) (nI p) f_count f_place f_opens f_top f_fault f_faultAt f_dry f_found (m + 1) (nI j) a_c a_there a_kind a_num a_open a_openAt a_power (fi_m (fi_sw T p r j)) := by
          intro m
          induction m with
          | zero =>
            intro j hj
            obtain rfl : j = n + 1 := by omega
            refine br_t (nI_lt (by omega) (by omega)) ⟨fi_i9 (by omega) (by omega), yc_inv' (fi_r9 (by omega) (by omega)) ?_⟩
            refine sc (fi_sw T p r (n + 1)) (ya_so_t so (ya_so_swap hp2 (by omega) (fun c hc => fi_sw_p hc) (fun c hc => fi_sw_r hc (by omega)) (fun i hi h1 h2 c hc => fi_sw_o hc (by omega) h1 h2))) ?_ ?_ ?_
            · exact pf_inj_swap inj hp2 (by omega) (fun c hc => fi_sw_p (by omega)) (fun c hc => fi_sw_r (by omega) (by omega)) (fun i hi h1 h2 c hc => fi_sw_o (by omega) (by omega) h1 h2)
            · intro c hc i hi
              by_cases e1 : i = p
              · subst e1
                rw [fi_sw_p (by omega), un c hc r (by omega), if_neg (by omega), if_neg (by omega)]
              · by_cases e2 : i = r
                · subst e2
                  rw [fi_sw_r (by omega) (by omega), un c hc p hp2, if_neg (by omega), if_neg (by omega)]
                · rw [fi_sw_o (by omega) (by omega) e1 e2]; exact un c hc i hi
            · rw [fi_sw_r (by omega) (by omega)]; exact hp3
          | succ m ihm =>
            intro j hj
            refine br_f (nI_nlt (by omega) (by omega)) ⟨fi_i9 (by omega) (by omega), nm_r (fi_r9 (by omega) (by omega)) ⟨fi_i9 (by omega) (by omega), fi_i9 (by omega) (by omega), nm_r (e' := fi_m (fi_u (fi_sw T p r j) (9 * p + j) (fi_sw T p r j (9 * r + j)))) ?_ ⟨fi_i9 (by omega) (by omega), nm_r ?_ (nm_r (nI_1 j) (ihm (j + 1) (by omega)))⟩⟩⟩
            · rw [fi_r9 (by omega) (by omega), fi_9, nI_clamp (by omega), fi_upd]
            · rw [fi_9, nI_clamp (by omega), fi_upd, fi_sws T (by omega)]
        have t := l32 (n + 1) 0 (by omega)
        rw [fi_sw0] at t
        exact ⟨n + 2, t⟩
      have l9 : ∀ m p, p + m = ps → r ≤ p → wY_solve_9 post (wY_solve_2 post (nI n) (d + 1)) (nI n) (nI r) f_count f_place f_opens f_top f_fault f_faultAt f_dry f_found a_c a_there a_kind a_num a_open a_openAt a_power (fi_m T) (m + 1) (nI p) := by
        intro m
        induction m with
        | zero =>
          intro p hp hrp
          obtain rfl : p = ps := by omega
          refine ⟨fi_i9 (by omega) (by omega), br_f ?_ (swp p hrp hps2 hps3)⟩
          rw [fi_r9 (by omega) (by omega)]
          exact fun z => hps3 ((fi_0 _).mp z)
        | succ m ihm =>
          intro p hp hrp
          refine ⟨fi_i9 (by omega) (by omega), ?_⟩
          rw [fi_r9 (by omega) (by omega)]
          by_cases c : T (9 * p + r) = 0
          · exact br_t ((fi_0 _).mpr c) (nm_r (nI_1 p) (ihm (p + 1) (by omega) (by omega)))
          · exact br_f (fun z => c ((fi_0 _).mp z)) (swp p hrp (by omega) c)
      exact ⟨ps - r + 1, l9 (ps - r) r (by omega) (Nat.le_refl _)⟩
  unfold wpY_solve
  exact ⟨n + 1, key n 0 T0 (by omega) (ya_so_r T0 n) inj (fun c hc => by omega)⟩
end
