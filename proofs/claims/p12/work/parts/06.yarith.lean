/-! The reference's arithmetic on slots of 20 numbers -/
theorem fi_u_w (g : Nat → Fin 5) (b : Nat) (P : Nat → Fin 5) (n i : Nat) (x : Fin 5) (h : i < n) : fi_u (fi_w g b P n) (b + i) x = fi_w g b (fun k => if k = i then x else P k) n := by
  funext k
  show (if k = b + i then x else fi_w g b P n k) = fi_w g b (fun k => if k = i then x else P k) n k
  by_cases c : b ≤ k ∧ k < b + n
  · obtain ⟨j, rfl⟩ : ∃ j, k = b + j := ⟨k - b, by omega⟩
    rw [fi_w_in (by omega), fi_w_in (by omega)]
    by_cases e : j = i
    · subst e; rw [if_pos rfl, if_pos rfl]
    · rw [if_neg (by omega), if_neg e]
  · rw [fi_w_out (by omega), fi_w_out (by omega), if_neg (by omega)]
theorem fi_pu {g : Nat → Fin 5} {s i : Nat} {P Q : PF} {x : Fin 5} (hi : i < 20) (h : ∀ k, k < 20 → Q k = if k = i then x else P k) : upd (fi_m (fi_p g s P)) (20 * s + i) (fi_I x) = fi_m (fi_p g s Q) := by
  rw [fi_upd]
  congr 1
  show fi_u (fi_w g (20 * s) P 20) (20 * s + i) x = fi_p g s Q
  rw [fi_u_w _ _ _ _ _ _ hi]
  exact fi_pc (fun k hk => (h k hk).symm)
theorem fi_pp {g : Nat → Fin 5} {s : Nat} {P Q : PF} : fi_p (fi_p g s P) s Q = fi_p g s Q := by
  funext k
  show (if 20 * s ≤ k ∧ k < 20 * s + 20 then Q (k - 20 * s) else (if 20 * s ≤ k ∧ k < 20 * s + 20 then P (k - 20 * s) else g k)) = (if 20 * s ≤ k ∧ k < 20 * s + 20 then Q (k - 20 * s) else g k)
  by_cases c : 20 * s ≤ k ∧ k < 20 * s + 20
  · rw [if_pos c, if_pos c]
  · rw [if_neg c, if_neg c, if_neg c]
theorem fi_pi {g : Nat → Fin 5} {s : Nat} : fi_p g s (fi_s g s) = g := by
  funext k
  show (if 20 * s ≤ k ∧ k < 20 * s + 20 then fi_s g s (k - 20 * s) else g k) = g k
  by_cases c : 20 * s ≤ k ∧ k < 20 * s + 20
  · rw [if_pos c, fi_s_at (by omega)]; congr 1; omega
  · rw [if_neg c]
theorem fi_rd {g : Nat → Fin 5} {s j : Nat} (hs : s < 90) (hj : j < 20) : fi_m g ((20 : Int32) * nI s + nI j).toNatClampNeg = fi_I (fi_s g s j) := by
  rw [fi_ix, nI_clamp (by omega), fi_s_at hj]; rfl
theorem fi_in {s j : Nat} (hs : s < 90) (hj : j < 20) : vp_in ((20 : Int32) * nI s + nI j) 1800 := pk_in (20 * s + j) 1800 (by omega) (fi_ix s j)
theorem fi_n20 {j : Nat} (hj : j < 20) : ¬ (20 : Int32) ≤ nI j := nI_ge (a := j) (b := 20) hj (by decide)
section
variable {f_count f_place f_opens f_top f_fault f_faultAt f_dry f_found : Int32} {a_c a_there a_kind a_num a_open a_openAt a_power a_table : Nat → Int32}
theorem yc_deg {post : Int32 → Prop} {g : Nat → Fin 5} {x : Int32} (s : Nat) (hs : s < 90) (z : fi_s g s = pf_c 0 → post (-1)) (p : ∀ d, d < 20 → pf_hd (fi_s g s) d → post (nI d)) (e : x = nI s := by rfl) : wpY_deg post (f_count, f_place, f_opens, f_top, f_fault, f_faultAt, f_dry, f_found, fi_m g, a_there, a_kind, a_num, a_open, a_openAt, a_power, a_table) x := by
  subst e
  have key : ∀ j n, j < n → j ≤ 20 → (∀ k, j ≤ k → fi_s g s k = 0) → wY_deg_3 post (nI s) f_count f_place f_opens f_top f_fault f_faultAt f_dry f_found (fi_m g) a_there a_kind a_num a_open a_openAt a_power a_table n (nI j + (-1)) := by
    intro j
    induction j with
    | zero =>
      intro n hn _ hz
      obtain ⟨n, rfl⟩ : ∃ m, n = m + 1 := ⟨n - 1, by omega⟩
      have e0 : nI 0 + (-1) = -1 := by decide
      rw [e0]
      exact br_t (by decide) (z (by rw [pf_c0]; exact funext fun k => hz k (Nat.zero_le k)))
    | succ j ih =>
      intro n hn hj hz
      obtain ⟨n, rfl⟩ : ∃ m, n = m + 1 := ⟨n - 1, by omega⟩
      rw [pk_m1]
      refine br_f (nI_pos (by omega)) ⟨fi_in hs (by omega), ?_⟩
      by_cases c : fi_s g s j = 0
      · refine br_t ?_ (nm_e (ih n (by omega) (by omega) ?_))
        · rw [fi_rd hs (by omega), c]; rfl
        · intro k hk
          by_cases ek : k = j
          · rw [ek]; exact c
          · exact hz k (by omega)
      · refine br_f ?_ (p j (by omega) ⟨fun k hk => hz k (by omega), c⟩)
        rw [fi_rd hs (by omega)]
        exact fun e => c ((fi_0 _).mp e)
  have e19 : nI 20 + (-1) = 19 := by decide
  have t := key 20 21 (by omega) (by omega) (fi_s_ln g s)
  rw [e19] at t
  exact ⟨21, t⟩
theorem yc_copy {post : SY → Prop} {g : Nat → Fin 5} {xa xb : Int32} (a b : Nat) (ha : a < 90) (hb : b < 90) (h : post (f_count, f_place, f_opens, f_top, f_fault, f_faultAt, f_dry, f_found, fi_m (fi_p g b (fi_s g a)), a_there, a_kind, a_num, a_open, a_openAt, a_power, a_table)) (ea : xa = nI a := by rfl) (eb : xb = nI b := by rfl) : wpY_copy post (f_count, f_place, f_opens, f_top, f_fault, f_faultAt, f_dry, f_found, fi_m g, a_there, a_kind, a_num, a_open, a_openAt, a_power, a_table) xa xb := by
  subst ea eb
  have key : ∀ d j, j + d = 20 → wY_copy_2 post (nI a) (nI b) f_count f_place f_opens f_top f_fault f_faultAt f_dry f_found (d + 1) (nI j) (fi_m (fi_w g (20 * b) (fi_s g a) j)) a_there a_kind a_num a_open a_openAt a_power a_table := by
    intro d
    induction d with
    | zero =>
      intro j hj
      obtain rfl : j = 20 := by omega
      exact br_t (by decide) h
    | succ d ih =>
      intro j hj
      refine br_f (fi_n20 (by omega)) ⟨fi_in ha (by omega), fi_in hb (by omega), nm_r ?_ (nm_r (nI_1 j) (ih (j + 1) (by omega)))⟩
      rw [← fi_w_s, fi_ix, fi_ix, nI_clamp (by omega), nI_clamp (by omega)]
      congr 1
      show fi_I (fi_w g (20 * b) (fi_s g a) j (20 * a + j)) = fi_I (fi_s g a j)
      rw [fi_w_out (by omega), fi_s_at (by omega)]
  have t := key 20 0 rfl
  rw [fi_w_0] at t
  exact ⟨21, t⟩
theorem yc_become {post : SY → Prop} {g : Nat → Fin 5} {xs x : Int32} (s : Nat) (hs : s < 90) (h : post (f_count, f_place, f_opens, f_top, f_fault, f_faultAt, f_dry, f_found, fi_m (fi_p g s (pf_c (fi_z x))), a_there, a_kind, a_num, a_open, a_openAt, a_power, a_table)) (es : xs = nI s := by rfl) : wpY_become post (f_count, f_place, f_opens, f_top, f_fault, f_faultAt, f_dry, f_found, fi_m g, a_there, a_kind, a_num, a_open, a_openAt, a_power, a_table) xs x := by
  subst es
  have key : ∀ d j, j + d = 20 → wY_become_2 post (nI s) x f_count f_place f_opens f_top f_fault f_faultAt f_dry f_found (d + 1) (nI j) (fi_m (fi_w g (20 * s) (pf_c 0) j)) a_there a_kind a_num a_open a_openAt a_power a_table := by
    intro d
    induction d with
    | zero =>
      intro j hj
      obtain rfl : j = 20 := by omega
      refine br_t (by decide) (yc_mod rfl ⟨pk_in (20 * s) 1800 (by omega) (fi_ix0 s), nm_r ?_ h⟩)
      rw [fi_ix0, nI_clamp (by omega)]
      refine fi_pu (i := 0) (P := pf_c 0) (by omega) ?_
      intro k _
      rw [pf_c0]; rfl
    | succ d ih =>
      intro j hj
      refine br_f (fi_n20 (by omega)) ⟨fi_in hs (by omega), nm_r ?_ (nm_r (nI_1 j) (ih (j + 1) (by omega)))⟩
      rw [← fi_w_s, fi_ix, nI_clamp (by omega), pf_c0]; rfl
  have t := key 20 0 rfl
  rw [fi_w_0] at t
  exact ⟨21, t⟩
theorem yc_add {post : SY → Prop} {g : Nat → Fin 5} {xa xb x : Int32} (a b : Nat) (y : Fin 5) (ha : a < 90) (hb : b < 90) (hab : a ≠ b) (hy : ∀ u w : Fin 5, fi_z (fi_I u + x * fi_I w) = u + y * w)
    (h : post (f_count, f_place, f_opens, f_top, f_fault, f_faultAt, f_dry, f_found, fi_m (fi_p g a (fun k => fi_s g a k + y * fi_s g b k)), a_there, a_kind, a_num, a_open, a_openAt, a_power, a_table)) (ea : xa = nI a := by rfl) (eb : xb = nI b := by rfl) : wpY_add post (f_count, f_place, f_opens, f_top, f_fault, f_faultAt, f_dry, f_found, fi_m g, a_there, a_kind, a_num, a_open, a_openAt, a_power, a_table) xa x xb := by
  subst ea eb
  have key : ∀ d j, j + d = 20 → wY_add_3 post (nI a) x (nI b) f_count f_place f_opens f_top f_fault f_faultAt f_dry f_found (d + 1) (nI j) (fi_m (fi_w g (20 * a) (fun k => fi_s g a k + y * fi_s g b k) j)) a_there a_kind a_num a_open a_openAt a_power a_table := by
    intro d
    induction d with
    | zero =>
      intro j hj
      obtain rfl : j = 20 := by omega
      exact br_t (by decide) h
    | succ d ih =>
      intro j hj
      refine br_f (fi_n20 (by omega)) ⟨fi_in ha (by omega), fi_in hb (by omega), yc_mod (x := fi_s g a j + y * fi_s g b j) ?_ ⟨fi_in ha (by omega), nm_r ?_ (nm_r (nI_1 j) (ih (j + 1) (by omega)))⟩⟩
      · rw [fi_ix, fi_ix, nI_clamp (by omega), nI_clamp (by omega)]
        show fi_z (fi_I (fi_w g (20 * a) _ j (20 * a + j)) + x * fi_I (fi_w g (20 * a) _ j (20 * b + j))) = _
        rw [fi_w_out (by omega), fi_w_out (by omega), hy, fi_s_at (by omega), fi_s_at (by omega)]
      · rw [← fi_w_s, fi_ix, nI_clamp (by omega)]
  have t := key 20 0 rfl
  rw [fi_w_0] at t
  exact ⟨21, t⟩
theorem yc_scale {post : SY → Prop} {g : Nat → Fin 5} {xa x : Int32} (a : Nat) (y : Fin 5) (ha : a < 90)
    (h : post (f_count, f_place, f_opens, f_top, f_fault, f_faultAt, f_dry, f_found, fi_m (fi_p g a (fun k => fi_s g a k * y)), a_there, a_kind, a_num, a_open, a_openAt, a_power, a_table)) (ea : xa = nI a := by rfl) (ex : x = fi_I y := by rfl) : wpY_scale post (f_count, f_place, f_opens, f_top, f_fault, f_faultAt, f_dry, f_found, fi_m g, a_there, a_kind, a_num, a_open, a_openAt, a_power, a_table) xa x := by
  subst ea ex
  have key : ∀ d j, j + d = 20 → wY_scale_2 post (nI a) (fi_I y) f_count f_place f_opens f_top f_fault f_faultAt f_dry f_found (d + 1) (nI j) (fi_m (fi_w g (20 * a) (fun k => fi_s g a k * y) j)) a_there a_kind a_num a_open a_openAt a_power a_table := by
    intro d
    induction d with
    | zero =>
      intro j hj
      obtain rfl : j = 20 := by omega
      exact br_t (by decide) h
    | succ d ih =>
      intro j hj
      refine br_f (fi_n20 (by omega)) ⟨fi_in ha (by omega), yc_mod (x := fi_s g a j * y) ?_ ⟨fi_in ha (by omega), nm_r ?_ (nm_r (nI_1 j) (ih (j + 1) (by omega)))⟩⟩
      · rw [fi_ix, nI_clamp (by omega)]
        show fi_z (fi_I (fi_w g (20 * a) _ j (20 * a + j)) * fi_I y) = _
        rw [fi_w_out (by omega), fi_mm, fi_s_at (by omega)]
      · rw [← fi_w_s, fi_ix, nI_clamp (by omega)]
  have t := key 20 0 rfl
  rw [fi_w_0] at t
  exact ⟨21, t⟩
def pf_hn (P : PF) (x : Fin 5) (t : Nat) : Nat → Fin 5
  | 0 => 0
  | m + 1 => pf_hn P x t m * x + P (t - m)
theorem yc_valueOf {post : Int32 → Prop} {g : Nat → Fin 5} {xs x : Int32} (s : Nat) (y : Fin 5) (hs : s < 90) (h : post (fi_I (pf_hn (fi_s g s) y 19 20))) (es : xs = nI s := by rfl) (ex : x = fi_I y := by rfl) : wpY_valueOf post (f_count, f_place, f_opens, f_top, f_fault, f_faultAt, f_dry, f_found, fi_m g, a_there, a_kind, a_num, a_open, a_openAt, a_power, a_table) xs x := by
  subst es ex
  have key : ∀ j m, j + m = 20 → wY_valueOf_6 post (nI s) (fi_I y) f_count f_place f_opens f_top f_fault f_faultAt f_dry f_found (fi_m g) a_there a_kind a_num a_open a_openAt a_power a_table (j + 1) (fi_I (pf_hn (fi_s g s) y 19 m)) (nI j + (-1)) := by
    intro j
    induction j with
    | zero =>
      intro m hm
      obtain rfl : m = 20 := by omega
      have e0 : nI 0 + (-1) = -1 := by decide
      rw [e0]
      exact br_t (by decide) h
    | succ j ih =>
      intro m hm
      rw [pk_m1]
      refine br_f (nI_pos (by omega)) ⟨fi_in hs (by omega), yc_mod (x := pf_hn (fi_s g s) y 19 (m + 1)) ?_ (nm_e (ih (m + 1) (by omega)))⟩
      rw [fi_rd hs (by omega), fi_ma']
      show _ = pf_hn (fi_s g s) y 19 m * y + fi_s g s (19 - m)
      have e : 19 - m = j := by omega
      rw [e]
  have e19 : nI 20 + (-1) = 19 := by decide
  have t := key 20 0 rfl
  rw [e19] at t
  exact ⟨21, t⟩
end
theorem pf_cm_sm' (n : Nat) : ∀ f g : PF, pf_cm n f g = pf_sm (fun i => f i * g (n - i)) (n + 1) := by
  induction n with
  | zero => intro f g; show f 0 * g 0 = 0 + f 0 * g 0; grind
  | succ n ih =>
    intro f g
    have e : n + 1 + 1 = 1 + (n + 1) := by omega
    rw [e, pf_sm_split]
    show f 0 * g (n + 1) + pf_cm n (pf_tl f) g = (0 + f 0 * g (n + 1 - 0)) + pf_sm (fun i => f (1 + i) * g (n + 1 - (1 + i))) (n + 1)
    have e2 : pf_sm (fun i => f (1 + i) * g (n + 1 - (1 + i))) (n + 1) = pf_sm (fun i => pf_tl f i * g (n - i)) (n + 1) := by
      apply pf_sm_congr
      intro i hi
      show f (1 + i) * g (n + 1 - (1 + i)) = f (i + 1) * g (n - i)
      rw [Nat.add_comm 1 i]
      congr 2; omega
    rw [e2, ih]
    show _ = (0 + f 0 * g (n + 1)) + _
    grind
def pf_R (A B : PF) (i : Nat) : PF := fun k => pf_sm (fun j => if j ≤ k then A j * B (k - j) else 0) i
theorem pf_R20 (A B : PF) {k : Nat} (hk : k < 20) : pf_R A B 20 k = pf_mul A B k := by
  show pf_sm _ 20 = pf_cm k A B
  have e : 20 = (k + 1) + (19 - k) := by omega
  rw [pf_cm_sm', e, pf_sm_split]
  have z : pf_sm (fun i => if k + 1 + i ≤ k then A (k + 1 + i) * B (k - (k + 1 + i)) else 0) (19 - k) = 0 := by
    apply pf_sm_0; intro i _; rw [if_neg (by omega)]
  rw [z]
  have c : pf_sm (fun j => if j ≤ k then A j * B (k - j) else 0) (k + 1) = pf_sm (fun i => A i * B (k - i)) (k + 1) := by
    apply pf_sm_congr; intro i hi; rw [if_pos (by omega)]
  rw [c]; grind
section
variable {f_count f_place f_opens f_top f_fault f_faultAt f_dry f_found : Int32} {a_c a_there a_kind a_num a_open a_openAt a_power a_table : Nat → Int32}
theorem yc_product {post : SY → Prop} {g : Nat → Fin 5} {xa xb xt : Int32} (a b t : Nat) (ha : a < 90) (hb : b < 90) (ht : t < 90) (hat : a ≠ t) (hbt : b ≠ t)
    (h : post (f_count, f_place, f_opens, f_top, f_fault, f_faultAt, f_dry, f_found, fi_m (fi_p g t (pf_mul (fi_s g a) (fi_s g b))), a_there, a_kind, a_num, a_open, a_openAt, a_power, a_table)) (ea : xa = nI a := by rfl) (eb : xb = nI b := by rfl) (et : xt = nI t := by rfl) : wpY_product post (f_count, f_place, f_opens, f_top, f_fault, f_faultAt, f_dry, f_found, fi_m g, a_there, a_kind, a_num, a_open, a_openAt, a_power, a_table) xa xb xt := by
  subst ea eb et
  have inner : ∀ (J : Int32 → (Nat → Int32) → (Nat → Int32) → (Nat → Int32) → (Nat → Int32) → (Nat → Int32) → (Nat → Int32) → (Nat → Int32) → (Nat → Int32) → Prop) (i : Nat), i < 20 →
      J (nI (i + 1)) (fi_m (fi_p g t (pf_R (fi_s g a) (fi_s g b) (i + 1)))) a_there a_kind a_num a_open a_openAt a_power a_table →
      ∀ d j, i + j + d = 20 → wY_product_19 post J (nI a) (nI b) (nI t) (nI i) f_count f_place f_opens f_top f_fault f_faultAt f_dry f_found (d + 1) (nI j) (fi_m (fi_p g t (fun k => pf_R (fi_s g a) (fi_s g b) i k + (if i ≤ k ∧ k < i + j then fi_s g a i * fi_s g b (k - i) else 0)))) a_there a_kind a_num a_open a_openAt a_power a_table := by
    intro J i hi hJ d
    induction d with
    | zero =>
      intro j hj
      refine br_t ?_ (nm_r (nI_1 i) ?_)
      · rw [nI_add]; exact nI_le (a := 20) (by omega) (by omega)
      · have e : fi_p g t (fun k => pf_R (fi_s g a) (fi_s g b) i k + (if i ≤ k ∧ k < i + j then fi_s g a i * fi_s g b (k - i) else 0)) = fi_p g t (pf_R (fi_s g a) (fi_s g b) (i + 1)) := by
          apply fi_pc
          intro k hk
          show _ = pf_R (fi_s g a) (fi_s g b) i k + (if i ≤ k then fi_s g a i * fi_s g b (k - i) else 0)
          by_cases c : i ≤ k
          · rw [if_pos c, if_pos (by omega)]
          · rw [if_neg c, if_neg (by omega)]
        rw [e]; exact hJ
    | succ d ih =>
      intro j hj
      have ex : (20 : Int32) * nI t + nI i + nI j = nI (20 * t + (i + j)) := by rw [fi_ix, nI_add]; congr 1; omega
      have ein : vp_in ((20 : Int32) * nI t + nI i + nI j) 1800 := pk_in (20 * t + (i + j)) 1800 (by omega) ex
      refine br_f ?_ ⟨ein, fi_in ha (by omega), fi_in hb (by omega), yc_mod (x := pf_R (fi_s g a) (fi_s g b) i (i + j) + fi_s g a i * fi_s g b j) ?_ ⟨ein, nm_r ?_ (nm_r (nI_1 j) (ih (j + 1) (by omega)))⟩⟩
      · rw [nI_add]; exact fi_n20 (by omega)
      · rw [ex, nI_clamp (by omega), fi_rd ha (by omega), fi_rd hb (by omega)]
        rw [fi_sq hat, fi_sq hbt]
        show fi_z (fi_I (fi_w g (20 * t) _ 20 (20 * t + (i + j))) + _) = _
        rw [fi_w_in (by omega), if_neg (by omega), fi_ma]
        grind
      · rw [ex, nI_clamp (by omega)]
        apply fi_pu (by omega)
        intro k hk
        by_cases c : k = i + j
        · rw [if_pos c, c, if_pos (by omega)]
          congr 3; omega
        · rw [if_neg c]
          congr 1
          by_cases c2 : i ≤ k ∧ k < i + j
          · rw [if_pos c2, if_pos (by omega)]
          · rw [if_neg c2, if_neg (by omega)]
  have outer : ∀ d i, i + d = 20 → wY_product_9 post (nI a) (nI b) (nI t) f_count f_place f_opens f_top f_fault f_faultAt f_dry f_found (d + 1) (nI i) (fi_m (fi_p g t (pf_R (fi_s g a) (fi_s g b) i))) a_there a_kind a_num a_open a_openAt a_power a_table := by
    intro d
    induction d with
    | zero =>
      intro i hi
      obtain rfl : i = 20 := by omega
      refine br_t (by decide) ?_
      have e : fi_p g t (pf_R (fi_s g a) (fi_s g b) 20) = fi_p g t (pf_mul (fi_s g a) (fi_s g b)) := fi_pc (fun k hk => pf_R20 _ _ hk)
      rw [e]; exact h
    | succ d ih =>
      intro i hi
      refine br_f (fi_n20 (by omega)) ⟨20 - i + 1, ?_⟩
      have u := inner _ i (by omega) (ih (i + 1) (by omega)) (20 - i) 0 (by omega)
      have e : fi_p g t (fun k => pf_R (fi_s g a) (fi_s g b) i k + (if i ≤ k ∧ k < i + 0 then fi_s g a i * fi_s g b (k - i) else 0)) = fi_p g t (pf_R (fi_s g a) (fi_s g b) i) := by
        apply fi_pc
        intro k hk
        rw [if_neg (by omega)]; grind
      rw [e] at u
      exact u
  unfold wpY_product
  refine yc_become t ht ?_
  have e : fi_p g t (pf_c (fi_z 0)) = fi_p g t (pf_R (fi_s g a) (fi_s g b) 0) := by
    apply fi_pc
    intro k hk
    have : fi_z 0 = 0 := by decide
    rw [this, pf_c0]; rfl
  have u := outer 20 0 rfl
  rw [← e] at u
  exact ⟨21, u⟩
end
