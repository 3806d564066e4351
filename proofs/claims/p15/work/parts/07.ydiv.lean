/-! The reference's division with rest, monic polynomials by code, derivatives -/
theorem fi_pcm {g : Nat → Fin 5} {s t : Nat} {P Q : PF} (h : s ≠ t) : fi_p (fi_p g s P) t Q = fi_p (fi_p g t Q) s P := by
  funext k
  by_cases c : 20 * s ≤ k ∧ k < 20 * s + 20
  · have e1 : fi_p (fi_p g s P) t Q k = fi_p g s P k := fi_w_out (by omega)
    rw [e1]
    obtain ⟨j, rfl⟩ : ∃ j, k = 20 * s + j := ⟨k - 20 * s, by omega⟩
    have e2 : fi_p g s P (20 * s + j) = P j := fi_w_in (by omega)
    have e3 : fi_p (fi_p g t Q) s P (20 * s + j) = P j := fi_w_in (by omega)
    rw [e2, e3]
  · have e2 : fi_p (fi_p g t Q) s P k = fi_p g t Q k := fi_w_out (by omega)
    rw [e2]
    show (if 20 * t ≤ k ∧ k < 20 * t + 20 then Q (k - 20 * t) else fi_p g s P k) = (if 20 * t ≤ k ∧ k < 20 * t + 20 then Q (k - 20 * t) else g k)
    have e3 : fi_p g s P k = g k := fi_w_out (by omega)
    rw [e3]
theorem fi_nm1 {n : Nat} (h : n < 2 ^ 31) : (-1 : Int32) < nI n := by
  have e : (-1 : Int32).toInt = -1 := by decide
  rw [Int32.lt_iff_toInt_lt, nI_toInt h, e]; omega
theorem yc_inv' {post : Int32 → Prop} {x : Int32} {y : Fin 5} (e : x = fi_I y) (h : post (fi_I (y * y * y))) : wpY_inverse post x := by
  subst e; exact yc_inv h
section
variable {f_count f_place f_opens f_top f_fault f_faultAt f_dry f_found : Int32} {a_c a_there a_kind a_num a_open a_openAt a_power a_table : Nat → Int32}
theorem yc_divide {post : SY → Prop} {g : Nat → Fin 5} {xa xb xq xr : Int32} (a b q r : Nat) {d : Nat} (ha : a < 90) (hb : b < 90) (hq : q < 90) (hr : r < 90) (qr : r ≠ q) (qb : b ≠ q) (rb : b ≠ r) (hB : pf_hd (fi_s g b) d)
    (h : ∀ Q R : PF, pf_ln Q 20 → pf_ln R d → fi_s g a = pf_add (pf_mul Q (fi_s g b)) R → post (f_count, f_place, f_opens, f_top, f_fault, f_faultAt, f_dry, f_found, fi_m (fi_p (fi_p g r R) q Q), a_there, a_kind, a_num, a_open, a_openAt, a_power, a_table))
    (ea : xa = nI a := by rfl) (eb : xb = nI b := by rfl) (eq : xq = nI q := by rfl) (er : xr = nI r := by rfl) : wpY_divide post (f_count, f_place, f_opens, f_top, f_fault, f_faultAt, f_dry, f_found, fi_m g, a_there, a_kind, a_num, a_open, a_openAt, a_power, a_table) xa xb xq xr := by
  subst ea eb eq er
  have hd : d < 20 := pf_hd_lt hB (fi_s_ln g b)
  have inner : ∀ (J : Int32 → (Nat → Int32) → (Nat → Int32) → (Nat → Int32) → (Nat → Int32) → (Nat → Int32) → (Nat → Int32) → (Nat → Int32) → (Nat → Int32) → Prop) (x6 : Int32) (e : Nat) (f : Fin 5) (Q R : PF), d ≤ e → e < 20 → pf_ln R 20 →
      J (nI e + (-1)) (fi_m (fi_p (fi_p g q Q) r (pf_sub R (pf_mul (pf_mn f (e - d)) (fi_s g b))))) a_there a_kind a_num a_open a_openAt a_power a_table →
      ∀ m k, k + m = d + 1 → wY_divide_93 post J (nI b) (nI q) (nI r) (nI d) x6 (nI e) (fi_I f) f_count f_place f_opens f_top f_fault f_faultAt f_dry f_found (m + 1) (nI k) (fi_m (fi_p (fi_p g q Q) r (fun x => R x - (if e - d ≤ x ∧ x < e - d + k then f * fi_s g b (x - (e - d)) else 0)))) a_there a_kind a_num a_open a_openAt a_power a_table := by
    intro J x6 e f Q R hde he hR hJ m
    induction m with
    | zero =>
      intro k hk
      refine br_t (nI_lt (by omega) (by omega)) (nm_e ?_)
      have ee : fi_p (fi_p g q Q) r (fun x => R x - (if e - d ≤ x ∧ x < e - d + k then f * fi_s g b (x - (e - d)) else 0)) = fi_p (fi_p g q Q) r (pf_sub R (pf_mul (pf_mn f (e - d)) (fi_s g b))) := by
        apply fi_pc
        intro x hx
        show _ = R x + - pf_cm x (pf_mn f (e - d)) (fi_s g b)
        rw [pf_mn_cm]
        by_cases c : e - d ≤ x
        · by_cases c2 : x < e - d + k
          · rw [if_pos ⟨c, c2⟩, if_pos c]; grind
          · rw [if_neg (by omega), if_pos c, hB.1 (x - (e - d)) (by omega)]; grind
        · rw [if_neg (by omega), if_neg c]; grind
      rw [ee]; exact hJ
    | succ m ih =>
      intro k hk
      have ex : (20 : Int32) * nI r + nI e - nI d + nI k = nI (20 * r + (e - d + k)) := by
        rw [fi_ix, pk_sub (by omega), nI_add]; congr 1; omega
      have ein : vp_in ((20 : Int32) * nI r + nI e - nI d + nI k) 1800 := pk_in (20 * r + (e - d + k)) 1800 (by omega) ex
      refine br_f (nI_nlt (by omega) (by omega)) ⟨ein, fi_in hb (by omega), yc_mod (x := R (e - d + k) - f * fi_s g b k) ?_ ⟨ein, nm_r ?_ (nm_r (nI_1 k) (ih (k + 1) (by omega)))⟩⟩
      · rw [ex, nI_clamp (by omega), fi_rd hb (by omega), fi_sq rb, fi_sq qb]
        show fi_z (fi_I (fi_w _ (20 * r) _ 20 (20 * r + (e - d + k))) - _) = _
        rw [fi_w_in (by omega), if_neg (by omega)]
        have e0 : R (e - d + k) - 0 = R (e - d + k) := by grind
        rw [e0, fi_ms]
      · rw [ex, nI_clamp (by omega)]
        apply fi_pu (by omega)
        intro x hx
        by_cases c : x = e - d + k
        · rw [if_pos c, c, if_pos (by omega)]
          congr 3; omega
        · rw [if_neg c]
          congr 1
          by_cases c2 : e - d ≤ x ∧ x < e - d + k
          · rw [if_pos c2, if_pos (by omega)]
          · rw [if_neg c2, if_neg (by omega)]
  have key : ∀ j (Q R : PF) n, pf_ln Q 20 → pf_ln R 20 → pf_ln R j → (∀ k, k + d < j → Q k = 0) → j ≤ 20 → fi_s g a = pf_add (pf_mul Q (fi_s g b)) R → j < n →
      wY_divide_45 post (nI b) (nI q) (nI r) (nI d) (fi_I (fi_s g b d * fi_s g b d * fi_s g b d)) f_count f_place f_opens f_top f_fault f_faultAt f_dry f_found n (nI j + (-1)) (fi_m (fi_p (fi_p g r R) q Q)) a_there a_kind a_num a_open a_openAt a_power a_table := by
    intro j
    induction j with
    | zero =>
      intro Q R n hQ hR hRj hQj hj hA hn
      obtain ⟨n, rfl⟩ : ∃ m, n = m + 1 := ⟨n - 1, by omega⟩
      have e0 : nI 0 + (-1) = -1 := by decide
      rw [e0]
      exact br_t (fi_nm1 (by omega)) (h Q R hQ (pf_ln_mono hRj (by omega)) hA)
    | succ e ih =>
      intro Q R n hQ hR hRj hQj hj hA hn
      obtain ⟨n, rfl⟩ : ∃ m, n = m + 1 := ⟨n - 1, by omega⟩
      rw [pk_m1]
      by_cases c : e < d
      · exact br_t (nI_lt c (by omega)) (h Q R hQ (pf_ln_mono hRj (by omega)) hA)
      · have ex : (20 : Int32) * nI q + nI e - nI d = nI (20 * q + (e - d)) := by
          rw [fi_ix, pk_sub (by omega)]; congr 1; omega
        refine br_f (nI_nlt (by omega) (by omega)) ⟨fi_in hr (by omega), yc_mod (x := R e * (fi_s g b d * fi_s g b d * fi_s g b d)) ?_ ⟨pk_in (20 * q + (e - d)) 1800 (by omega) ex, nm_r (e' := fi_m (fi_p (fi_p g r R) q (pf_add Q (pf_mn (R e * (fi_s g b d * fi_s g b d * fi_s g b d)) (e - d))))) ?_ ⟨d + 2, ?_⟩⟩⟩
        · rw [fi_rd hr (by omega), fi_sq qr, fi_sp hR, fi_mm]
        · rw [ex, nI_clamp (by omega)]
          apply fi_pu (by omega)
          intro x hx
          show Q x + (if x = e - d then R e * (fi_s g b d * fi_s g b d * fi_s g b d) else 0) = _
          by_cases c2 : x = e - d
          · rw [if_pos c2, if_pos c2, hQj x (by omega)]; grind
          · rw [if_neg c2, if_neg c2]; grind
        · generalize ef : R e * (fi_s g b d * fi_s g b d * fi_s g b d) = f
          have u := inner (wY_divide_45 post (nI b) (nI q) (nI r) (nI d) (fi_I (fi_s g b d * fi_s g b d * fi_s g b d)) f_count f_place f_opens f_top f_fault f_faultAt f_dry f_found n) (fi_I (fi_s g b d * fi_s g b d * fi_s g b d)) e f (pf_add Q (pf_mn f (e - d))) R (by omega) (by omega) hR ?_ (d + 1) 0 (by omega)
          · have ee : fi_p (fi_p g r R) q (pf_add Q (pf_mn f (e - d))) = fi_p (fi_p g q (pf_add Q (pf_mn f (e - d)))) r (fun x => R x - (if e - d ≤ x ∧ x < e - d + 0 then f * fi_s g b (x - (e - d)) else 0)) := by
              rw [fi_pcm qr]
              apply fi_pc
              intro x hx
              rw [if_neg (by omega)]; grind
            rw [ee]; exact u
          · rw [← fi_pcm qr]
            refine ih _ _ n ?_ ?_ ?_ ?_ (by omega) ?_ (by omega)
            · exact pf_add_ln hQ (pf_ln_mono (pf_mn_ln _ _) (by omega))
            · apply pf_sub_ln hR
              intro k hk
              show pf_cm k (pf_mn f (e - d)) (fi_s g b) = 0
              rw [pf_mn_cm]
              by_cases c2 : e - d ≤ k
              · rw [if_pos c2, hB.1 _ (by omega)]; grind
              · rw [if_neg c2]
            · intro k hk
              show R k + - pf_cm k (pf_mn f (e - d)) (fi_s g b) = 0
              rw [pf_mn_cm, if_pos (by omega)]
              by_cases c2 : k = e
              · have e1 : k - (e - d) = d := by omega
                have e2 := pf_inv (fi_s g b d) hB.2
                rw [e1, c2, ← ef]; grind
              · rw [hRj k (by omega), hB.1 (k - (e - d)) (by omega)]; grind
            · intro k hk
              show Q k + (if k = e - d then f else 0) = 0
              rw [hQj k (by omega), if_neg (by omega)]; decide
            · rw [hA]
              generalize pf_mn f (e - d) = t
              generalize fi_s g b = B
              letI := pf_ring
              show Q * B + R = (Q + t) * B + (R - t * B)
              grind
  unfold wpY_divide
  refine yc_deg b hb (fun z => absurd z (pf_hd_n0 hB)) (fun d' hd' hB' => ?_)
  obtain rfl := pf_hd_u hB' hB
  refine ⟨fi_in hb hd', yc_inv' (fi_rd hb hd') ?_⟩
  refine yc_copy a r ha hr ?_
  refine yc_become q hq ?_
  have z0 : fi_z 0 = 0 := by decide
  rw [z0]
  have eA : fi_s (fi_p (fi_p g r (fi_s g a)) q (pf_c 0)) r = fi_s g a := by rw [fi_sq qr, fi_sp (fi_s_ln g a)]
  have hA0 : fi_s g a = pf_add (pf_mul (pf_c 0) (fi_s g b)) (fi_s g a) := by
    generalize fi_s g b = B
    generalize fi_s g a = A
    letI := pf_ring
    show A = 0 * B + A
    grind
  have c0 : pf_ln (pf_c 0) 20 := pf_ln_mono (pf_c_ln 0) (by omega)
  have c1 : ∀ k, pf_c 0 k = 0 := fun k => by rw [pf_c0]
  refine yc_deg r hr (fun z => ⟨1, ?_⟩) (fun e he hE => ⟨e + 2, ?_⟩)
  · rw [eA] at z
    have u := key 0 (pf_c 0) (fi_s g a) 1 c0 (fi_s_ln g a) (by rw [z]; exact fun k _ => c1 k) (fun k _ => c1 k) (by omega) hA0 (by omega)
    exact u
  · rw [eA] at hE
    have u := key (e + 1) (pf_c 0) (fi_s g a) (e + 2) c0 (fi_s_ln g a) hE.1 (fun k _ => c1 k) (by omega) hA0 (by omega)
    rw [pk_m1] at u
    exact u
theorem yc_monic {post : SY → Prop} {g : Nat → Fin 5} {xd xt : Int32} (d t : Nat) (hd : d < 20) (ht : t < 2 ^ 31) (h : post (f_count, f_place, f_opens, f_top, f_fault, f_faultAt, f_dry, f_found, fi_m (fi_p g 70 (pf_mk d t)), a_there, a_kind, a_num, a_open, a_openAt, a_power, a_table)) (ed : xd = nI d := by rfl) (et : xt = nI t := by rfl) : wpY_monic post (f_count, f_place, f_opens, f_top, f_fault, f_faultAt, f_dry, f_found, fi_m g, a_there, a_kind, a_num, a_open, a_openAt, a_power, a_table) xd xt := by
  subst ed et
  have key : ∀ m j, j + m = d → wY_monic_12 post (nI d) f_count f_place f_opens f_top f_fault f_faultAt f_dry f_found (m + 1) (nI (t / 5 ^ j)) (nI j) (fi_m (fi_p g 70 (fun k => if k < j then Fin.ofNat 5 (t / 5 ^ k) else 0))) a_there a_kind a_num a_open a_openAt a_power a_table := by
    intro m
    induction m with
    | zero =>
      intro j hj
      obtain rfl : j = d := by omega
      have ex : (1400 : Int32) + nI j = nI (20 * 70 + j) := nI_add 1400 j
      refine br_t (nI_le (Nat.le_refl _) (by omega)) ⟨pk_in (20 * 70 + j) 1800 (by omega) ex, nm_r ?_ h⟩
      rw [ex, nI_clamp (by omega)]
      refine fi_pu (x := 1) hd ?_
      intro k hk
      show (if k < j then Fin.ofNat 5 (t / 5 ^ k) else if k = j then 1 else 0) = _
      by_cases c : k = j
      · rw [if_neg (by omega), if_pos c, if_pos c]
      · rw [if_neg c, if_neg c]
    | succ m ih =>
      intro j hj
      have ex : (1400 : Int32) + nI j = nI (20 * 70 + j) := nI_add 1400 j
      have ht2 : t / 5 ^ j < 2 ^ 31 := Nat.lt_of_le_of_lt (Nat.div_le_self _ _) ht
      refine br_f (nI_ge (by omega) (by omega)) ⟨by decide, pk_in (20 * 70 + j) 1800 (by omega) ex, nm_r ?_ ⟨by decide, nm_r (e' := nI (t / 5 ^ (j + 1))) ?_ (nm_r (nI_1 j) (ih (j + 1) (by omega)))⟩⟩
      · have er : nI (t / 5 ^ j) - nI (t / 5 ^ j) / 5 * 5 = fi_I (Fin.ofNat 5 (t / 5 ^ j)) := pk_rem (d := 5) ht2 (by decide) (by decide)
        rw [ex, nI_clamp (by omega), er]
        apply fi_pu (by omega)
        intro k hk
        by_cases c : k = j
        · rw [if_pos (by omega), if_pos c, c]
        · rw [if_neg c]
          by_cases c2 : k < j
          · rw [if_pos c2, if_pos (by omega)]
          · rw [if_neg c2, if_neg (by omega)]
      · have ed : nI (t / 5 ^ j) / 5 = nI (t / 5 ^ j / 5) := pk_div (d := 5) ht2 (by decide) (by decide)
        rw [ed, Nat.div_div_eq_div_mul, Nat.pow_succ]
  unfold wpY_monic
  refine yc_become 70 (by omega) ?_
  have u := key d 0 (by omega)
  rw [Nat.pow_zero, Nat.div_one] at u
  have e : fi_p g 70 (pf_c (fi_z 0)) = fi_p g 70 (fun k => if k < 0 then Fin.ofNat 5 (t / 5 ^ k) else 0) := by
    apply fi_pc
    intro k hk
    have : fi_z 0 = 0 := by decide
    rw [this, pf_c0, if_neg (by omega)]
  rw [← e] at u
  exact ⟨d + 1, u⟩
end
