/-! The reference's inPlace on reduced forms; the step relation -/
theorem pr_sz_y {g : Nat → Fin 5} {w z : Nat} {b : PF × PF} (hb : ys_h g w b) (ob : pr_ok b) (l1 : pf_ln (fi_s g (2 * w)) (z + 1)) (l2 : pf_ln (fi_s g (2 * w + 1)) (z + 1)) (hx : z = 0 ∨ pf_hd (fi_s g (2 * w)) z ∨ pf_hd (fi_s g (2 * w + 1)) z) : pr_sz b.1 b.2 z := by
  rw [hb.1, hb.2] at hx
  rw [hb.1] at l1
  rw [hb.2] at l2
  refine ⟨l1, l2, ?_⟩
  rcases hx with e | e
  · subst e
    obtain ⟨d, hd, _⟩ := ob.2.2.1
    have := pf_hd_lt hd l2
    have e0 : d = 0 := by omega
    rw [e0] at hd
    exact Or.inr hd
  · exact e
/-- the denominator of a composition isn't 0, where the test for a number has passed -/
theorem pr_den {a b : PF × PF} {m z : Nat} (oa : pr_ok a) (ob : pr_ok b) (sa : pr_sz a.1 a.2 m) (sb : pr_sz b.1 b.2 z) (no : ¬ (z = 0 ∧ pf_hn a.2 (b.1 0) 16 17 = 0)) (hm : m ≤ 8) : ∃ d, pf_hd (pr_put a.2 b.1 b.2 m) d := by
  obtain ⟨e, he, _⟩ := oa.2.2.1
  obtain ⟨d, hd, md⟩ := ob.2.2.1
  have hem : e ≤ m := by have := pf_hd_lt he sa.2.1; omega
  by_cases cz : z = 0
  · subst cz
    have e0 : d = 0 := by have := pf_hd_lt hd sb.2.1; omega
    subst e0
    have eb1 : b.1 = pf_c (b.1 0) := pf_c_of sb.1
    have eb2 : b.2 = pf_c 1 := by rw [pf_c_of sb.2.1, md]
    have hv : pf_hn a.2 (b.1 0) 16 17 ≠ 0 := fun t => no ⟨rfl, t⟩
    have sh : ∀ n, n ≤ 16 - m → pf_hn a.2 (b.1 0) (m + n) (m + 1 + n) = pf_hn a.2 (b.1 0) m (m + 1) := by
      intro n
      induction n with
      | zero => intro _; rfl
      | succ n ih =>
        intro hn
        have t := pf_hn_sh (P := a.2) (x := b.1 0) (t := m + n) (sa.2.1 (m + n + 1) (by omega)) (m + 1 + n)
        have t2 : pf_hn a.2 (b.1 0) (m + (n + 1)) (m + 1 + (n + 1)) = pf_hn a.2 (b.1 0) (m + n) (m + 1 + n) := t
        rw [t2, ih (by omega)]
    have s16 := sh (16 - m) (Nat.le_refl _)
    have a1 : m + (16 - m) = 16 := by omega
    have a2 : m + 1 + (16 - m) = 17 := by omega
    rw [a1, a2] at s16
    refine ⟨0, ?_⟩
    rw [eb1, eb2, pr_put_num]
    apply pf_hd_c
    intro t
    apply hv
    rw [s16]
    have e3 : b.1 0 = (pf_c (b.1 0)) 0 := rfl
    exact t
  · exact pr_put_nz he hem (pr_ok_f1 ob) hd md ob.2.2.2 (by omega) sb.2.2
theorem pf_hn_19 {P : PF} {x : Fin 5} (h : pf_ln P 17) : pf_hn P x 19 20 = pf_hn P x 16 17 := by
  rw [pf_hn_sh (t := 18) (h 19 (by omega)) 19, pf_hn_sh (t := 17) (h 18 (by omega)) 18, pf_hn_sh (t := 16) (h 17 (by omega)) 17]
section
variable {f_count f_place f_opens f_top f_fault f_faultAt f_dry f_found : Int32} {a_c a_there a_kind a_num a_open a_openAt a_power a_table : Nat → Int32}
theorem yb_inPlace {post : SY → Prop} {g : Nat → Fin 5} {xv' xw xat : Int32} {a b : PF × PF} {m z : Nat} (v w : Nat) (hv : 2 * v + 1 < 52) (hw : 2 * w + 1 < 52) (vw : v ≠ w) (ha : ys_h g v a) (hb : ys_h g w b) (oa : pr_ok a) (ob : pr_ok b) (sa : pr_sz a.1 a.2 m) (sb : pr_sz b.1 b.2 z)
    (f3 : z = 0 → pf_hn a.2 (b.1 0) 16 17 = 0 → post (f_count, f_place, f_opens, f_top, 3, xat, f_dry, f_found, fi_m g, a_there, a_kind, a_num, a_open, a_openAt, a_power, a_table))
    (f4 : ¬ (z = 0 ∧ pf_hn a.2 (b.1 0) 16 17 = 0) → 8 < m * z → post (f_count, f_place, f_opens, f_top, 4, xat, f_dry, f_found, fi_m g, a_there, a_kind, a_num, a_open, a_openAt, a_power, a_table))
    (h : ¬ (z = 0 ∧ pf_hn a.2 (b.1 0) 16 17 = 0) → m * z ≤ 8 → ∀ (g' : Nat → Fin 5) (mm : Nat) (pw : Nat → Int32), ya_fr v g g' → pr_red (pr_put a.1 b.1 b.2 m) (pr_put a.2 b.1 b.2 m) (fi_s g' (2 * v)) (fi_s g' (2 * v + 1)) → post (f_count, f_place, f_opens, f_top, 0, f_faultAt, f_dry, nI mm, fi_m g', a_there, a_kind, a_num, a_open, a_openAt, pw, a_table))
    (ev : xv' = nI v := by rfl) (ew : xw = nI w := by rfl) : wpY_inPlace post (f_count, f_place, f_opens, f_top, 0, f_faultAt, f_dry, f_found, fi_m g, a_there, a_kind, a_num, a_open, a_openAt, a_power, a_table) xv' xw xat := by
  subst ev ew
  have hm8 : m ≤ 8 := (pr_sz_9 sa).mp ⟨oa.1, oa.2.1⟩
  have hz8 : z ≤ 8 := (pr_sz_9 sb).mp ⟨ob.1, ob.2.1⟩
  have e0 := ha.1
  have e1 := ha.2
  have b0 := hb.1
  have b1 := hb.2
  have go : ¬ (z = 0 ∧ pf_hn a.2 (b.1 0) 16 17 = 0) → wY_inPlace_43 post (nI v) (nI w) xat (nI m) f_count f_place f_opens f_top (0) f_faultAt f_dry f_found (fi_m g) a_there a_kind a_num a_open a_openAt a_power a_table := by
    intro no
    unfold wY_inPlace_43
    refine yc_size w (by omega) (fun z' hz' lb lb1 hx => ?_)
    obtain rfl := pr_sz_u (pr_sz_y hb ob lb lb1 hx) sb
    have em : nI m * nI z' = nI (m * z') := pk_mul m z'
    have hab : m * z' ≤ 8 * 8 := Nat.mul_le_mul hm8 hz8
    rw [em]
    by_cases c : m * z' ≤ 8
    · refine br_t (nI_le (b := 8) c (by decide)) ?_
      refine yc_put (2 * v) w m 84 z' (by omega) (by omega) hm8 (by omega) (by omega) lb lb1 c (fun g1 fr1 e84 => ?_) (fi_2 v)
      have k1 : ∀ s, s < 66 → fi_s g1 s = fi_s g s := fun s hs => fr1 s (by omega) (by omega) (by omega)
      refine yc_put (2 * v + 1) w m 86 z' (by omega) (by omega) hm8 (by omega) (by omega) (by rw [k1 _ (by omega)]; exact lb) (by rw [k1 _ (by omega)]; exact lb1) c (fun g2 fr2 e86 => ?_) (fi_21 v)
      have k2 : ∀ s, s < 66 → fi_s g2 s = fi_s g s := fun s hs => by rw [fr2 s (by omega) (by omega) (by omega)]; exact k1 s hs
      rw [k1 _ (by omega), k1 (2 * w) (by omega), k1 (2 * w + 1) (by omega), e1, b0, b1] at e86
      rw [e0, b0, b1] at e84
      have e84' : fi_s g2 84 = pr_put a.1 b.1 b.2 m := by rw [fr2 84 (by omega) (by omega) (by omega)]; exact e84
      have e86' : fi_s g2 86 = pr_put a.2 b.1 b.2 m := e86
      have l86 : pf_ln (pr_put a.2 b.1 b.2 m) 9 := by
        rw [b0] at lb
        rw [b1] at lb1
        exact pf_sP_ln (fun i _ => pf_ln_mono (pf_T_ln lb lb1 i m) (by omega))
      refine yc_copy 86 87 (by omega) (by omega) ?_
      have e87 : fi_s (fi_p g2 87 (fi_s g2 86)) 87 = pr_put a.2 b.1 b.2 m := by rw [fi_sp (fi_s_ln _ _)]; exact e86'
      refine yc_take v 87 87 hv (by omega) (by omega) (by omega) (by omega) (by omega) (by omega) (by omega) (by omega) (by rw [e87]; exact l86) (by rw [e87]; exact l86) (fun g' mm pw fr tk => ?_)
      rw [e87, fi_sq (by omega), fi_sq (by omega), e84', e86'] at tk
      obtain ⟨dd, hdd⟩ := pr_den oa ob sa sb no hm8
      refine h no c g' mm pw (fun s h1 h2 h3 => ?_) (pr_red_tk tk ⟨_, fi_s_ln _ _⟩ ⟨dd, hdd⟩ ⟨_, l86⟩ ⟨_, l86⟩ (pf_hd_n0 hdd) (pf_hd_n0 hdd) (fun f d _ dv => Or.inl dv))
      rw [fr s h1 h2 (by omega), fi_sq (by omega)]; exact k2 s h3
    · exact br_f (nI_ge (a := 8) (by omega) (by omega)) (br_t rfl (f4 no (by omega)))
  unfold wpY_inPlace
  refine yc_size v (by omega) (fun m' hm' la la1 hx => ?_)
  obtain rfl := pr_sz_u (pr_sz_y ha oa la la1 hx) sa
  refine yc_size w (by omega) (fun z' hz' lb lb1 hx2 => ?_)
  obtain rfl := pr_sz_u (pr_sz_y hb ob lb lb1 hx2) sb
  have hv19 : pf_hn a.2 (b.1 0) 19 20 = pf_hn a.2 (b.1 0) 16 17 := pf_hn_19 (pf_ln_mono oa.2.1 (by omega))
  by_cases c : z' = 0
  · have e40 : (40 : Int32) * nI w = nI (20 * (2 * w) + 0) := by
      show nI 40 * nI w = _
      rw [pk_mul]; congr 1; omega
    refine br_t (by rw [c]; rfl) ⟨pk_in _ 1800 (by omega) e40, ?_⟩
    refine yc_valueOf (2 * v + 1) (b.1 0) (by omega) ?_ (fi_21 v) ?_
    · rw [e1, hv19]
      by_cases c2 : pf_hn a.2 (b.1 0) 16 17 = 0
      · exact br_t (by rw [c2]; rfl) (br_t rfl (f3 c c2))
      · exact br_f (fun e => c2 ((fi_0 _).mp e)) (go (fun t => c2 t.2))
    · rw [e40, nI_clamp (by omega), ← b0, fi_s_at (by omega)]; rfl
  · exact br_f (nI_ne0 (by omega) (by omega)) (go (fun t => c t.1))
end
