/-! The reference's evaluate, store, clear and questions end; the places stay small -/
def ya_9 (g : Nat → Fin 5) : Prop := ∀ s, 52 ≤ s → s < 66 → pf_ln (fi_s g s) 9
theorem ya_9_pl {g g' : Nat → Fin 5} (h : ya_9 g) (p : ya_pl g g') : ya_9 g' := fun s a b => by rw [p s a b]; exact h s a b
section
variable {f_count f_place f_opens f_top f_fault f_faultAt f_dry f_found : Int32} {a_c a_there a_kind a_num a_open a_openAt a_power a_table : Nat → Int32}
theorem yc_pass {post : Int32 → SY → Prop} {kd : Nat → Nat} {cnt : Nat} {g : Nat → Fin 5} (hc : cnt ≤ 24) (tk : ya_tk a_kind a_num cnt kd) (pl9 : ya_9 g) (hf : ¬ f_dry = 0 → f_fault = 0)
    (H : ∀ (g' : Nat → Fin 5) (ops tp ft fa m : Int32) (pw ao aa : Nat → Int32), ya_pl g g' → (ya_sc kd cnt 0 0 true true = none → ya_in f_dry ft 1 g') → post (ya_r (ya_sc kd cnt 0 0 true true)) (nI cnt, f_place, ops, tp, ft, fa, f_dry, m, fi_m g', a_there, a_kind, a_num, ao, aa, pw, a_table)) :
    wpY_pass post (nI cnt, f_place, f_opens, f_top, f_fault, f_faultAt, f_dry, f_found, fi_m g, a_there, a_kind, a_num, a_open, a_openAt, a_power, a_table) := by
  unfold wpY_pass
  exact ⟨cnt + 1, yc_pass16 (g0 := g) hc tk pl9 H cnt 0 true true 1 1 (fun _ => 0) 0 0 g f_fault f_faultAt f_found a_power a_open a_openAt (by omega) rfl rfl (fun _ => ⟨fun z => absurd z (by decide), fun z => nomatch z⟩) (Nat.le_refl _) (fun j hj => by omega) rfl ⟨fun _ _ s hs => by omega, hf⟩ (ya_pl_r g)⟩
theorem yc_evaluate {post : Int32 → SY → Prop} {kd : Nat → Nat} {cnt : Nat} {g : Nat → Fin 5} (hc : cnt ≤ 24) (tk : ya_tk a_kind a_num cnt kd) (pl9 : ya_9 g)
    (h : ∀ (r : Int32) (g' : Nat → Fin 5) (f_place f_opens f_top f_fault f_faultAt f_dry f_found : Int32) (a_there a_open a_openAt a_power : Nat → Int32), ya_9 g' → post r (nI cnt, f_place, f_opens, f_top, f_fault, f_faultAt, f_dry, f_found, fi_m g', a_there, a_kind, a_num, a_open, a_openAt, a_power, a_table)) :
    wpY_evaluate post (nI cnt, f_place, f_opens, f_top, f_fault, f_faultAt, f_dry, f_found, fi_m g, a_there, a_kind, a_num, a_open, a_openAt, a_power, a_table) := by
  unfold wpY_evaluate
  refine nm_e (yc_pass hc tk pl9 (fun _ => rfl) (fun g1 ops tp ft fa m pw ao aa p1 _ => ?_))
  generalize er : ya_sc kd cnt 0 0 true true = res
  cases res with
  | some p =>
    have hp : ¬ ya_r (some p) < 0 ∨ ya_r (some p) < 0 := by
      by_cases c : ya_r (some p) < 0
      · exact Or.inr c
      · exact Or.inl c
    rcases hp with c | c
    · exact br_f c (h _ _ _ _ _ _ _ _ _ _ _ _ _ (ya_9_pl pl9 p1))
    · refine br_t c (yc_pass hc tk (ya_9_pl pl9 p1) (fun z => absurd rfl z) (fun g2 ops tp ft fa m pw ao aa p2 hin => ?_))
      exfalso
      have hq : ∀ r i dp op sg p, ya_sc kd r i dp op sg = some p → p ≤ i + r := by
        intro r
        induction r with
        | zero =>
          intro i dp op sg p e
          have e2 : (if op || decide (0 < dp) then some i else none) = some p := e
          by_cases c2 : (op || decide (0 < dp)) = true
          · rw [if_pos c2] at e2; injection e2 with e3; omega
          · rw [if_neg c2] at e2; exact nomatch e2
        | succ r ih =>
          intro i dp op sg p e
          by_cases c2 : ya_fit (kd i) dp op sg = true
          · rw [ya_sc_t c2] at e
            have := ih _ _ _ _ _ e
            omega
          · rw [ya_sc_f (by simpa using c2)] at e; injection e with e3; omega
      have := hq _ _ _ _ _ _ er
      exact nI_pos (n := p) (by omega) c
  | none =>
    refine br_t (by decide) (yc_pass hc tk (ya_9_pl pl9 p1) (fun z => absurd rfl z) (fun g2 ops tp ft fa m pw ao aa p2 hin => ?_))
    have i1 := hin er
    by_cases c : ft = 0
    · subst c
      refine br_t rfl ?_
      refine yc_copy 0 64 (by omega) (by omega) ?_
      refine yc_copy 1 65 (by omega) (by omega) (nm_e (h _ _ _ _ _ _ _ _ _ _ _ _ _ ?_))
      intro s a b
      by_cases c1 : s = 65
      · subst c1
        rw [fi_sp (fi_s_ln _ _), fi_sq (by omega)]; exact i1.1 rfl rfl 1 (by omega)
      · rw [fi_sq c1]
        by_cases c2 : s = 64
        · subst c2
          rw [fi_sp (fi_s_ln _ _)]; exact i1.1 rfl rfl 0 (by omega)
        · rw [fi_sq c2]; exact ya_9_pl (ya_9_pl pl9 p1) p2 s a b
    · exact br_f c (h _ _ _ _ _ _ _ _ _ _ _ _ _ (ya_9_pl (ya_9_pl pl9 p1) p2))
theorem yc_store {post : Int32 → SY → Prop} {g : Nat → Fin 5} {x : Int32} (pl9 : ya_9 g) (h : ∀ (r : Int32) (g' : Nat → Fin 5) (a_there : Nat → Int32), ya_9 g' → post r (f_count, f_place, f_opens, f_top, f_fault, f_faultAt, f_dry, f_found, fi_m g', a_there, a_kind, a_num, a_open, a_openAt, a_power, a_table)) : wpY_store post (f_count, f_place, f_opens, f_top, f_fault, f_faultAt, f_dry, f_found, fi_m g, a_there, a_kind, a_num, a_open, a_openAt, a_power, a_table) x := by
  unfold wpY_store
  by_cases c0 : x < 0
  · exact br_t c0 (h _ _ _ pl9)
  · by_cases c5 : 5 < x
    · exact br_f c0 (br_t c5 (h _ _ _ pl9))
    · obtain ⟨n, hn, rfl⟩ := nI_of c0
      have hn5 : n ≤ 5 := (nI_leI (b := 5) hn (by decide)).mp (Int32.not_lt.mp c5)
      have e52 : (52 : Int32) + 2 * nI n = nI (52 + 2 * n) := by rw [fi_2]; exact nI_add 52 (2 * n)
      have e53 : (53 : Int32) + 2 * nI n = nI (53 + 2 * n) := by rw [fi_2]; exact nI_add 53 (2 * n)
      refine br_f c0 (br_f c5 (br_c (fun _ => h _ _ _ pl9) (fun _ => ?_)))
      refine yc_copy 64 (52 + 2 * n) (by omega) (by omega) ?_ rfl e52
      refine yc_copy 65 (53 + 2 * n) (by omega) (by omega) ⟨vp_in_nI (by omega) (by omega), nm_e (h _ _ _ ?_)⟩ rfl e53
      intro s a b
      by_cases c1 : s = 53 + 2 * n
      · subst c1
        rw [fi_sp (fi_s_ln _ _), fi_sq (by omega)]; exact pl9 65 (by omega) (by omega)
      · rw [fi_sq c1]
        by_cases c2 : s = 52 + 2 * n
        · subst c2
          rw [fi_sp (fi_s_ln _ _)]; exact pl9 64 (by omega) (by omega)
        · rw [fi_sq c2]; exact pl9 s a b
theorem yc_clear {post : Int32 → SY → Prop} {x : Int32} (h : ∀ (r : Int32) (a_there : Nat → Int32), post r (f_count, f_place, f_opens, f_top, f_fault, f_faultAt, f_dry, f_found, a_c, a_there, a_kind, a_num, a_open, a_openAt, a_power, a_table)) : wpY_clear post (f_count, f_place, f_opens, f_top, f_fault, f_faultAt, f_dry, f_found, a_c, a_there, a_kind, a_num, a_open, a_openAt, a_power, a_table) x := by
  unfold wpY_clear
  by_cases c0 : x < 0
  · exact br_t c0 (h _ _)
  · by_cases c5 : 5 < x
    · exact br_f c0 (br_t c5 (h _ _))
    · obtain ⟨n, hn, rfl⟩ := nI_of c0
      have hn5 : n ≤ 5 := (nI_leI (b := 5) hn (by decide)).mp (Int32.not_lt.mp c5)
      have i7 : vp_in (nI n) 7 := vp_in_nI (by omega) (by omega)
      exact br_f c0 (br_f c5 ⟨i7, br_c (fun _ => h _ _) (fun _ => ⟨i7, nm_e (h _ _)⟩)⟩)
theorem yc_has {post : Int32 → Prop} {x : Int32} (h0 : post 0) (h1 : ∀ a, a < 7 → x = nI a → post 1) : wpY_has post (f_count, f_place, f_opens, f_top, f_fault, f_faultAt, f_dry, f_found, a_c, a_there, a_kind, a_num, a_open, a_openAt, a_power, a_table) x := by
  unfold wpY_has
  by_cases c0 : x < 0
  · exact br_t c0 h0
  · by_cases c7 : 7 ≤ x
    · exact br_f c0 (br_t c7 h0)
    · obtain ⟨k, hk, rfl⟩ := nI_of c0
      have hk7 : k < 7 := by
        by_cases c : k < 7
        · exact c
        · exact absurd (nI_le (a := 7) (by omega) hk) c7
      exact br_f c0 (br_f c7 ⟨vp_in_nI hk7 (by omega), br_c (fun _ => h0) (fun _ => h1 k hk7 rfl)⟩)
theorem yc_part {post : Int32 → Prop} {x y : Int32} (h0 : post (-1)) (h1 : ∀ a p, a < 7 → p < 2 → x = nI a → y = nI p → post (nI (52 + 2 * a + p))) : wpY_part post (f_count, f_place, f_opens, f_top, f_fault, f_faultAt, f_dry, f_found, a_c, a_there, a_kind, a_num, a_open, a_openAt, a_power, a_table) x y := by
  unfold wpY_part
  refine yc_has (br_t rfl h0) (fun a ha e => br_f (by decide) ?_)
  subst e
  by_cases c0 : y < 0
  · exact br_t c0 h0
  · by_cases c1 : y ≤ 1
    · obtain ⟨p, hp, rfl⟩ := nI_of c0
      have hp1 : p ≤ 1 := (nI_leI (b := 1) hp (by decide)).mp c1
      have e52 : (52 : Int32) + 2 * nI a + nI p = nI (52 + 2 * a + p) := by
        rw [fi_2]
        have e : (52 : Int32) + nI (2 * a) = nI (52 + 2 * a) := nI_add 52 (2 * a)
        rw [e, nI_add]
      refine br_f c0 (br_t c1 ?_)
      rw [e52]
      exact h1 a p ha (by omega) rfl rfl
    · exact br_f c0 (br_f c1 h0)
theorem yc_degree {post : Int32 → Prop} {g : Nat → Fin 5} {x y : Int32} (h : ∀ r : Int32, post r) : wpY_degree post (f_count, f_place, f_opens, f_top, f_fault, f_faultAt, f_dry, f_found, fi_m g, a_there, a_kind, a_num, a_open, a_openAt, a_power, a_table) x y := by
  unfold wpY_degree
  exact yc_part (br_f (by decide) (h _)) (fun a p ha hp _ _ => br_t (nI_pos' (by omega)) (yc_deg (52 + 2 * a + p) (by omega) (fun _ => h _) (fun _ _ _ => h _)))
theorem yc_number {post : Int32 → Prop} {x y z : Int32} (h : ∀ r : Int32, post r) : wpY_number post (f_count, f_place, f_opens, f_top, f_fault, f_faultAt, f_dry, f_found, a_c, a_there, a_kind, a_num, a_open, a_openAt, a_power, a_table) x y z := by
  unfold wpY_number
  refine yc_part (br_t (by decide) (h _)) (fun a p ha hp _ _ => br_f (nI_pos (by omega)) ?_)
  by_cases c0 : z < 0
  · exact br_t c0 (h _)
  · by_cases c8 : z ≤ 8
    · obtain ⟨k, hk, rfl⟩ := nI_of c0
      have hk8 : k ≤ 8 := (nI_leI (b := 8) hk (by decide)).mp c8
      exact br_f c0 (br_t c8 ⟨pk_in (20 * (52 + 2 * a + p) + k) 1800 (by omega) (fi_ix _ _), h _⟩)
    · exact br_f c0 (br_f c8 (h _))
theorem yc_value {post : Int32 → Prop} {g : Nat → Fin 5} {x y : Int32} (h : ∀ r : Int32, post r) : wpY_value post (f_count, f_place, f_opens, f_top, f_fault, f_faultAt, f_dry, f_found, fi_m g, a_there, a_kind, a_num, a_open, a_openAt, a_power, a_table) x y := by
  unfold wpY_value
  refine yc_has (br_t rfl (h _)) (fun a ha e => br_f (by decide) ?_)
  subst e
  have e52 : (52 : Int32) + 2 * nI a = nI (52 + 2 * a) := by rw [fi_2]; exact nI_add 52 (2 * a)
  have e53 : (53 : Int32) + 2 * nI a = nI (53 + 2 * a) := by rw [fi_2]; exact nI_add 53 (2 * a)
  refine yc_mod rfl (yc_valueOf (52 + 2 * a) _ (by omega) (yc_valueOf (53 + 2 * a) _ (by omega) (br_c (fun _ => h _) (fun _ => yc_inv (yc_mod rfl (h _)))) e53) e52)
theorem yc_factors {post : Int32 → SY → Prop} {g : Nat → Fin 5} {x y : Int32} (pl9 : ya_9 g) (h0 : post (-1) (f_count, f_place, f_opens, f_top, f_fault, f_faultAt, f_dry, f_found, fi_m g, a_there, a_kind, a_num, a_open, a_openAt, a_power, a_table))
    (h1 : ∀ (a p m : Nat) (g' : Nat → Fin 5) (pw : Nat → Int32), a < 7 → p < 2 → x = nI a → y = nI p → m ≤ 8 → ys_fr g g' → fi_s g (52 + 2 * a + p) ≠ pf_c 0 → ys_ok g' (fi_s g (52 + 2 * a + p)) m pw → post (nI m) (f_count, f_place, f_opens, f_top, f_fault, f_faultAt, f_dry, nI m, fi_m g', a_there, a_kind, a_num, a_open, a_openAt, pw, a_table)) :
    wpY_factors post (f_count, f_place, f_opens, f_top, f_fault, f_faultAt, f_dry, f_found, fi_m g, a_there, a_kind, a_num, a_open, a_openAt, a_power, a_table) x y := by
  unfold wpY_factors
  refine yc_part (br_t (by decide) h0) (fun a p ha hp ex ey => br_f (nI_pos (by omega)) ?_)
  refine yc_deg (52 + 2 * a + p) (by omega) (fun _ => br_f (by decide) h0) (fun d hd hD => br_t (nI_pos' (by omega)) ?_)
  exact yc_split (52 + 2 * a + p) (by omega) (by omega) (pl9 _ (by omega) (by omega)) (fun g' m pw hm fr ok => h1 a p m g' pw ha hp ex ey hm fr (pf_hd_n0 hD) ok)
theorem ya_9_fr {g g' : Nat → Fin 5} (h : ya_9 g) (f : ys_fr g g') : ya_9 g' := fun s a b => by rw [f s (by omega)]; exact h s a b
theorem ya_pl_fr {g g' : Nat → Fin 5} (f : ys_fr g g') : ya_pl g g' := fun s a b => f s (by omega)
theorem yc_factorDegree {post : Int32 → SY → Prop} {g : Nat → Fin 5} {x y z : Int32} (pl9 : ya_9 g) (h : ∀ (r : Int32) (g' : Nat → Fin 5) (f_found : Int32) (a_power : Nat → Int32), ya_pl g g' → post r (f_count, f_place, f_opens, f_top, f_fault, f_faultAt, f_dry, f_found, fi_m g', a_there, a_kind, a_num, a_open, a_openAt, a_power, a_table)) : wpY_factorDegree post (f_count, f_place, f_opens, f_top, f_fault, f_faultAt, f_dry, f_found, fi_m g, a_there, a_kind, a_num, a_open, a_openAt, a_power, a_table) x y z := by
  unfold wpY_factorDegree
  by_cases c0 : z < 0
  · exact yc_factors pl9 (br_t c0 (h _ _ _ _ (ya_pl_r g))) (fun a p m g' pw _ _ _ _ hm fr _ _ => br_t c0 (h _ _ _ _ (ya_pl_fr fr)))
  · obtain ⟨i, hi, rfl⟩ := nI_of c0
    refine yc_factors pl9 (br_f c0 (br_f ?_ (h _ _ _ _ (ya_pl_r g)))) (fun a p m g' pw _ _ _ _ hm fr _ _ => br_f c0 ?_)
    · have := fi_nm1 hi
      rw [Int32.not_lt]; exact Int32.le_of_lt this
    · by_cases c : i < m
      · exact br_t (nI_lt c (by omega)) (yc_deg (72 + i) (by omega) (fun _ => h _ _ _ _ (ya_pl_fr fr)) (fun _ _ _ => h _ _ _ _ (ya_pl_fr fr)) (fi_72 i))
      · exact br_f (nI_nlt (by omega) (by omega)) (h _ _ _ _ (ya_pl_fr fr))
theorem yc_power {post : Int32 → SY → Prop} {g : Nat → Fin 5} {x y z : Int32} (pl9 : ya_9 g) (h : ∀ (r : Int32) (g' : Nat → Fin 5) (f_found : Int32) (a_power : Nat → Int32), ya_pl g g' → post r (f_count, f_place, f_opens, f_top, f_fault, f_faultAt, f_dry, f_found, fi_m g', a_there, a_kind, a_num, a_open, a_openAt, a_power, a_table)) : wpY_power post (f_count, f_place, f_opens, f_top, f_fault, f_faultAt, f_dry, f_found, fi_m g, a_there, a_kind, a_num, a_open, a_openAt, a_power, a_table) x y z := by
  unfold wpY_power
  by_cases c0 : z < 0
  · exact yc_factors pl9 (br_t c0 (h _ _ _ _ (ya_pl_r g))) (fun a p m g' pw _ _ _ _ hm fr _ _ => br_t c0 (h _ _ _ _ (ya_pl_fr fr)))
  · obtain ⟨i, hi, rfl⟩ := nI_of c0
    refine yc_factors pl9 (br_f c0 (br_f ?_ (h _ _ _ _ (ya_pl_r g)))) (fun a p m g' pw _ _ _ _ hm fr _ _ => br_f c0 ?_)
    · have := fi_nm1 hi
      rw [Int32.not_lt]; exact Int32.le_of_lt this
    · by_cases c : i < m
      · exact br_t (nI_lt c (by omega)) ⟨vp_in_nI (by omega) (by omega), h _ _ _ _ (ya_pl_fr fr)⟩
      · exact br_f (nI_nlt (by omega) (by omega)) (h _ _ _ _ (ya_pl_fr fr))
theorem yc_factor {post : Int32 → SY → Prop} {g : Nat → Fin 5} {x y z w : Int32} (pl9 : ya_9 g) (h : ∀ (r : Int32) (g' : Nat → Fin 5) (f_found : Int32) (a_power : Nat → Int32), ya_pl g g' → post r (f_count, f_place, f_opens, f_top, f_fault, f_faultAt, f_dry, f_found, fi_m g', a_there, a_kind, a_num, a_open, a_openAt, a_power, a_table)) : wpY_factor post (f_count, f_place, f_opens, f_top, f_fault, f_faultAt, f_dry, f_found, fi_m g, a_there, a_kind, a_num, a_open, a_openAt, a_power, a_table) x y z w := by
  unfold wpY_factor
  by_cases c0 : z < 0
  · exact yc_factors pl9 (br_t c0 (h _ _ _ _ (ya_pl_r g))) (fun a p m g' pw _ _ _ _ hm fr _ _ => br_t c0 (h _ _ _ _ (ya_pl_fr fr)))
  · obtain ⟨i, hi, rfl⟩ := nI_of c0
    refine yc_factors pl9 (br_f c0 (br_t ?_ (h _ _ _ _ (ya_pl_r g)))) (fun a p m g' pw _ _ _ _ hm fr _ _ => br_f c0 ?_)
    · exact Int32.le_of_lt (fi_nm1 hi)
    · by_cases c : i < m
      · refine br_f (nI_ge c (by omega)) ?_
        by_cases d0 : w < 0
        · exact br_t d0 (h _ _ _ _ (ya_pl_fr fr))
        · by_cases d8 : w ≤ 8
          · obtain ⟨k, hk, rfl⟩ := nI_of d0
            have hk8 : k ≤ 8 := (nI_leI (b := 8) hk (by decide)).mp d8
            exact br_f d0 (br_t d8 ⟨pk_in (20 * (72 + i) + k) 1800 (by omega) (by rw [fi_72, fi_ix]), h _ _ _ _ (ya_pl_fr fr)⟩)
          · exact br_f d0 (br_f d8 (h _ _ _ _ (ya_pl_fr fr)))
      · exact br_t (nI_le (by omega) hi) (h _ _ _ _ (ya_pl_fr fr))
end
