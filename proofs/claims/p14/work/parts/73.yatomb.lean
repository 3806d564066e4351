/-! The reference's atom, over the run of steps -/
def ys_vs (g : Nat → Fin 5) (th : Nat → Int32) (vs : Nat → Option (PF × PF)) : Prop := ∀ n, n < 6 → (vs n = none ∧ th n = 0) ∨ ∃ w, vs n = some w ∧ th n ≠ 0 ∧ fi_s g (52 + 2 * n) = w.1 ∧ fi_s g (53 + 2 * n) = w.2 ∧ pr_ok w
theorem ys_vs_o {g g' : Nat → Fin 5} {th : Nat → Int32} {vs : Nat → Option (PF × PF)} (h : ys_vs g th vs) (e : ya_pl g g') : ys_vs g' th vs := by
  intro n hn
  rcases h n hn with a | ⟨w, a, b, c, d, f⟩
  · exact Or.inl a
  · exact Or.inr ⟨w, a, b, by rw [e _ (by omega) (by omega)]; exact c, by rw [e _ (by omega) (by omega)]; exact d, f⟩
theorem pr_ok_c (c : Fin 5) : pr_ok (pf_c c, pf_c 1) := ⟨pf_ln_mono (pf_c_ln c) (by omega), pf_ln_mono (pf_c_ln 1) (by omega), ⟨0, pf_hd_c (by decide), rfl⟩, pf_cp_1 _⟩
theorem pr_ok_x : pr_ok (pf_mn 1 1, pf_c 1) := ⟨pf_ln_mono (pf_mn_ln 1 1) (by omega), pf_ln_mono (pf_c_ln 1) (by omega), ⟨0, pf_hd_c (by decide), rfl⟩, pf_cp_1 _⟩
section
variable {f_count f_place f_opens f_top f_fault f_faultAt f_dry f_found : Int32} {a_c a_there a_kind a_num a_open a_openAt a_power a_table : Nat → Int32}
theorem yb_atom {post : SY → Prop} {g : Nat → Fin 5} {vs : Nat → Option (PF × PF)} {cn : Nat → Int32} {ro : List (Nat × Nat)} {code place : Nat} {xk xn xat : Int32} (k i t : Nat) (hk : k ≤ 2) (ht : t ≤ 24) (hn : k = 2 → ∃ n, n < 6 ∧ xn = nI n) (hcn : cn i = xn) (hvs : ys_vs g a_there vs) (hwf : sy_wf ro t) (hI : yb_I vs cn ro code place f_faultAt g)
    (h : ∀ (code' place' : Nat) (g' : Nat → Fin 5) (fa : Int32), yb_I vs cn ((k, i) :: ro) code' place' fa g' → ya_pl g g' → post (f_count, f_place, f_opens, nI (t + 1), nI code', fa, 0, f_found, fi_m g', a_there, a_kind, a_num, a_open, a_openAt, a_power, a_table)) (ek : xk = nI k := by rfl) (ea : xat = nI i := by rfl) :
    wpY_atom post (f_count, f_place, f_opens, nI t, nI code, f_faultAt, 0, f_found, fi_m g, a_there, a_kind, a_num, a_open, a_openAt, a_power, a_table) xk xn xat := by
  subst ek ea
  obtain ⟨L, hrun, hc4, hr, hfa⟩ := hI
  unfold wpY_atom
  dsimp only
  refine nm_r (nI_1 t) (br_t rfl ?_)
  by_cases c0 : code = 0
  · subst c0
    have hll := pr_run_l _ _ _ _ hrun hwf
    subst hll
    refine br_t rfl ?_
    have e2 : (2 : Int32) * (nI (L.length + 1) - 1) = nI (2 * L.length) := by rw [fi_t1, fi_2]
    have e3 : nI (2 * L.length) + 1 = nI (2 * L.length + 1) := nI_1 (2 * L.length)
    refine nm_r e2 ?_
    have lc : ∀ c : Fin 5, pf_ln (pf_c c) 20 := fun c => pf_ln_mono (pf_c_ln c) (by omega)
    have z1 : fi_z 1 = 1 := by decide
    -- a value R in the slots: the step is done
    have good : ∀ (R : PF × PF) (g2 : Nat → Fin 5), pr_ok R → pr_at vs k xn L 0 (R :: L) → (∀ s, s ≠ 2 * L.length → s ≠ 2 * L.length + 1 → fi_s g2 s = fi_s g s) → fi_s g2 (2 * L.length) = R.1 → fi_s g2 (2 * L.length + 1) = R.2 → post (f_count, f_place, f_opens, nI (L.length + 1), 0, f_faultAt, 0, f_found, fi_m g2, a_there, a_kind, a_num, a_open, a_openAt, a_power, a_table) := by
      intro R g2 oR hat fr r0 r1
      refine h 0 i g2 f_faultAt ⟨R :: L, pr_run_s hrun (k, i) (Or.inl (by show pr_at vs k (cn i) L 0 (R :: L); rw [hcn]; exact hat)), by omega, fun _ => ⟨⟨r0, r1⟩, oR, ?_⟩, fun z => absurd rfl z⟩ (fun s h1 h2 => fr s (by omega) (by omega))
      exact ys_rep_o L L.length (Nat.le_refl _) (fun s hs => fr s (by omega) (by omega)) (hr rfl)
    have go : ∀ z0 : Int32, (k = 0 → z0 = xn) → (k ≠ 0 → z0 = 0) → wY_atom_47 post (nI k) xn (nI i) (nI (2 * L.length)) z0 (nI (2 * L.length)) f_count f_place f_opens (nI (L.length + 1)) (0) f_faultAt (0) f_found (fi_m g) a_there a_kind a_num a_open a_openAt a_power a_table := by
      intro z0 hz hz'
      unfold wY_atom_47
      refine yc_become (2 * L.length) (by omega) ?_
      refine yc_become (2 * L.length + 1) (by omega) ?_ e3
      rw [z1]
      by_cases c1 : k = 1
      · have z00 : z0 = 0 := hz' (by omega)
        subst z00
        have z0' : fi_z 0 = 0 := by decide
        have ex : (20 : Int32) * nI (2 * L.length) + 1 = nI (20 * (2 * L.length) + 1) := by rw [fi_ix0, nI_1]
        refine br_t (by rw [c1]; rfl) ⟨pk_in (20 * (2 * L.length) + 1) 1800 (by omega) ex, nm_r (e' := fi_m (fi_p (fi_p g (2 * L.length + 1) (pf_c 1)) (2 * L.length) (pf_mn 1 1))) ?_ ?_⟩
        · rw [ex, nI_clamp (by omega), fi_pcm (by omega)]
          refine fi_pu (x := 1) (by omega) (fun k _ => ?_)
          rw [z0', pf_c0]; rfl
        · unfold wY_atom_77
          refine br_f (fun e => absurd ((nI_eq (b := 2) (by omega) (by omega)).mp e) (by omega)) ?_
          refine good (pf_mn 1 1, pf_c 1) _ pr_ok_x (Or.inr (Or.inl ⟨c1, pr_lim_self pr_ok_x⟩)) (fun s h1 h2 => ?_) ?_ ?_
          · rw [fi_sq h1, fi_sq h2]
          · exact fi_sp (pf_ln_mono (pf_mn_ln 1 1) (by omega))
          · rw [fi_sq (by omega)]; exact fi_sp (lc 1)
      · refine br_f (fun e => c1 ((nI_eq (b := 1) (by omega) (by omega)).mp e)) ?_
        unfold wY_atom_77
        by_cases c2 : k = 2
        · obtain ⟨n, hn6, en⟩ := hn c2
          subst en
          have e52 : (52 : Int32) + 2 * nI n = nI (52 + 2 * n) := by rw [fi_2]; exact nI_add 52 (2 * n)
          have e53 : (53 : Int32) + 2 * nI n = nI (53 + 2 * n) := by rw [fi_2]; exact nI_add 53 (2 * n)
          refine br_t (by rw [c2]; rfl) ⟨vp_in_nI (by omega) (by omega), ?_⟩
          rw [nI_clamp (by omega)]
          rcases hvs n hn6 with ⟨a, b⟩ | ⟨w, a, b, c, d, f⟩
          · refine br_t b (br_t rfl ?_)
            unfold wY_atom_98
            refine yc_copy (52 + 2 * n) (2 * L.length) (by omega) (by omega) ?_ e52
            refine yc_copy (53 + 2 * n) (2 * L.length + 1) (by omega) (by omega) ?_ e53 e3
            refine h 2 i _ (nI i) ⟨[], pr_run_s hrun (k, i) (Or.inl (Or.inr (Or.inr ⟨c2, n, hn6, hcn, Or.inl ⟨a, rfl⟩⟩))), by omega, fun z => absurd z (by decide), fun _ => rfl⟩ (fun s h1 h2 => ?_)
            rw [fi_sq (by omega), fi_sq (by omega), fi_sq (by omega), fi_sq (by omega)]
          · refine br_f b ?_
            unfold wY_atom_98
            refine yc_copy (52 + 2 * n) (2 * L.length) (by omega) (by omega) ?_ e52
            refine yc_copy (53 + 2 * n) (2 * L.length + 1) (by omega) (by omega) ?_ e53 e3
            refine good w _ f (Or.inr (Or.inr ⟨c2, n, hn6, rfl, Or.inr ⟨w, a, pr_lim_self f⟩⟩)) (fun s h1 h2 => ?_) ?_ ?_
            · rw [fi_sq h2, fi_sq h1, fi_sq h2, fi_sq h1]
            · rw [fi_sq (by omega), fi_sp (fi_s_ln _ _), fi_sq (by omega), fi_sq (by omega)]; exact c
            · rw [fi_sp (fi_s_ln _ _), fi_sq (by omega), fi_sq (by omega), fi_sq (by omega)]; exact d
        · have c00 : k = 0 := by omega
          have zx := hz c00
          subst zx
          refine br_f (fun e => c2 ((nI_eq (b := 2) (by omega) (by omega)).mp e)) ?_
          refine good (pf_c (fi_z z0), pf_c 1) _ (pr_ok_c _) (Or.inl ⟨c00, pr_lim_self (pr_ok_c _)⟩) (fun s h1 h2 => ?_) ?_ ?_
          · rw [fi_sq h2, fi_sq h1]
          · rw [fi_sq (by omega)]; exact fi_sp (lc _)
          · exact fi_sp (lc 1)
    by_cases c00 : k = 0
    · exact br_t (by rw [c00]; rfl) (go xn (fun _ => rfl) (fun z => absurd c00 z))
    · exact br_f (nI_ne0 (by omega) (by omega)) (go 0 (fun z => absurd z c00) (fun _ => rfl))
  · exact br_f (nI_ne0 (by omega) (by omega)) (h code place g f_faultAt ⟨L, pr_run_f hrun c0 (k, i) L, hc4, fun z => absurd z c0, hfa⟩ (ya_pl_r g))
end
