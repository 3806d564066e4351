/-! The reference's carry and carryDown -/
def ya_set (k : Nat) : Prop := k = 3 ∨ k = 5 ∨ k = 6 ∨ k = 7 ∨ k = 8 ∨ k = 11 ∨ k = 12
def ya_rk (k : Nat) : Nat := if k = 11 then 4 else if k = 7 then 3 else if k = 8 then 3 else if k = 12 then 2 else if k = 5 then 1 else if k = 6 then 1 else 0
def ya_bin (os : Nat → Nat) : Nat → Nat
  | 0 => 0
  | o + 1 => ya_bin os o + (if os o = 3 then 0 else if os o = 12 then 0 else 1)
def ya_dep (os : Nat → Nat) : Nat → Nat
  | 0 => 0
  | o + 1 => ya_dep os o + (if os o = 3 then 1 else 0)
def ya_os (a : Nat → Int32) (o : Nat) (os : Nat → Nat) : Prop := ∀ j, j < o → a j = nI (os j) ∧ ya_set (os j)
/-- the stack's slots are small, where they are worked on and there is no fault -/
def ya_in (dry ft : Int32) (t : Nat) (g : Nat → Fin 5) : Prop := (dry = 0 → ft = 0 → ∀ s, s < 2 * t → pf_ln (fi_s g s) 9) ∧ (¬ dry = 0 → ft = 0)
def ya_pl (g g' : Nat → Fin 5) : Prop := ∀ s, 52 ≤ s → s < 66 → fi_s g' s = fi_s g s
theorem ya_pl_r (g : Nat → Fin 5) : ya_pl g g := fun _ _ _ => rfl
theorem ya_pl_t {g g1 g2 : Nat → Fin 5} (h1 : ya_pl g g1) (h2 : ya_pl g1 g2) : ya_pl g g2 := fun s a b => by rw [h2 s a b, h1 s a b]
theorem fi_t1 (t : Nat) : nI (t + 1) - 1 = nI t := nI_pred t
theorem fi_t2 (t : Nat) : nI (t + 2) - 2 = nI t := by
  show nI (t + 2) - nI 2 = nI t
  rw [pk_sub (by omega)]; rfl
section
variable {f_count f_place f_opens f_top f_fault f_faultAt f_dry f_found : Int32} {a_c a_there a_kind a_num a_open a_openAt a_power a_table : Nat → Int32}
theorem yc_191 {post : SY → Prop} {g : Nat → Fin 5} {x1 xat : Int32} (v : Nat) (hv : 2 * v + 1 < 90) (hx : ¬ x1 = 12)
    (h : ∀ ft fa : Int32, (ft = 0 → ya_sm v g) → post (f_count, f_place, f_opens, f_top, ft, fa, f_dry, f_found, fi_m g, a_there, a_kind, a_num, a_open, a_openAt, a_power, a_table)) : wY_carry_191 post x1 xat (nI v) f_count f_place f_opens f_top f_fault f_faultAt f_dry f_found (fi_m g) a_there a_kind a_num a_open a_openAt a_power a_table := by
  refine br_f hx ?_
  by_cases c : f_fault = 0
  · subst c
    exact br_t rfl (yc_large v hv (fun a b => h 0 f_faultAt (fun _ => ⟨a, b⟩)) (fun _ => h 4 xat (fun e => absurd e (by decide))))
  · exact br_f c (h f_fault f_faultAt (fun e => absurd e c))
theorem yc_carry {post : SY → Prop} {g : Nat → Fin 5} (o k t : Nat) (ho : o < 30) (hk : a_open o = nI k) (kk : k = 5 ∨ k = 6 ∨ k = 7 ∨ k = 8 ∨ k = 11) (ht : t + 2 ≤ 25) (inv : ya_in f_dry f_fault (t + 2) g)
    (h : ∀ (g' : Nat → Fin 5) (m : Int32) (pw : Nat → Int32) (ft fa : Int32), ya_pl g g' → ya_in f_dry ft (t + 1) g' → post (f_count, f_place, nI o, nI (t + 1), ft, fa, f_dry, m, fi_m g', a_there, a_kind, a_num, a_open, a_openAt, pw, a_table)) :
    wpY_carry post (f_count, f_place, nI (o + 1), nI (t + 2), f_fault, f_faultAt, f_dry, f_found, fi_m g, a_there, a_kind, a_num, a_open, a_openAt, a_power, a_table) := by
  unfold wpY_carry
  dsimp only
  refine nm_r (fi_t1 o) ⟨vp_in_nI ho (by omega), ?_⟩
  rw [nI_clamp (by omega)]
  refine nm_r hk ⟨vp_in_nI ho (by omega), nm_e (nm_r (fi_t2 t) (nm_r (fi_t1 (t + 1)) ?_))⟩
  have k12 : ¬ nI k = 12 := by rcases kk with rfl | rfl | rfl | rfl | rfl <;> decide
  refine br_f k12 (nm_r (fi_t1 (t + 1)) ?_)
  unfold wY_carry_61
  by_cases cd : f_dry = 0
  · refine br_t cd ?_
    by_cases cf : f_fault = 0
    · refine br_t cf (br_f k12 ?_)
      have inv2 := inv.1 cd cf
      have sv : ya_sm t g := ⟨inv2 _ (by omega), inv2 _ (by omega)⟩
      have sw : ya_sm (t + 1) g := ⟨inv2 _ (by omega), inv2 _ (by omega)⟩
      -- what every operator does behind its own work
      have last : ∀ (g' : Nat → Fin 5) (m : Int32) (pw : Nat → Int32) (ft fa : Int32), (∀ s, s ≠ 2 * t → s ≠ 2 * t + 1 → s ≠ 2 * (t + 1) → s ≠ 2 * (t + 1) + 1 → s < 66 → fi_s g' s = fi_s g s) →
          wY_carry_191 post (nI k) (a_openAt o) (nI t) f_count f_place (nI o) (nI (t + 1)) (ft) (fa) f_dry (m) (fi_m g') a_there a_kind a_num a_open a_openAt (pw) a_table := by
        intro g' m pw ft fa fr
        refine yc_191 t (by omega) k12 (fun ft' fa' hs => h g' m pw ft' fa' (fun s a b => fr s (by omega) (by omega) (by omega) (by omega) b) ⟨?_, fun z => absurd cd z⟩)
        intro _ e s hs'
        by_cases c1 : s = 2 * t
        · rw [c1]; exact (hs e).1
        · by_cases c2 : s = 2 * t + 1
          · rw [c2]; exact (hs e).2
          · rw [fr s c1 c2 (by omega) (by omega) (by omega)]; exact inv2 s (by omega)
      subst cf
      rcases kk with rfl | rfl | rfl | rfl | rfl
      · refine br_t rfl ?_
        exact yc_sum t (t + 1) 1 (by omega) (by omega) (by omega) (fun a b => by rw [fi_m1]; grind) sv.1 sv.2 sw.1 sw.2 (fun g' m pw fr _ => last g' _ pw _ _ (fun s h1 h2 _ _ h5 => fr s h1 h2 (by omega)))
      · refine br_f (by decide) (br_t rfl ?_)
        exact yc_sum t (t + 1) (-1) (by omega) (by omega) (by omega) (fun a b => by rw [fi_mn]; grind) sv.1 sv.2 sw.1 sw.2 (fun g' m pw fr _ => last g' _ pw _ _ (fun s h1 h2 _ _ h5 => fr s h1 h2 (by omega)))
      · refine br_f (by decide) (br_f (by decide) (br_t rfl ?_))
        exact yc_times t (t + 1) (by omega) (by omega) (by omega) sv.1 sv.2 sw.1 sw.2 (fun g' m pw fr _ => last g' _ pw _ _ (fun s h1 h2 _ _ h5 => fr s h1 h2 (by omega)))
      · refine br_f (by decide) (br_f (by decide) (br_f (by decide) (br_f (by decide) ?_)))
        refine yc_isZero (t + 1) (by omega) (fun nz => ?_) (fun z => ?_)
        · refine br_t rfl ?_
          refine yc_flip (t + 1) (by omega) (fun g1 fr1 hf => ?_)
          have s1 : ya_sm (t + 1) g1 := by
            rcases hf with ⟨_, e0, e1⟩ | ⟨_, c, _, e0, e1⟩
            · unfold ya_sm
              rw [e0, e1]
              exact ⟨pf_ln_mono (pf_c_ln 0) (by omega), pf_ln_mono (pf_c_ln 1) (by omega)⟩
            · unfold ya_sm
              rw [e0, e1]
              exact ⟨pf_c_ml _ sw.2, pf_c_ml _ sw.1⟩
          refine yc_times t (t + 1) (by omega) (by omega) (by omega) (by rw [fr1 _ (by omega) (by omega) (by omega)]; exact sv.1) (by rw [fr1 _ (by omega) (by omega) (by omega)]; exact sv.2) s1.1 s1.2 (fun g' m pw fr _ => last g' _ pw _ _ (fun s h1 h2 h3 h4 h5 => ?_))
          rw [fr s h1 h2 (by omega)]; exact fr1 s h3 h4 (by omega)
        · refine br_f (by decide) (br_t rfl ?_)
          exact last g _ _ _ _ (fun _ _ _ _ _ _ => rfl)
      · refine br_f (by decide) (br_f (by decide) (br_f (by decide) (br_t rfl ?_)))
        exact yc_inPlace t (t + 1) (by omega) (by omega) (by omega) sv sw (last g _ _ _ _ (fun _ _ _ _ _ _ => rfl)) (last g _ _ _ _ (fun _ _ _ _ _ _ => rfl)) (fun g' m pw fr => last g' _ pw _ _ (fun s h1 h2 _ _ h5 => fr s h1 h2 h5))
    · exact br_f cf (h g f_found a_power f_fault f_faultAt (ya_pl_r g) ⟨fun _ e => absurd e cf, fun z => absurd cd z⟩)
  · exact br_f cd (h g f_found a_power f_fault f_faultAt (ya_pl_r g) ⟨fun e => absurd e cd, inv.2⟩)
theorem yc_carry12 {post : SY → Prop} {g : Nat → Fin 5} (o t : Nat) (ho : o < 30) (hk : a_open o = nI 12) (ht : t + 1 ≤ 25) (inv : ya_in f_dry f_fault (t + 1) g)
    (h : ∀ g' : Nat → Fin 5, ya_pl g g' → ya_in f_dry f_fault (t + 1) g' → post (f_count, f_place, nI o, nI (t + 1), f_fault, f_faultAt, f_dry, f_found, fi_m g', a_there, a_kind, a_num, a_open, a_openAt, a_power, a_table)) :
    wpY_carry post (f_count, f_place, nI (o + 1), nI (t + 1), f_fault, f_faultAt, f_dry, f_found, fi_m g, a_there, a_kind, a_num, a_open, a_openAt, a_power, a_table) := by
  unfold wpY_carry
  dsimp only
  refine nm_r (fi_t1 o) ⟨vp_in_nI ho (by omega), ?_⟩
  rw [nI_clamp (by omega)]
  refine nm_r hk ⟨vp_in_nI ho (by omega), nm_e (nm_e (nm_r (fi_t1 t) ?_))⟩
  refine br_t rfl ?_
  unfold wY_carry_61
  by_cases cd : f_dry = 0
  · refine br_t cd ?_
    by_cases cf : f_fault = 0
    · have inv2 := inv.1 cd cf
      refine br_t cf (br_t rfl ?_)
      refine yc_scale (2 * t) 4 (by omega) ?_ (fi_2 t) (by decide)
      refine br_t rfl (h _ (fun s a b => fi_sq (by omega)) ⟨?_, fun z => absurd cd z⟩)
      intro _ _ s hs
      by_cases c : s = 2 * t
      · subst c
        rw [pf_sc, fi_sp (pf_c_ml _ (fi_s_ln _ _))]
        exact pf_c_ml _ (inv2 _ hs)
      · rw [fi_sq c]; exact inv2 s hs
    · exact br_f cf (h g (ya_pl_r g) ⟨fun _ e => absurd e cf, fun z => absurd cd z⟩)
  · exact br_f cd (h g (ya_pl_r g) ⟨fun e => absurd e cd, inv.2⟩)
theorem yc_rank {post : Int32 → Prop} {x : Int32} (k : Nat) (hk : ya_set k) (h : post (nI (ya_rk k))) (e : x = nI k := by rfl) : wpY_rank post (f_count, f_place, f_opens, f_top, f_fault, f_faultAt, f_dry, f_found, a_c, a_there, a_kind, a_num, a_open, a_openAt, a_power, a_table) x := by
  subst e
  unfold wpY_rank
  dsimp only
  rcases hk with rfl | rfl | rfl | rfl | rfl | rfl | rfl
  · exact br_f (by decide) (br_f (by decide) (br_f (by decide) (br_f (by decide) (br_f (by decide) (br_f (by decide) h)))))
  · exact br_f (by decide) (br_f (by decide) (br_f (by decide) (br_f (by decide) (br_t (by decide) h))))
  · exact br_f (by decide) (br_f (by decide) (br_f (by decide) (br_f (by decide) (br_f (by decide) (br_t (by decide) h)))))
  · exact br_f (by decide) (br_t (by decide) h)
  · exact br_f (by decide) (br_f (by decide) (br_t (by decide) h))
  · exact br_t (by decide) h
  · exact br_f (by decide) (br_f (by decide) (br_f (by decide) (br_t (by decide) h)))
theorem yc_down {post : SY → Prop} {os : Nat → Nat} {x : Int32} (l : Nat) (hl : 1 ≤ l) (hl2 : l < 10) (ex : x = nI l) :
    ∀ (o : Nat) (g g0 : Nat → Fin 5) (m : Int32) (pw : Nat → Int32) (ft fa : Int32), o ≤ 24 → ya_os a_open o os → ya_bin os o ≤ 24 → ya_in f_dry ft (ya_bin os o + 1) g → ya_pl g0 g →
      (∀ (o' : Nat) (g' : Nat → Fin 5) (m : Int32) (pw : Nat → Int32) (ft fa : Int32), o' ≤ o → (o' = 0 ∨ ya_rk (os (o' - 1)) < l) → ya_dep os o' = ya_dep os o → ya_bin os o' ≤ ya_bin os o → ya_in f_dry ft (ya_bin os o' + 1) g' → ya_pl g0 g' →
        post (f_count, f_place, nI o', nI (ya_bin os o' + 1), ft, fa, f_dry, m, fi_m g', a_there, a_kind, a_num, a_open, a_openAt, pw, a_table)) →
      wY_carryDown_0 post x (o + 1) f_count f_place (nI o) (nI (ya_bin os o + 1)) (ft) (fa) f_dry (m) (fi_m g) a_there a_kind a_num a_open a_openAt (pw) a_table := by
  subst ex
  intro o
  induction o with
  | zero =>
    intro g g0 m pw ft fa _ _ _ inv pl h
    exact br_t (by decide) (h 0 g m pw ft fa (Nat.le_refl _) (Or.inl rfl) rfl (Nat.le_refl _) inv pl)
  | succ o ih =>
    intro g g0 m pw ft fa ho hos hb inv pl h
    obtain ⟨ho1, ho2⟩ := hos o (by omega)
    refine br_f (nI_nle (by omega) (by omega)) ⟨by rw [fi_t1]; exact vp_in_nI (by omega) (by omega), ?_⟩
    rw [fi_t1, nI_clamp (by omega)]
    refine yc_rank (os o) ho2 ?_ ho1
    have hrk : ya_rk (os o) < 10 := by rcases ho2 with e | e | e | e | e | e | e <;> rw [e] <;> decide
    by_cases c : ya_rk (os o) < l
    · exact br_t (nI_lt c (by omega)) (h (o + 1) g m pw ft fa (Nat.le_refl _) (Or.inr c) rfl (Nat.le_refl _) inv pl)
    · refine br_f (nI_nlt (by omega) (by omega)) ?_
      have n3 : os o ≠ 3 := by intro e; rw [e] at c; exact c (Nat.lt_of_lt_of_le (by decide) hl)
      have ed : ya_dep os (o + 1) = ya_dep os o := by
        show ya_dep os o + (if os o = 3 then 1 else 0) = _
        rw [if_neg n3]; rfl
      have hos' : ya_os a_open o os := fun j hj => hos j (by omega)
      by_cases c12 : os o = 12
      · have eb : ya_bin os (o + 1) = ya_bin os o := by
          show ya_bin os o + (if os o = 3 then 0 else if os o = 12 then 0 else 1) = _
          rw [if_neg n3, if_pos c12]; rfl
        rw [eb] at hb inv ⊢
        rw [c12] at ho1
        refine yc_carry12 o (ya_bin os o) (by omega) ho1 (by omega) inv (fun g' pl' inv' => ?_)
        exact ih g' g0 m pw ft fa (by omega) hos' hb inv' (ya_pl_t pl pl') (fun o' g2 m2 pw2 ft2 fa2 a1 a2 a3 a4 a5 a6 => h o' g2 m2 pw2 ft2 fa2 (by omega) a2 (by rw [ed]; exact a3) (by rw [eb]; exact a4) a5 a6)
      · have eb : ya_bin os (o + 1) = ya_bin os o + 1 := by
          show ya_bin os o + (if os o = 3 then 0 else if os o = 12 then 0 else 1) = _
          rw [if_neg n3, if_neg c12]
        rw [eb] at hb inv ⊢
        have kk : os o = 5 ∨ os o = 6 ∨ os o = 7 ∨ os o = 8 ∨ os o = 11 := by
          rcases ho2 with e | e | e | e | e | e | e
          · exact absurd e n3
          · exact Or.inl e
          · exact Or.inr (Or.inl e)
          · exact Or.inr (Or.inr (Or.inl e))
          · exact Or.inr (Or.inr (Or.inr (Or.inl e)))
          · exact Or.inr (Or.inr (Or.inr (Or.inr e)))
          · exact absurd e c12
        refine yc_carry o (os o) (ya_bin os o) (by omega) ho1 kk (by omega) inv (fun g' m' pw' ft' fa' pl' inv' => ?_)
        exact ih g' g0 m' pw' ft' fa' (by omega) hos' (by omega) inv' (ya_pl_t pl pl') (fun o' g2 m2 pw2 ft2 fa2 a1 a2 a3 a4 a5 a6 => h o' g2 m2 pw2 ft2 fa2 (by omega) a2 (by rw [ed]; exact a3) (by rw [eb]; omega) a5 a6)
end
