/-! The reference's carryDown, over the run of steps -/
def yb_I (vs : Nat → Option (PF × PF)) (cn : Nat → Int32) (ro : List (Nat × Nat)) (code place : Nat) (fa : Int32) (g : Nat → Fin 5) : Prop :=
  ∃ L : List (PF × PF), pr_run vs cn ro code place L ∧ code ≤ 4 ∧ (code = 0 → ys_rep g L) ∧ (code ≠ 0 → fa = nI place)
theorem sy_wf_p {p : Nat × Nat} {t ro : List (Nat × Nat)} (hp : ya_set p.1) (n3 : p.1 ≠ 3) (h : sy_wf ro (sy_bin (p :: t) + 1)) : sy_wf (p :: ro) (sy_bin t + 1) := by
  refine ⟨sy_bin (p :: t) + 1, h, ?_⟩
  by_cases c12 : p.1 = 12
  · right; left
    have eb : sy_bin (p :: t) = sy_bin t := by
      show sy_bin t + (if p.1 = 3 then 0 else if p.1 = 12 then 0 else 1) = _
      rw [if_neg n3, if_pos c12]; rfl
    exact ⟨Or.inr (Or.inr c12), by omega, by omega⟩
  · right; right
    have eb : sy_bin (p :: t) = sy_bin t + 1 := by
      show sy_bin t + (if p.1 = 3 then 0 else if p.1 = 12 then 0 else 1) = _
      rw [if_neg n3, if_neg c12]
    refine ⟨?_, by omega, by omega⟩
    rcases hp with z | z | z | z | z | z | z <;> omega
section
variable {f_count f_place f_opens f_top f_fault f_faultAt f_dry f_found : Int32} {a_c a_there a_kind a_num a_open a_openAt a_power a_table : Nat → Int32}
theorem yb_carryF {post : SY → Prop} {g : Nat → Fin 5} (o k t : Nat) (ho : o < 30) (hk : a_open o = nI k) (kk : k < 20) (hf : ¬ f_fault = 0) (h : ∀ tp : Nat, (k = 12 → tp = t + 1) → (k ≠ 12 → tp = t) → post (f_count, f_place, nI o, nI tp, f_fault, f_faultAt, 0, f_found, fi_m g, a_there, a_kind, a_num, a_open, a_openAt, a_power, a_table)) : wpY_carry post (f_count, f_place, nI (o + 1), nI (t + 1), f_fault, f_faultAt, 0, f_found, fi_m g, a_there, a_kind, a_num, a_open, a_openAt, a_power, a_table) := by
  unfold wpY_carry
  dsimp only
  refine nm_r (fi_t1 o) ⟨vp_in_nI ho (by omega), ?_⟩
  rw [nI_clamp (by omega)]
  refine nm_r hk ⟨vp_in_nI ho (by omega), nm_e (nm_e (nm_e ?_))⟩
  by_cases c : k = 12
  · refine br_t (by rw [c]; rfl) ?_
    unfold wY_carry_61
    exact br_t rfl (br_f hf (h (t + 1) (fun _ => rfl) (fun z => absurd c z)))
  · refine br_f (fun z => c ((nI_eq (b := 12) (by omega) (by omega)).mp z)) (nm_r (fi_t1 t) ?_)
    unfold wY_carry_61
    exact br_t rfl (br_f hf (h t (fun z => absurd z c) (fun _ => rfl)))
theorem yb_pop1 {post : SY → Prop} {g : Nat → Fin 5} {vs : Nat → Option (PF × PF)} {cn : Nat → Int32} {p : Nat × Nat} {t ro : List (Nat × Nat)} {code place : Nat} (hp : ya_set p.1) (hp3 : p.1 ≠ 3) (hrep : sy_rep a_open a_openAt (p :: t)) (hlen : (p :: t).length ≤ 24) (hwf : sy_wf ro (sy_bin (p :: t) + 1)) (hI : yb_I vs cn ro code place f_faultAt g)
    (h : ∀ (code' place' : Nat) (g' : Nat → Fin 5) (m : Int32) (pw : Nat → Int32) (fa : Int32), yb_I vs cn (p :: ro) code' place' fa g' → ya_pl g g' → post (f_count, f_place, nI t.length, nI (sy_bin t + 1), nI code', fa, 0, m, fi_m g', a_there, a_kind, a_num, a_open, a_openAt, pw, a_table)) :
    wpY_carry post (f_count, f_place, nI (t.length + 1), nI (sy_bin (p :: t) + 1), nI code, f_faultAt, 0, f_found, fi_m g, a_there, a_kind, a_num, a_open, a_openAt, a_power, a_table) := by
  have hl : t.length + 1 ≤ 24 := hlen
  have hbin : sy_bin t ≤ t.length := by
    have : ∀ l : List (Nat × Nat), sy_bin l ≤ l.length := by
      intro l
      induction l with
      | nil => exact Nat.le_refl _
      | cons q s ih =>
        show sy_bin s + (if q.1 = 3 then 0 else if q.1 = 12 then 0 else 1) ≤ s.length + 1
        by_cases c : q.1 = 3
        · rw [if_pos c]; omega
        · rw [if_neg c]
          by_cases c2 : q.1 = 12
          · rw [if_pos c2]; omega
          · rw [if_neg c2]; omega
    exact this t
  obtain ⟨L, hrun, hc4, hr, hfa⟩ := hI
  have hp20 : p.1 < 20 := by rcases hp with z | z | z | z | z | z | z <;> omega
  by_cases c0 : code = 0
  · subst c0
    have hll := pr_run_l _ _ _ _ hrun hwf
    by_cases c12 : p.1 = 12
    · have eb : sy_bin (p :: t) = sy_bin t := by
        show sy_bin t + (if p.1 = 3 then 0 else if p.1 = 12 then 0 else 1) = _
        rw [if_neg hp3, if_pos c12]; rfl
      rw [eb] at hll ⊢
      obtain ⟨a, T, eL⟩ : ∃ a T, L = a :: T := by
        cases L with
        | nil => exact absurd hll (by show ¬ 0 = sy_bin t + 1; omega)
        | cons a T => exact ⟨a, T, rfl⟩
      subst eL
      have eT : T.length = sy_bin t := Nat.succ.inj hll
      rw [← eT]
      refine yb_carry1 (vs := vs) (cx := cn p.2) t.length (by omega) (by rw [hrep.1, c12]) (by omega) (hr rfl) (fun L' g' hst hr' hpl => ?_)
      rw [eT]
      refine h 0 p.2 g' _ _ f_faultAt ⟨L', pr_run_s hrun p (by rw [c12]; exact hst), by omega, fun _ => hr', fun z => absurd rfl z⟩ hpl
    · have eb : sy_bin (p :: t) = sy_bin t + 1 := by
        show sy_bin t + (if p.1 = 3 then 0 else if p.1 = 12 then 0 else 1) = _
        rw [if_neg hp3, if_neg c12]
      rw [eb] at hll ⊢
      obtain ⟨a, b, T, eL⟩ : ∃ a b T, L = b :: a :: T := by
        cases L with
        | nil => exact absurd hll (by show ¬ 0 = sy_bin t + 1 + 1; omega)
        | cons b M =>
          cases M with
          | nil => exact absurd hll (by show ¬ 0 + 1 = sy_bin t + 1 + 1; omega)
          | cons a T => exact ⟨a, b, T, rfl⟩
      subst eL
      have eT : T.length = sy_bin t := by
        have : T.length + 1 + 1 = sy_bin t + 1 + 1 := hll
        omega
      have kk : p.1 = 5 ∨ p.1 = 6 ∨ p.1 = 7 ∨ p.1 = 8 ∨ p.1 = 11 := by rcases hp with z | z | z | z | z | z | z <;> omega
      rw [← eT]
      refine yb_carry2 (vs := vs) (cx := cn p.2) t.length p.1 (by omega) hrep.1 kk (by omega) (hr rfl) (fun code' L' g' m pw fa hc' hst hr' hfa' hpl => ?_)
      rw [eT]
      refine h code' p.2 g' m pw fa ⟨L', pr_run_s hrun p hst, hc', hr', fun z => ?_⟩ hpl
      rw [hfa' z]; exact hrep.2.1
  · have hf : ¬ nI code = 0 := nI_ne0 (by omega) (by omega)
    have nx : ∀ tp : Nat, tp = sy_bin t + 1 → post (f_count, f_place, nI t.length, nI tp, nI code, f_faultAt, 0, f_found, fi_m g, a_there, a_kind, a_num, a_open, a_openAt, a_power, a_table) := by
      intro tp e
      subst e
      exact h code place g _ _ f_faultAt ⟨L, pr_run_f hrun c0 p L, hc4, fun z => absurd z c0, hfa⟩ (ya_pl_r g)
    by_cases c12 : p.1 = 12
    · have eb : sy_bin (p :: t) = sy_bin t := by
        show sy_bin t + (if p.1 = 3 then 0 else if p.1 = 12 then 0 else 1) = _
        rw [if_neg hp3, if_pos c12]; rfl
      rw [eb]
      exact yb_carryF t.length p.1 (sy_bin t) (by omega) hrep.1 hp20 hf (fun tp a _ => nx tp (a c12))
    · have eb : sy_bin (p :: t) = sy_bin t + 1 := by
        show sy_bin t + (if p.1 = 3 then 0 else if p.1 = 12 then 0 else 1) = _
        rw [if_neg hp3, if_neg c12]
      rw [eb]
      exact yb_carryF t.length p.1 (sy_bin t + 1) (by omega) hrep.1 hp20 hf (fun tp _ b => nx tp (b c12))
theorem yb_down {post : SY → Prop} {vs : Nat → Option (PF × PF)} {cn : Nat → Int32} {g0 : Nat → Fin 5} (l : Nat) (hl : 1 ≤ l) (hl2 : l < 10) :
    ∀ (ops ro : List (Nat × Nat)) (code place : Nat) (g : Nat → Fin 5) (m : Int32) (pw : Nat → Int32) (fa : Int32), sy_set ops → sy_11 ops → sy_rep a_open a_openAt ops → ops.length ≤ 24 → sy_wf ro (sy_bin ops + 1) → yb_I vs cn ro code place fa g → ya_pl g0 g →
      (∀ (code' place' : Nat) (g' : Nat → Fin 5) (m : Int32) (pw : Nat → Int32) (fa : Int32), sy_rep a_open a_openAt (sy_pop l ops ro).1 → yb_I vs cn (sy_pop l ops ro).2 code' place' fa g' → ya_pl g0 g' → post (f_count, f_place, nI (sy_pop l ops ro).1.length, nI (sy_bin (sy_pop l ops ro).1 + 1), nI code', fa, 0, m, fi_m g', a_there, a_kind, a_num, a_open, a_openAt, pw, a_table)) →
      wY_carryDown_0 post (nI l) (ops.length + 1) f_count f_place (nI ops.length) (nI (sy_bin ops + 1)) (nI code) (fa) (0) (m) (fi_m g) a_there a_kind a_num a_open a_openAt (pw) a_table := by
  intro ops
  induction ops with
  | nil =>
    intro ro code place g m pw fa _ _ hrep _ _ hI pl h
    exact br_t (by decide) (h code place g m pw fa hrep hI pl)
  | cons p t ih =>
    intro ro code place g m pw fa hs h11 hrep hlen hwf hI pl h
    have hlen' : t.length + 1 ≤ 24 := hlen
    have hp := hs p List.mem_cons_self
    refine br_f (nI_nle (by show 0 < t.length + 1; omega) (by omega)) ⟨by show vp_in (nI (t.length + 1) - 1) 30; rw [fi_t1]; exact vp_in_nI (by omega) (by omega), ?_⟩
    show wpY_rank _ _ (a_open (nI (t.length + 1) - 1).toNatClampNeg)
    rw [fi_t1, nI_clamp (by omega)]
    refine yc_rank p.1 hp ?_ hrep.1
    have hrk : ya_rk p.1 < 10 := by rcases hp with e | e | e | e | e | e | e <;> rw [e] <;> decide
    by_cases c : ya_rk p.1 < l
    · have e : sy_pop l (p :: t) ro = (p :: t, ro) := if_pos c
      rw [e] at h
      exact br_t (nI_lt c (by omega)) (h code place g m pw fa hrep hI pl)
    · have e : sy_pop l (p :: t) ro = sy_pop l t (p :: ro) := if_neg c
      rw [e] at h
      have n3 : p.1 ≠ 3 := by
        intro z
        rw [z] at c
        exact c (Nat.lt_of_lt_of_le (by decide) hl)
      refine br_f (nI_nlt (by omega) (by omega)) ?_
      refine yb_pop1 (vs := vs) (cn := cn) (ro := ro) hp n3 hrep hlen hwf hI (fun code' place' g' m' pw' fa' hI' pl' => ?_)
      exact ih (p :: ro) code' place' g' m' pw' fa' (fun q hq => hs q (List.mem_cons_of_mem _ hq)) h11.2 hrep.2.2 (by omega) (sy_wf_p hp n3 hwf) hI' (ya_pl_t pl pl') h
end
