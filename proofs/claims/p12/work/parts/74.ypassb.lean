/-! The reference's second pass, over the run of steps -/
section
variable {f_count f_place f_opens f_top f_fault f_faultAt f_dry f_found : Int32} {a_c a_there a_kind a_num a_open a_openAt a_power a_table : Nat → Int32}
/-- one @ on top, behind an operand -/
theorem yb_one {post : SY → Prop} {g g0 : Nat → Fin 5} {vs : Nat → Option (PF × PF)} {cn : Nat → Int32} {ops ro : List (Nat × Nat)} {code place : Nat} (hs : sy_set ops) (hrep : sy_rep a_open a_openAt ops) (hlen : ops.length ≤ 24) (hwf : sy_wf ro (sy_bin ops + 1)) (hI : yb_I vs cn ro code place f_faultAt g) (pl : ya_pl g0 g)
    (h : ∀ (code' place' : Nat) (g' : Nat → Fin 5) (m : Int32) (pw : Nat → Int32) (fa : Int32), sy_rep a_open a_openAt (sy_one ops ro).1 → yb_I vs cn (sy_one ops ro).2 code' place' fa g' → ya_pl g0 g' → post (f_count, f_place, nI (sy_one ops ro).1.length, nI (sy_bin (sy_one ops ro).1 + 1), nI code', fa, 0, m, fi_m g', a_there, a_kind, a_num, a_open, a_openAt, pw, a_table)) :
    (nI ops.length ≤ 0 → post (f_count, f_place, nI ops.length, nI (sy_bin ops + 1), nI code, f_faultAt, 0, f_found, fi_m g, a_there, a_kind, a_num, a_open, a_openAt, a_power, a_table)) ∧ (¬ nI ops.length ≤ 0 → (vp_in (nI ops.length - 1) 30 ∧ ((a_open (nI ops.length - 1).toNatClampNeg = 11 → wpY_carry post (f_count, f_place, nI ops.length, nI (sy_bin ops + 1), nI code, f_faultAt, 0, f_found, fi_m g, a_there, a_kind, a_num, a_open, a_openAt, a_power, a_table)) ∧ (¬ a_open (nI ops.length - 1).toNatClampNeg = 11 → post (f_count, f_place, nI ops.length, nI (sy_bin ops + 1), nI code, f_faultAt, 0, f_found, fi_m g, a_there, a_kind, a_num, a_open, a_openAt, a_power, a_table))))) := by
  cases ops with
  | nil => exact br_t (by decide) (h code place g _ _ _ hrep hI pl)
  | cons p t =>
    have hlen' : t.length + 1 ≤ 24 := hlen
    have hp := hs p List.mem_cons_self
    have e1 : nI (p :: t).length - 1 = nI t.length := nI_pred t.length
    refine br_f (nI_nle (by show 0 < t.length + 1; omega) (by show t.length + 1 < _; omega)) ⟨by rw [e1]; exact vp_in_nI (by omega) (by omega), ?_⟩
    rw [e1, nI_clamp (by omega), hrep.1]
    by_cases c : p.1 = 11
    · refine br_t (by rw [c]; rfl) ?_
      have e : sy_one (p :: t) ro = (t, p :: ro) := if_pos c
      rw [e] at h
      exact yb_pop1 (vs := vs) (cn := cn) (ro := ro) hp (by omega) hrep hlen hwf hI (fun code' place' g' m pw fa hI' pl' => h code' place' g' m pw fa hrep.2.2 hI' (ya_pl_t pl pl'))
    · refine br_f (fun z => c ((nI_eq (b := 11) (by rcases hp with y | y | y | y | y | y | y <;> omega) (by omega)).mp z)) ?_
      have e : sy_one (p :: t) ro = (p :: t, ro) := if_neg c
      rw [e] at h
      exact h code place g _ _ _ hrep hI pl
end
