/-! The reference's split, to its end -/
/-- what split answers for the polynomial A: nothing for 0, else all its factors -/
def ys_ok (g' : Nat → Fin 5) (A : PF) (m : Nat) (pw : Nat → Int32) : Prop :=
  (A = pf_c 0 ∧ m = 0) ∨ ∃ (N : Nat) (r : PF) (D n : Nat → Nat), pf_hd A N ∧ ys_sp g' A r m pw D n ∧ pf_hd r 0
theorem pf_pow1 (f : PF) : pf_pow f 1 = f := pf_one_mul f
theorem pf_sc (f : PF) (c : Fin 5) : (fun k => f k * c) = pf_mul (pf_c c) f := by
  rw [pf_mul_cl]; funext k; grind
section
variable {f_count f_place f_opens f_top f_fault f_faultAt f_dry f_found : Int32} {a_c a_there a_kind a_num a_open a_openAt a_power a_table : Nat → Int32}
theorem yc_split31 {post : SY → Prop} {d : Nat} (hd4 : d ≤ 4)
    (J : Int32 → Int32 → Int32 → Int32 → Int32 → Int32 → Int32 → Int32 → Int32 → (Nat → Int32) → (Nat → Int32) → (Nat → Int32) → (Nat → Int32) → (Nat → Int32) → (Nat → Int32) → (Nat → Int32) → (Nat → Int32) → Prop)
    (h : ∃ n50 : Nat, wY_split_50 post J (nI d) (nI (5 ^ d)) n50 0 f_count f_place f_opens f_top f_fault f_faultAt f_dry f_found a_c a_there a_kind a_num a_open a_openAt a_power a_table) :
    ∀ k i, i + k = d → wY_split_31 post J (nI d) f_count f_place f_opens f_top f_fault f_faultAt f_dry f_found a_c a_there a_kind a_num a_open a_openAt a_power a_table (k + 1) (nI (5 ^ i)) (nI i) := by
  intro k
  induction k with
  | zero =>
    intro i hi
    obtain rfl : i = d := by omega
    exact br_t (nI_le (Nat.le_refl _) (by omega)) h
  | succ k ih =>
    intro i hi
    have e5 : nI (5 ^ i) * 5 = nI (5 ^ (i + 1)) := by rw [Nat.pow_succ]; exact pk_mul (5 ^ i) 5
    exact br_f (nI_ge (by omega) (by omega)) (nm_r e5 (nm_r (nI_1 i) (ih (i + 1) (by omega))))
theorem yc_split_end {post : SY → Prop} {g0 : Nat → Fin 5} {A : PF} {N : Nat} (hA : pf_hd A N) (hN : N ≤ 8)
    (h : ∀ (g' : Nat → Fin 5) (m : Nat) (pw : Nat → Int32), m ≤ 8 → ys_fr g0 g' → ys_ok g' A m pw → post (f_count, f_place, f_opens, f_top, f_fault, f_faultAt, f_dry, nI m, fi_m g', a_there, a_kind, a_num, a_open, a_openAt, pw, a_table))
    (g : Nat → Fin 5) (m e : Nat) (pw : Nat → Int32) (D n : Nat → Nat) (d k : Nat) (he20 : e < 20) (hd20 : d < 20) (he : e ≤ 8) (hd1 : 1 ≤ d) (c : e < 2 * d) (fr : ys_fr g0 g) (S : ys_sp g A (fi_s g 71) m pw D n) (hr : pf_hd (fi_s g 71) e) (hf : pf_fr d (fi_s g 71) e) :
    wY_split_14 post (k + 1) (nI d) f_count f_place f_opens f_top f_fault f_faultAt f_dry (nI m) (fi_m g) a_there a_kind a_num a_open a_openAt (pw) a_table := by
  have hm := pf_Sp_m S.1 hA (pf_hd_fin hr)
  refine yc_deg 71 (by omega) (fun z => absurd z (pf_hd_n0 hr)) (fun e1 he1 hr1 => ?_)
  obtain rfl := pf_hd_u hr1 hr
  refine br_t ((fi_deg2 he1 hd20).mpr c) ?_
  refine yc_deg 71 (by omega) (fun z => absurd z (pf_hd_n0 hr)) (fun e' he' hr' => ?_)
  obtain rfl := pf_hd_u hr' hr
  by_cases c0 : e' = 0
  · subst c0
    refine br_f (by decide) (h g m pw (by omega) fr (Or.inr ⟨N, _, D, n, hA, S, hr⟩))
  · refine br_t (nI_le (a := 1) (by omega) (by omega)) ?_
    refine yc_deg 71 (by omega) (fun z => absurd z (pf_hd_n0 hr)) (fun e2 he2 hr2 => ?_)
    obtain rfl := pf_hd_u hr2 hr
    have ex : (1420 : Int32) + nI e2 = nI (20 * 71 + e2) := nI_add 1420 e2
    refine ⟨pk_in (20 * 71 + e2) 1800 (by omega) ex, yc_inv' (y := fi_s g 71 e2) ?_ ?_⟩
    · rw [ex, nI_clamp (by omega), fi_s_at he2]; rfl
    · have cz : fi_s g 71 e2 * fi_s g 71 e2 * fi_s g 71 e2 ≠ 0 := pf_nz _ _ (pf_nz _ _ hr.2 hr.2) hr.2
      have hi : pf_irr (pf_mul (pf_c (fi_s g 71 e2 * fi_s g 71 e2 * fi_s g 71 e2)) (fi_s g 71)) e2 := pf_irr_c cz (pf_irr_last hr (by omega) c hf)
      have lf : pf_ln (pf_mul (pf_c (fi_s g 71 e2 * fi_s g 71 e2 * fi_s g 71 e2)) (fi_s g 71)) 20 := pf_c_ml _ (fi_s_ln g 71)
      refine yc_scale 71 (fi_s g 71 e2 * fi_s g 71 e2 * fi_s g 71 e2) (by omega) ?_
      rw [pf_sc]
      have h0 : pf_hd (pf_c (fi_s g 71 e2)) 0 := pf_hd_c hr.2
      have er : fi_s g 71 = pf_mul (pf_c (fi_s g 71 e2)) (pf_pow (pf_mul (pf_c (fi_s g 71 e2 * fi_s g 71 e2 * fi_s g 71 e2)) (fi_s g 71)) 1) := by
        rw [pf_pow1, pf_c_inv hr.2]
      have S2 : ys_sp (fi_p g 71 (pf_mul (pf_c (fi_s g 71 e2 * fi_s g 71 e2 * fi_s g 71 e2)) (fi_s g 71))) A (fi_s g 71) m pw D n := ys_sp_eq S (fun i hi => fi_sq (by omega))
      obtain ⟨t, ht, et⟩ := pf_mk_all e2 _ hi.1.1 (by rw [pf_mul_cl]; show fi_s g 71 e2 * fi_s g 71 e2 * fi_s g 71 e2 * fi_s g 71 e2 = 1; exact pf_inv _ hr.2)
      obtain ⟨hm8, D', n', S3⟩ := ys_keep S2 hA hN hi lf (Nat.le_refl 1) er (pf_nd_lt hi.1 h0 (by omega)) (pf_fin_c _) et ht (fun e s h1 h2 dv => absurd dv (pf_nd_lt (pf_mk_hd e s) h0 (by omega)))
      have e71 : fi_s (fi_p g 71 (pf_mul (pf_c (fi_s g 71 e2 * fi_s g 71 e2 * fi_s g 71 e2)) (fi_s g 71))) 71 = pf_mul (pf_c (fi_s g 71 e2 * fi_s g 71 e2 * fi_s g 71 e2)) (fi_s g 71) := fi_sp lf
      refine yc_keep 71 m (by omega) hm8 ?_
      rw [e71]
      refine h _ (m + 1) _ (by omega) ?_ (Or.inr ⟨N, _, D', n', hA, S3, h0⟩)
      intro s hs
      rw [fi_sq (by omega), fi_sq (by omega)]; exact fr s hs
theorem yc_split14 {post : SY → Prop} {g0 : Nat → Fin 5} {A : PF} {N : Nat} (hA : pf_hd A N) (hN : N ≤ 8)
    (h : ∀ (g' : Nat → Fin 5) (m : Nat) (pw : Nat → Int32), m ≤ 8 → ys_fr g0 g' → ys_ok g' A m pw → post (f_count, f_place, f_opens, f_top, f_fault, f_faultAt, f_dry, nI m, fi_m g', a_there, a_kind, a_num, a_open, a_openAt, pw, a_table)) :
    ∀ (k d : Nat) (g : Nat → Fin 5) (m e : Nat) (pw : Nat → Int32) (D n : Nat → Nat), 1 ≤ d → d + k = 6 → ys_fr g0 g → ys_sp g A (fi_s g 71) m pw D n → pf_hd (fi_s g 71) e → e ≤ 8 → pf_fr d (fi_s g 71) e →
      wY_split_14 post (k + 1) (nI d) f_count f_place f_opens f_top f_fault f_faultAt f_dry (nI m) (fi_m g) a_there a_kind a_num a_open a_openAt (pw) a_table := by
  intro k
  induction k with
  | zero =>
    intro d g m e pw D n hd1 hk fr S hr he hf
    exact yc_split_end hA hN h g m e pw D n d 0 (by omega) (by omega) he hd1 (by omega) fr S hr hf
  | succ k ih =>
    intro d g m e pw D n hd1 hk fr S hr he hf
    by_cases c : e < 2 * d
    · exact yc_split_end hA hN h g m e pw D n d (k + 1) (by omega) (by omega) he hd1 c fr S hr hf
    · refine yc_deg 71 (by omega) (fun z => absurd z (pf_hd_n0 hr)) (fun e' he' hr' => ?_)
      obtain rfl := pf_hd_u hr' hr
      refine br_f (fun z => c ((fi_deg2 he' (by omega)).mp z)) ⟨d + 1, ?_⟩
      refine yc_split31 (by omega) _ ⟨5 ^ d + 1, ?_⟩ d 0 (by omega)
      refine yc_split50 hA hN hd1 (by omega) _ (fun g' m' e2 pw' D' n' fr' S' hr2 he2 hf2 => ?_) (5 ^ d) 0 g m e' pw D n (by omega) fr S hr he hf (fun s hs => by omega)
      exact ih (d + 1) g' m' e2 pw' D' n' (by omega) (by omega) fr' S' hr2 he2 hf2
theorem yc_split {post : SY → Prop} {g : Nat → Fin 5} {xs : Int32} (s : Nat) (hs : s < 90) (hs2 : s < 70 ∨ 82 ≤ s) (hl : pf_ln (fi_s g s) 9)
    (h : ∀ (g' : Nat → Fin 5) (m : Nat) (pw : Nat → Int32), m ≤ 8 → ys_fr g g' → ys_ok g' (fi_s g s) m pw → post (f_count, f_place, f_opens, f_top, f_fault, f_faultAt, f_dry, nI m, fi_m g', a_there, a_kind, a_num, a_open, a_openAt, pw, a_table)) (es : xs = nI s := by rfl) :
    wpY_split post (f_count, f_place, f_opens, f_top, f_fault, f_faultAt, f_dry, f_found, fi_m g, a_there, a_kind, a_num, a_open, a_openAt, a_power, a_table) xs := by
  subst es
  unfold wpY_split
  refine yc_copy s 71 hs (by omega) ?_
  have fr0 : ys_fr g (fi_p g 71 (fi_s g s)) := fun t ht => fi_sq (by omega)
  have e71 : fi_s (fi_p g 71 (fi_s g s)) 71 = fi_s g s := fi_sp (fi_s_ln g s)
  rcases pf_hd_of 9 (fi_s g s) hl with z | ⟨N, hN, hA⟩
  · refine ⟨1, ?_⟩
    have z71 : fi_s (fi_p g 71 (fi_s g s)) 71 = pf_c 0 := by rw [e71, z]
    refine yc_deg 71 (by omega) (fun _ => ?_) (fun d _ hd => absurd z71 (pf_hd_n0 hd))
    refine br_t (by decide) ?_
    refine yc_deg 71 (by omega) (fun _ => ?_) (fun d _ hd => absurd z71 (pf_hd_n0 hd))
    refine br_f (by decide) ?_
    exact h _ 0 a_power (by omega) fr0 (Or.inl ⟨z, rfl⟩)
  · refine ⟨6, ?_⟩
    have u := yc_split14 (g0 := g) hA (by omega) h 5 1 (fi_p g 71 (fi_s g s)) 0 N a_power (fun _ => 0) (fun _ => 0) (by omega) (by omega) fr0 (by rw [e71]; exact ⟨pf_Sp0 _ _ _ _, fun i hi => by omega, pf_so0 _ _ _⟩) (by rw [e71]; exact hA) (by omega) (fun e s h1 h2 => by omega)
    exact u
end
