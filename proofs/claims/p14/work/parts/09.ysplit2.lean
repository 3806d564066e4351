/-! The reference's split -/
theorem fi_deg2 {e d : Nat} (he : e < 20) (hd : d < 20) : (nI e < (2 : Int32) * nI d) ↔ e < 2 * d := by
  have e2 : (2 : Int32) * nI d = nI (2 * d) := pk_mul 2 d
  rw [e2, nI_ltI (by omega) (by omega)]
theorem pf_5pow {d : Nat} (h : d ≤ 4) : 5 ^ d ≤ 625 := Nat.pow_le_pow_right (n := 5) (by decide) h
section
variable {f_count f_place f_opens f_top f_fault f_faultAt f_dry f_found : Int32} {a_c a_there a_kind a_num a_open a_openAt a_power a_table : Nat → Int32}
theorem yc_keep {post : SY → Prop} {g : Nat → Fin 5} {xs xn : Int32} (s m : Nat) (hs : s < 90) (hm : m < 8) (h : post (f_count, f_place, f_opens, f_top, f_fault, f_faultAt, f_dry, nI (m + 1), fi_m (fi_p g (72 + m) (fi_s g s)), a_there, a_kind, a_num, a_open, a_openAt, upd a_power m xn, a_table)) (es : xs = nI s := by rfl) (ef : f_found = nI m := by rfl) : wpY_keep post (f_count, f_place, f_opens, f_top, f_fault, f_faultAt, f_dry, f_found, fi_m g, a_there, a_kind, a_num, a_open, a_openAt, a_power, a_table) xs xn := by
  subst es ef
  unfold wpY_keep
  refine yc_copy s (72 + m) hs (by omega) ?_ rfl (nI_add 72 m)
  refine ⟨vp_in_nI hm (by omega), nm_r (e' := upd a_power m xn) ?_ (nm_r (nI_1 m) h)⟩
  rw [nI_clamp (by omega)]
/-- the turns over the codes t of one degree d -/
theorem yc_split50 {post : SY → Prop} {g0 : Nat → Fin 5} {A : PF} {N d : Nat} (hA : pf_hd A N) (hN : N ≤ 8) (hd1 : 1 ≤ d) (hd4 : d ≤ 4)
    (J : Int32 → Int32 → Int32 → Int32 → Int32 → Int32 → Int32 → Int32 → Int32 → (Nat → Int32) → (Nat → Int32) → (Nat → Int32) → (Nat → Int32) → (Nat → Int32) → (Nat → Int32) → (Nat → Int32) → (Nat → Int32) → Prop)
    (hJ : ∀ (g' : Nat → Fin 5) (m e : Nat) (pw : Nat → Int32) (D n : Nat → Nat), ys_fr g0 g' → ys_sp g' A (fi_s g' 71) m pw D n → pf_hd (fi_s g' 71) e → e ≤ 8 → pf_fr (d + 1) (fi_s g' 71) e → J (nI (d + 1)) f_count f_place f_opens f_top f_fault f_faultAt f_dry (nI m) (fi_m g') a_there a_kind a_num a_open a_openAt (pw) a_table) :
    ∀ (k t : Nat) (g : Nat → Fin 5) (m e : Nat) (pw : Nat → Int32) (D n : Nat → Nat), t + k = 5 ^ d → ys_fr g0 g → ys_sp g A (fi_s g 71) m pw D n → pf_hd (fi_s g 71) e → e ≤ 8 → pf_fr d (fi_s g 71) e → (∀ s, s < t → ¬ pf_dv (pf_mk d s) (fi_s g 71)) →
      wY_split_50 post J (nI d) (nI (5 ^ d)) (k + 1) (nI t) f_count f_place f_opens f_top f_fault f_faultAt f_dry (nI m) (fi_m g) a_there a_kind a_num a_open a_openAt (pw) a_table := by
  have h625 := pf_5pow hd4
  intro k
  induction k with
  | zero =>
    intro t g m e pw D n ht fr S hr he hf hs
    refine br_t (nI_le (by omega) (by omega)) (nm_r (nI_1 d) (hJ g m e pw D n fr S hr he ?_))
    intro e' s h1 h2 h3 h4
    by_cases c : e' = d
    · subst c; exact hs s (by omega)
    · exact hf e' s h1 (by omega) h3 h4
  | succ k ih =>
    intro t g m e pw D n ht fr S hr he hf hs
    refine br_f (nI_ge (by omega) (by omega)) ?_
    refine yc_deg 71 (by omega) (fun z => absurd z (pf_hd_n0 hr)) (fun e' he' hr' => ?_)
    obtain rfl := pf_hd_u hr' hr
    by_cases c : e' < 2 * d
    · refine br_t ((fi_deg2 he' (by omega)).mpr c) (nm_r (nI_1 d) (hJ g m e' pw D n fr S hr he ?_))
      intro e s h1 h2 h3 h4
      exact hf e s h1 (by omega) h3 h4
    · refine br_f (fun z => c ((fi_deg2 he' (by omega)).mp z)) ?_
      refine yc_monic d t (by omega) (by omega) ?_
      have lmk : pf_ln (pf_mk d t) 20 := pf_ln_mono (pf_mk_ln d t) (by omega)
      have e70 : fi_s (fi_p g 70 (pf_mk d t)) 70 = pf_mk d t := fi_sp lmk
      have e71 : fi_s (fi_p g 70 (pf_mk d t)) 71 = fi_s g 71 := fi_sq (by omega)
      refine yc_strike (d := d) (D0 := e') (by rw [e70]; exact pf_mk_hd d t) hd1 (by rw [e71]; exact hr) (fun g' q D1 hq fr' er nd hD1 => ?_)
      rw [e70, e71] at er
      rw [e70] at nd
      have fr'2 : ys_fr g0 g' := fun s hs2 => by
        rw [fr' s (by omega) (by omega) (by omega), fi_sq (by omega)]; exact fr s hs2
      have dvr : pf_dv (fi_s g' 71) (fi_s g 71) := ⟨pf_pow (pf_mk d t) q, pf_fin_pow (pf_hd_fin (pf_mk_hd d t)) q, by rw [er, pf_mul_comm]⟩
      have hD1e : D1 ≤ e' := by
        obtain ⟨d2, _, h1, _, h2, _⟩ := pf_dv_hd dvr hr (pf_hd_fin hD1)
        have := pf_hd_u hD1 h1
        omega
      have hf' : pf_fr d (fi_s g' 71) D1 := pf_fr_dv hf hD1e dvr
      have hs' : ∀ s, s < t + 1 → ¬ pf_dv (pf_mk d s) (fi_s g' 71) := by
        intro s hs2
        by_cases c2 : s = t
        · rw [c2]; exact nd
        · exact fun dv => hs s (by omega) (pf_dv_t dv dvr)
      by_cases cq : q = 0
      · subst cq
        have er2 : fi_s g 71 = fi_s g' 71 := by rw [er]; show pf_mul (fi_s g' 71) (pf_c 1) = _; rw [pf_mul_comm, pf_one_mul]
        refine br_t (by decide) (nm_r (nI_1 t) (ih (t + 1) g' m D1 pw D n (by omega) fr'2 ?_ hD1 (by omega) hf' hs'))
        rw [← er2]
        refine ys_sp_eq S (fun i hi => ?_)
        have hm := pf_Sp_m S.1 hA (pf_hd_fin hr)
        rw [fr' (72 + i) (by omega) (by omega) (by omega), fi_sq (by omega)]
      · have hirr : pf_irr (pf_mk d t) d := pf_irr_mk (r := fi_s g 71) hd1 (fun e s h1 h2 h3 => hf e s h1 h2 (by omega) h3) (by
          rw [er]
          obtain ⟨q', rfl⟩ : ∃ q', q = q' + 1 := ⟨q - 1, by omega⟩
          exact pf_dv_ml (pf_dv_ml (pf_dv_r _) (pf_fin_pow (pf_hd_fin (pf_mk_hd d t)) q')) (pf_hd_fin hD1))
        have hm := pf_Sp_m S.1 hA (pf_hd_fin hr)
        have S2 : ys_sp g' A (fi_s g 71) m pw D n := ys_sp_eq S (fun i hi => by
          rw [fr' (72 + i) (by omega) (by omega) (by omega), fi_sq (by omega)])
        have e70' : fi_s g' 70 = pf_mk d t := by rw [fr' 70 (by omega) (by omega) (by omega), e70]
        obtain ⟨hm8, D', n', S3⟩ := ys_keep S2 hA hN hirr lmk (by omega) er nd (pf_hd_fin hD1) rfl (by omega) (fun e s h1 h2 dv => pf_key (fun e s h1 h2 h3 dv => hf e s h1 h2 (by omega) h3 (pf_dv_t dv dvr)) hs' (by omega) h1 h2 dv)
        refine br_f (nI_nle (by omega) (by omega)) (yc_keep 70 m (by omega) hm8 (nm_r (nI_1 t) ?_))
        rw [e70']
        have e71' : fi_s (fi_p g' (72 + m) (pf_mk d t)) 71 = fi_s g' 71 := fi_sq (by omega)
        have u := ih (t + 1) (fi_p g' (72 + m) (pf_mk d t)) (m + 1) D1 (upd pw m (nI q)) D' n' (by omega) ?_ ?_ ?_ (by omega) ?_ ?_
        · exact u
        · intro s hs2
          rw [fi_sq (by omega)]; exact fr'2 s hs2
        · rw [e71']; exact S3
        · rw [e71']; exact hD1
        · rw [e71']; exact hf'
        · rw [e71']; exact hs'
end
