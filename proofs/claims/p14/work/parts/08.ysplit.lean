/-! The reference's trial division: strike, keep, split -/
theorem pf_dv_rem {F Q R : PF} {d : Nat} (hF : pf_hd F d) (fQ : pf_fin Q) (hR : pf_ln R d) (h : pf_dv F (pf_add (pf_mul Q F) R)) : R = pf_c 0 := by
  obtain ⟨q, fq, eq⟩ := h
  have e : R = pf_mul (pf_sub q Q) F := by
    letI := pf_ring
    have e1 : Q * F + R = q * F := eq
    show R = (q - Q) * F
    grind
  rcases pf_fin_hd (pf_fin_sub fq fQ) with z | ⟨m, hm⟩
  · rw [e, z, pf_zero_mul]
  · exfalso
    have h1 := pf_mul_hd hm hF
    rw [← e] at h1
    have := pf_hd_lt h1 hR
    omega
theorem pf_nd_lt {F R : PF} {d e : Nat} (hF : pf_hd F d) (hR : pf_hd R e) (h : e < d) : ¬ pf_dv F R := by
  intro dv
  obtain ⟨d', _, h1, _, h2, _⟩ := pf_dv_hd dv hR (pf_hd_fin hF)
  have := pf_hd_u hF h1
  omega
theorem pf_hd_q {Q F : PF} {d D : Nat} (hF : pf_hd F d) (fQ : pf_fin Q) (h : pf_hd (pf_mul Q F) D) : pf_hd Q (D - d) ∧ d ≤ D := by
  rcases pf_fin_hd fQ with z | ⟨m, hm⟩
  · exfalso; apply pf_hd_n0 h; rw [z, pf_zero_mul]
  · have h1 := pf_hd_u h (pf_mul_hd hm hF)
    have e : D - d = m := by omega
    rw [e]; exact ⟨hm, by omega⟩
theorem pf_add_0 (f : PF) : pf_add f (pf_c 0) = f := by
  letI := pf_ring
  show f + 0 = f
  grind
section
variable {f_count f_place f_opens f_top f_fault f_faultAt f_dry f_found : Int32} {a_c a_there a_kind a_num a_open a_openAt a_power a_table : Nat → Int32}
theorem yc_strike {post : Int32 → SY → Prop} {g : Nat → Fin 5} {d D0 : Nat} (hF : pf_hd (fi_s g 70) d) (hd : 1 ≤ d) (hr : pf_hd (fi_s g 71) D0)
    (h : ∀ (g' : Nat → Fin 5) (n D : Nat), n ≤ 20 → (∀ s, s ≠ 71 → s ≠ 80 → s ≠ 81 → fi_s g' s = fi_s g s) → fi_s g 71 = pf_mul (fi_s g' 71) (pf_pow (fi_s g 70) n) → ¬ pf_dv (fi_s g 70) (fi_s g' 71) → pf_hd (fi_s g' 71) D → post (nI n) (f_count, f_place, f_opens, f_top, f_fault, f_faultAt, f_dry, f_found, fi_m g', a_there, a_kind, a_num, a_open, a_openAt, a_power, a_table)) :
    wpY_strike post (f_count, f_place, f_opens, f_top, f_fault, f_faultAt, f_dry, f_found, fi_m g, a_there, a_kind, a_num, a_open, a_openAt, a_power, a_table) 71 70 99 := by
  have hd20 : d < 20 := pf_hd_lt hF (fi_s_ln g 70)
  have hD20 : D0 < 20 := pf_hd_lt hr (fi_s_ln g 71)
  have key : ∀ D (g' : Nat → Fin 5) n fuel, pf_hd (fi_s g' 71) D → (∀ s, s ≠ 71 → s ≠ 80 → s ≠ 81 → fi_s g' s = fi_s g s) → fi_s g 71 = pf_mul (fi_s g' 71) (pf_pow (fi_s g 70) n) → n + D ≤ 19 → D + 2 ≤ fuel →
      wY_strike_6 post 71 70 99 fuel (nI n) 1 f_count f_place f_opens f_top f_fault f_faultAt f_dry f_found (fi_m g') a_there a_kind a_num a_open a_openAt a_power a_table := by
    intro D
    induction D using Nat.strongRecOn with
    | ind D ih =>
      intro g' n fuel hD fr er hn hf
      obtain ⟨fuel, rfl⟩ : ∃ m, fuel = m + 1 := ⟨fuel - 1, by omega⟩
      have hF' : pf_hd (fi_s g' 70) d := by rw [fr 70 (by omega) (by omega) (by omega)]; exact hF
      have eF' : fi_s g' 70 = fi_s g 70 := fr 70 (by omega) (by omega) (by omega)
      refine br_f (by decide) (br_f (nI_ge (b := 99) (by omega) (by decide)) ?_)
      refine yc_deg 71 (by omega) (fun z => absurd z (pf_hd_n0 hD)) (fun D' hD'2 hD' => ?_)
      obtain rfl := pf_hd_u hD' hD
      refine yc_deg 70 (by omega) (fun z => absurd z (pf_hd_n0 hF')) (fun d' hd'2 hd' => ?_)
      obtain rfl := pf_hd_u hd' hF'
      by_cases c : D' < d'
      · refine br_t (nI_lt c (by omega)) (h g' n D' (by omega) fr er ?_ hD)
        rw [← eF']; exact pf_nd_lt hF' hD c
      · refine br_f (nI_nlt (by omega) (by omega)) ?_
        refine yc_divide 71 70 80 81 (by omega) (by omega) (by omega) (by omega) (by omega) (by omega) (by omega) hF' (fun Q R hQ hR eQ => ?_)
        have hR20 : pf_ln R 20 := pf_ln_mono hR (by omega)
        refine yc_deg 81 (by omega) (fun z => ?_) (fun e he hE => ?_)
        · rw [fi_sq (by omega), fi_sp hR20] at z
          refine br_f (by decide) (br_f (by decide) ?_)
          refine yc_copy 80 71 (by omega) (by omega) (nm_r (nI_1 n) ?_)
          rw [z, pf_add_0] at eQ
          have hQ2 := pf_hd_q hF' ⟨_, hQ⟩ (eQ ▸ hD)
          have e80 : fi_s (fi_p (fi_p g' 81 R) 80 Q) 80 = Q := fi_sp hQ
          refine ih (D' - d') (by omega) _ (n + 1) fuel ?_ ?_ ?_ (by omega) (by omega)
          · rw [fi_sp (fi_s_ln _ _), e80]; exact hQ2.1
          · intro s h1 h2 h3
            rw [fi_sq h1, fi_sq h2, fi_sq h3]; exact fr s h1 h2 h3
          · rw [fi_sp (fi_s_ln _ _), e80, er, eQ, eF']
            show _ = pf_mul Q (pf_mul (pf_pow (fi_s g 70) n) (fi_s g 70))
            generalize pf_pow (fi_s g 70) n = p
            generalize fi_s g 70 = F
            letI := pf_ring
            show Q * F * p = Q * (p * F)
            grind
        · rw [fi_sq (by omega), fi_sp hR20] at hE
          refine br_t (nI_pos' (by omega)) (br_t rfl ?_)
          obtain ⟨fuel, rfl⟩ : ∃ m, fuel = m + 1 := ⟨fuel - 1, by omega⟩
          have e71 : fi_s (fi_p (fi_p g' 81 R) 80 Q) 71 = fi_s g' 71 := by rw [fi_sq (by omega), fi_sq (by omega)]
          refine br_t rfl (h _ n D' (by omega) ?_ (by rw [e71]; exact er) ?_ (by rw [e71]; exact hD))
          · intro s h1 h2 h3
            rw [fi_sq h2, fi_sq h3]; exact fr s h1 h2 h3
          · rw [e71, ← eF']
            intro dv
            rw [eQ] at dv
            exact pf_hd_n0 hE (pf_dv_rem hF' ⟨_, hQ⟩ hR dv)
  unfold wpY_strike
  refine ⟨D0 + 2, key D0 g 0 (D0 + 2) hr (fun _ _ _ _ => rfl) ?_ (by omega) (by omega)⟩
  show _ = pf_mul (fi_s g 71) (pf_c 1)
  rw [pf_mul_comm, pf_one_mul]
end
/-- what split leaves: slots that it doesn't touch, the factors in 72 .., their powers -/
def ys_fr (g g' : Nat → Fin 5) : Prop := ∀ s, s < 70 ∨ 82 ≤ s → fi_s g' s = fi_s g s
def ys_sp (g' : Nat → Fin 5) (A r : PF) (m : Nat) (pw : Nat → Int32) (D n : Nat → Nat) : Prop :=
  pf_Sp A r m (fun i => fi_s g' (72 + i)) D n ∧ (∀ i, i < m → pw i = nI (n i)) ∧ pf_so r m (fun i => fi_s g' (72 + i)) D
theorem ys_keep {g : Nat → Fin 5} {A r r' f : PF} {m k d N t : Nat} {pw : Nat → Int32} {D n : Nat → Nat} (S : ys_sp g A r m pw D n) (hA : pf_hd A N) (hN : N ≤ 8)
    (hf : pf_irr f d) (lf : pf_ln f 20) (hk : 1 ≤ k) (er : r = pf_mul r' (pf_pow f k)) (nd : ¬ pf_dv f r') (fr : pf_fin r')
    (ef : f = pf_mk d t) (ht : t < 5 ^ d) (hs : ∀ e s, 1 ≤ e → s < 5 ^ e → pf_dv (pf_mk e s) r' → 5 ^ d + t < 5 ^ e + s) :
    m < 8 ∧ ∃ D' n', ys_sp (fi_p g (72 + m) f) A r' (m + 1) (upd pw m (nI k)) D' n' := by
  have S' : pf_Sp A r' (m + 1) (fun i => fi_s (fi_p g (72 + m) f) (72 + i)) (fun i => if i = m then d else D i) (fun i => if i = m then k else n i) := by
    refine pf_Sp_step S.1 hf hk er nd fr (fun i hi => ?_) (fun i hi => ?_) (fun i hi => ?_) ?_ ?_ ?_
    · exact fi_sq (by omega)
    · exact if_neg (by omega)
    · exact if_neg (by omega)
    · exact fi_sp lf
    · exact if_pos rfl
    · exact if_pos rfl
  have hm := pf_Sp_m S' hA fr
  have ff := pf_hd_fin hf.1
  have dv : pf_dv f r := by
    rw [er]
    obtain ⟨k', rfl⟩ : ∃ k', k = k' + 1 := ⟨k - 1, by omega⟩
    exact pf_dv_ml (pf_dv_ml (pf_dv_r _) (pf_fin_pow ff k')) fr
  have dr : pf_dv r' r := ⟨pf_pow f k, pf_fin_pow ff k, by rw [er, pf_mul_comm]⟩
  have so : pf_so r' (m + 1) (fun i => fi_s (fi_p g (72 + m) f) (72 + i)) (fun i => if i = m then d else D i) := by
    refine pf_so_step S.2.2 hf.2.1 ht (ef ▸ dv) dr hs (fun i hi => ?_) (fun i hi => ?_) ?_ ?_
    · exact fi_sq (by omega)
    · exact if_neg (by omega)
    · exact (fi_sp lf).trans ef
    · exact if_pos rfl
  refine ⟨by omega, _, _, S', fun i hi => ?_, so⟩
  show (if i = m then nI k else pw i) = nI (if i = m then k else n i)
  by_cases c : i = m
  · rw [if_pos c, if_pos c]
  · rw [if_neg c, if_neg c]; exact S.2.1 i (by omega)
theorem pf_fr_dv {d D D' : Nat} {r r' : PF} (h : pf_fr d r D) (hD : D' ≤ D) (hr : pf_dv r' r) : pf_fr d r' D' :=
  fun e s h1 h2 h3 h4 dv => h e s h1 h2 (by omega) h4 (pf_dv_t dv hr)
theorem ys_sp_eq {g g' : Nat → Fin 5} {A r : PF} {m : Nat} {pw : Nat → Int32} {D n : Nat → Nat} (S : ys_sp g A r m pw D n) (h : ∀ i, i < m → fi_s g' (72 + i) = fi_s g (72 + i)) : ys_sp g' A r m pw D n := by
  obtain ⟨⟨s1, s2, s3, s4, s5, s6, s7⟩, hp, so⟩ := S
  have e : ∀ i, i < m → (fun i => fi_s g' (72 + i)) i = (fun i => fi_s g (72 + i)) i := h
  refine ⟨⟨fun i hi => by rw [e i hi]; exact s1 i hi, s2, fun i hi => by rw [e i hi]; exact s3 i hi, fun i hi j hj hij => by rw [e i hi, e j hj]; exact s4 i hi j hj hij, fun i hi => by rw [e i hi]; exact s5 i hi, fun i hi => by rw [e i hi]; exact s6 i hi, ?_⟩, hp, pf_so_eq so e⟩
  obtain ⟨G, h1, h2, h3⟩ := s7
  refine ⟨G, h1, h2, fun f ff hc => h3 f ff (fun i hi => ?_)⟩
  have := hc i hi
  rw [e i hi] at this
  exact this
