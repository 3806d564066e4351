/-! The reference's pass -/
theorem ya_sc_f {kd : Nat → Nat} {r i dp : Nat} {op sg : Bool} (h : ya_fit (kd i) dp op sg = false) : ya_sc kd (r + 1) i dp op sg = some i := by
  show (if ya_fit (kd i) dp op sg = true then _ else some i) = some i
  rw [h]; rfl
theorem ya_sc_t {kd : Nat → Nat} {r i dp : Nat} {op sg : Bool} (h : ya_fit (kd i) dp op sg = true) : ya_sc kd (r + 1) i dp op sg = ya_sc kd r (i + 1) (if kd i = 3 then dp + 1 else if kd i = 4 then dp - 1 else dp) (!ya_eo (kd i)) (decide (kd i = 3)) := by
  show (if ya_fit (kd i) dp op sg = true then ya_sc kd r (i + 1) (if kd i = 3 then dp + 1 else if kd i = 4 then dp - 1 else dp) (!ya_eo (kd i)) (decide (kd i = 3)) else some i) = _
  rw [h]; rfl
theorem ya_rk3 {k : Nat} (hk : ya_set k) (h : ya_rk k < 1) : k = 3 := by
  rcases hk with e | e | e | e | e | e | e
  · exact e
  all_goals (rw [e] at h; exact absurd h (by decide))
theorem ya_bin_1 {os : Nat → Nat} {o : Nat} (h1 : os o ≠ 3) (h2 : os o ≠ 12) : ya_bin os (o + 1) = ya_bin os o + 1 := by
  show ya_bin os o + (if os o = 3 then 0 else if os o = 12 then 0 else 1) = _
  rw [if_neg h1, if_neg h2]
theorem ya_bin_3 {os : Nat → Nat} {o : Nat} (h1 : os o = 3) : ya_bin os (o + 1) = ya_bin os o := by
  show ya_bin os o + (if os o = 3 then 0 else if os o = 12 then 0 else 1) = _
  rw [if_pos h1]; rfl
theorem ya_bin_12 {os : Nat → Nat} {o : Nat} (h1 : os o = 12) : ya_bin os (o + 1) = ya_bin os o := by
  show ya_bin os o + (if os o = 3 then 0 else if os o = 12 then 0 else 1) = _
  rw [h1]; rfl
theorem ya_dep_3 {os : Nat → Nat} {o : Nat} (h1 : os o = 3) : ya_dep os (o + 1) = ya_dep os o + 1 := by
  show ya_dep os o + (if os o = 3 then 1 else 0) = _
  rw [if_pos h1]
theorem ya_dep_n {os : Nat → Nat} {o : Nat} (h1 : os o ≠ 3) : ya_dep os (o + 1) = ya_dep os o := by
  show ya_dep os o + (if os o = 3 then 1 else 0) = _
  rw [if_neg h1]; rfl
section
variable {f_count f_place f_opens f_top f_fault f_faultAt f_dry f_found : Int32} {a_c a_there a_kind a_num a_open a_openAt a_power a_table : Nat → Int32}
theorem yc_pass16 {post : Int32 → SY → Prop} {kd : Nat → Nat} {cnt : Nat} {g0 : Nat → Fin 5} {res : Option Nat} (hc : cnt ≤ 24) (tk : ya_tk a_kind a_num cnt kd) (pl9 : ∀ s, 52 ≤ s → s < 66 → pf_ln (fi_s g0 s) 9)
    (H : ∀ (g' : Nat → Fin 5) (ops tp ft fa m : Int32) (pw ao aa : Nat → Int32), ya_pl g0 g' → (res = none → ya_in f_dry ft 1 g') → post (ya_r res) (nI cnt, f_place, ops, tp, ft, fa, f_dry, m, fi_m g', a_there, a_kind, a_num, ao, aa, pw, a_table)) :
    ∀ (r i : Nat) (op sg : Bool) (x1 x2 : Int32) (os : Nat → Nat) (o tp : Nat) (g : Nat → Fin 5) (ft fa m : Int32) (pw ao aa : Nat → Int32), i + r = cnt → ya_sc kd r i (ya_dep os o) op sg = res → x1 = (if op then 1 else 0) → (op = true → (x2 = 0 ↔ sg = false)) → o ≤ i → ya_os ao o os → tp = ya_bin os o + (if op then 0 else 1) → ya_in f_dry ft tp g → ya_pl g0 g →
      wY_pass_16 post (r + 1) x1 x2 (nI i) (nI cnt) f_place (nI o) (nI tp) (ft) (fa) f_dry (m) (fi_m g) a_there a_kind a_num (ao) (aa) (pw) a_table := by
  intro r
  induction r with
  | zero =>
    intro i op sg x1 x2 os o tp g ft fa m pw ao aa hi hres hx1 hx2 ho hos htp inv pl
    obtain rfl : i = cnt := by omega
    have hb := ya_bin_le os o
    refine br_t (nI_le (Nat.le_refl _) (by omega)) ?_
    cases op with
    | true =>
      subst hx1
      refine br_f (by decide) ?_
      have e : res = some i := by rw [← hres]; rfl
      subst e
      exact H g _ _ _ _ _ _ _ _ pl (fun z => nomatch z)
    | false =>
      subst hx1
      refine br_t rfl ⟨o + 1, ?_⟩
      have htp' : tp = ya_bin os o + 1 := htp
      subst htp'
      refine yc_down (os := os) 1 (by omega) (by omega) rfl o g g0 m pw ft fa (by omega) hos (by omega) inv pl (fun o' g' m' pw' ft' fa' h1 h2 h3 h4 h5 h6 => ?_)
      by_cases c : o' = 0
      · subst c
        have e : res = none := by
          rw [← hres]
          show (if false || decide (0 < ya_dep os o) then some i else none) = none
          rw [← h3]; rfl
        subst e
        exact br_t (by decide) (H g' _ _ _ _ _ _ _ _ h6 (fun _ => h5))
      · have h7 : ya_rk (os (o' - 1)) < 1 := by
          rcases h2 with z | z
          · exact absurd z c
          · exact z
        have e3 := ya_rk3 (hos (o' - 1) (by omega)).2 h7
        obtain ⟨q, rfl⟩ : ∃ q, o' = q + 1 := ⟨o' - 1, by omega⟩
        have e : res = some i := by
          rw [← hres]
          show (if false || decide (0 < ya_dep os o) then some i else none) = some i
          rw [← h3, ya_dep_3 (show os q = 3 from e3)]
          have : decide (0 < ya_dep os q + 1) = true := decide_eq_true (by omega)
          rw [this]; rfl
        subst e
        exact br_f (nI_nle (by omega) (by omega)) (H g' _ _ _ _ _ _ _ _ h6 (fun z => nomatch z))
  | succ r ih =>
    intro i op sg x1 x2 os o tp g ft fa m pw ao aa hi hres hx1 hx2 ho hos htp inv pl
    have hb := ya_bin_le os o
    obtain ⟨k1, k2, k3, k4⟩ := tk i (by omega)
    refine br_f (nI_ge (by omega) (by omega)) ⟨vp_in_nI (by omega) (by omega), ?_⟩
    rw [nI_clamp (by omega)]
    refine nm_r k1 ?_
    -- the end with a fault of syntax here
    have stop : ya_fit (kd i) (ya_dep os o) op sg = false → ∀ (g' : Nat → Fin 5) (ops tp ft fa m : Int32) (pw ao aa : Nat → Int32), ya_pl g0 g' → post (nI i) (nI cnt, f_place, ops, tp, ft, fa, f_dry, m, fi_m g', a_there, a_kind, a_num, ao, aa, pw, a_table) := by
      intro hf g' ops tp ft fa m pw ao aa hp
      have e : res = some i := by rw [← hres]; exact ya_sc_f hf
      subst e
      exact H g' _ _ _ _ _ _ _ _ hp (fun z => nomatch z)
    cases op with
    | true =>
      subst hx1
      have htp' : tp = ya_bin os o := htp
      subst htp'
      refine br_f (by decide) ?_
      by_cases c6 : kd i = 6
      · refine br_t (by rw [c6]; rfl) ?_
        cases sg with
        | false =>
          refine br_t ((hx2 rfl).mpr rfl) ?_
          unfold wY_pass_57
          refine br_f (by rw [c6]; decide) (br_t (by rw [c6]; decide) (stop (by rw [c6]; rfl) g _ _ _ _ _ _ _ _ pl))
        | true =>
          refine br_f (fun z => nomatch (hx2 rfl).mp z) ?_
          refine yc_push o (by omega) ?_
          unfold wY_pass_125
          refine br_f (by rw [c6]; decide) (nm_r (nI_1 i) ?_)
          have hb2 := ya_pu_b os o 12 o (Nat.le_refl _)
          refine ih (i + 1) true false 1 0 (ya_pu os o 12) (o + 1) (ya_bin os o) g ft fa m pw _ _ (by omega) ?_ rfl (fun _ => ⟨fun _ => rfl, fun _ => rfl⟩) (by omega) (ya_pu_os (k := 12) hos (Or.inr (Or.inr (Or.inr (Or.inr (Or.inr (Or.inr rfl))))))) ?_ inv pl
          · rw [← hres, ya_sc_t (by rw [c6]; rfl), ya_dep_n (by rw [ya_pu_o]; decide), hb2.2, c6]; rfl
          · rw [ya_bin_12 (ya_pu_o _ _ _), hb2.1]; rfl
      · refine br_f (fun e => c6 ((nI_eq (b := 6) (by omega) (by omega)).mp e)) ?_
        unfold wY_pass_57
        by_cases c3 : kd i = 3
        · refine br_t (by rw [c3]; rfl) ?_
          refine yc_push o (by omega) ?_
          unfold wY_pass_125
          refine br_t (by rw [c3]; rfl) (nm_r (nI_1 i) ?_)
          have hb2 := ya_pu_b os o 3 o (Nat.le_refl _)
          refine ih (i + 1) true true 1 1 (ya_pu os o 3) (o + 1) (ya_bin os o) g ft fa m pw _ _ (by omega) ?_ rfl (fun _ => ⟨fun z => absurd z (by decide), fun z => nomatch z⟩) (by omega) (ya_pu_os (k := 3) hos (Or.inl rfl)) ?_ inv pl
          · rw [← hres, ya_sc_t (by rw [c3]; rfl), ya_dep_3 (ya_pu_o _ _ _), hb2.2, c3]; rfl
          · rw [ya_bin_3 (ya_pu_o _ _ _), hb2.1]; rfl
        · refine br_f (fun e => c3 ((nI_eq (b := 3) (by omega) (by omega)).mp e)) ?_
          by_cases c2 : kd i ≤ 2
          · refine br_f (nI_ge (b := 3) (by omega) (by decide)) ⟨vp_in_nI (by omega) (by omega), ?_⟩
            refine yc_atom (kd i) (ya_bin os o) c2 (by omega) (fun e => by rw [nI_clamp (by omega)]; exact k3 e) (fun s a b => by rw [pl s a b]; exact pl9 s a b) inv (fun g' ft' fa' pl' inv' => ?_)
            have fit : ya_fit (kd i) (ya_dep os o) true sg = true := by
              show (decide (kd i ≤ 3) || (decide (kd i = 6) && sg)) = true
              rw [decide_eq_true (show kd i ≤ 3 by omega)]; rfl
            have heo : ya_eo (kd i) = true := by
              show (decide (kd i ≤ 2) || _ || _ || _) = true
              rw [decide_eq_true c2]; rfl
            have hres2 : ya_sc kd r (i + 1) (ya_dep os o) false (decide (kd i = 3)) = res := by
              rw [← hres, ya_sc_t fit, heo, if_neg c3, if_neg (by omega)]; rfl
            have n3 : ¬ nI (kd i) = 3 := fun e => c3 ((nI_eq (b := 3) (by omega) (by omega)).mp e)
            have p2 : ya_pl g0 g' := ya_pl_t pl pl'
            cases o with
            | zero =>
              refine br_t (by decide) ?_
              unfold wY_pass_125
              refine br_f n3 (nm_r (nI_1 i) ?_)
              exact ih (i + 1) false _ 0 0 os 0 _ g' ft' fa' m pw ao aa (by omega) hres2 rfl (fun z => nomatch z) (by omega) hos rfl inv' p2
            | succ o =>
              refine br_f (nI_nle (by omega) (by omega)) ⟨by rw [fi_t1]; exact vp_in_nI (by omega) (by omega), ?_⟩
              rw [fi_t1, nI_clamp (by omega)]
              obtain ⟨e1, e2⟩ := hos o (by omega)
              by_cases c11 : os o = 11
              · refine br_t (by rw [e1, c11]; rfl) ?_
                have eb := ya_bin_1 (os := os) (o := o) (by omega) (by omega)
                rw [eb] at inv' ⊢
                refine yc_carry o 11 (ya_bin os o) (by omega) (by rw [e1, c11]) (by omega) (by omega) inv' (fun g2 m2 pw2 ft2 fa2 pl2 inv2 => ?_)
                unfold wY_pass_125
                refine br_f n3 (nm_r (nI_1 i) ?_)
                refine ih (i + 1) false (decide (kd i = 3)) 0 0 os o _ g2 ft2 fa2 m2 pw2 ao aa (by omega) ?_ rfl (fun z => nomatch z) (by omega) (fun j hj => hos j (by omega)) rfl inv2 (ya_pl_t p2 pl2)
                rw [← hres2, ya_dep_n (by omega)]
              · refine br_f (by rw [e1]; exact fun e => c11 ((nI_eq (b := 11) (by rcases e2 with z | z | z | z | z | z | z <;> omega) (by omega)).mp e)) ?_
                unfold wY_pass_125
                refine br_f n3 (nm_r (nI_1 i) ?_)
                exact ih (i + 1) false _ 0 0 os (o + 1) _ g' ft' fa' m pw ao aa (by omega) hres2 rfl (fun z => nomatch z) (by omega) hos rfl inv' p2
          · refine br_t (nI_le (a := 3) (by omega) (by omega)) (stop ?_ g _ _ _ _ _ _ _ _ pl)
            show (decide (kd i ≤ 3) || (decide (kd i = 6) && sg)) = false
            rw [decide_eq_false (show ¬ kd i ≤ 3 by omega), decide_eq_false c6]; rfl
    | false =>
      subst hx1
      have htp' : tp = ya_bin os o + 1 := htp
      subst htp'
      refine br_t rfl ?_
      have ne : ∀ q, q < 2 ^ 31 → kd i ≠ q → ¬ nI (kd i) = nI q := fun q hq h e => h ((nI_eq (by omega) hq).mp e)
      by_cases c4 : kd i = 4
      · refine br_t (by rw [c4]; rfl) ⟨o + 1, ?_⟩
        refine yc_down (os := os) 1 (by omega) (by omega) rfl o g g0 m pw ft fa (by omega) hos (by omega) inv pl (fun o' g' m' pw' ft' fa' h1 h2 h3 h4 h5 h6 => ?_)
        cases o' with
        | zero =>
          refine br_t rfl (stop ?_ g' _ _ _ _ _ _ _ _ h6)
          rw [c4, ← h3]; rfl
        | succ q =>
          refine br_f (nI_ne0 (by omega) (by omega)) (nm_r (fi_t1 q) ?_)
          have e3 : os q = 3 := ya_rk3 (hos q (by omega)).2 (by
            rcases h2 with z | z
            · omega
            · exact z)
          have eb := ya_bin_3 (os := os) (o := q) e3
          have ed := ya_dep_3 (os := os) (o := q) e3
          rw [eb] at h5 ⊢
          have hres2 : ya_sc kd r (i + 1) (ya_dep os q) false false = res := by
            have hd : 0 < ya_dep os o := by omega
            rw [← hres, ya_sc_t (by rw [c4]; show (decide (5 ≤ 4) || (decide (4 = 4) && decide (0 < ya_dep os o))) = true; rw [decide_eq_true hd]; rfl), c4]
            show _ = ya_sc kd r (i + 1) (ya_dep os o - 1) false false
            have e5 : ya_dep os o - 1 = ya_dep os q := by omega
            rw [e5]
          cases q with
          | zero =>
            refine br_t (by decide) (nm_r (nI_1 i) ?_)
            exact ih (i + 1) false false 0 x2 os 0 _ g' ft' fa' m' pw' ao aa (by omega) hres2 rfl (fun z => nomatch z) (by omega) (fun j hj => hos j (by omega)) rfl h5 h6
          | succ q =>
            refine br_f (nI_nle (by omega) (by omega)) ⟨by rw [fi_t1]; exact vp_in_nI (by omega) (by omega), ?_⟩
            rw [fi_t1, nI_clamp (by omega)]
            obtain ⟨e1, e2⟩ := hos q (by omega)
            by_cases c11 : os q = 11
            · refine br_t (by rw [e1, c11]; rfl) ?_
              have eb2 := ya_bin_1 (os := os) (o := q) (by omega) (by omega)
              have hb3 := ya_bin_le os q
              rw [eb2] at h5 ⊢
              refine yc_carry q 11 (ya_bin os q) (by omega) (by rw [e1, c11]) (by omega) (by omega) h5 (fun g2 m2 pw2 ft2 fa2 pl2 inv2 => ?_)
              refine nm_r (nI_1 i) ?_
              refine ih (i + 1) false false 0 x2 os q _ g2 ft2 fa2 m2 pw2 ao aa (by omega) ?_ rfl (fun z => nomatch z) (by omega) (fun j hj => hos j (by omega)) rfl inv2 (ya_pl_t h6 pl2)
              rw [← hres2, ya_dep_n (by omega)]
            · refine br_f (by rw [e1]; exact fun e => c11 ((nI_eq (b := 11) (by rcases e2 with z | z | z | z | z | z | z <;> omega) (by omega)).mp e)) (nm_r (nI_1 i) ?_)
              exact ih (i + 1) false false 0 x2 os (q + 1) _ g' ft' fa' m' pw' ao aa (by omega) hres2 rfl (fun z => nomatch z) (by omega) (fun j hj => hos j (by omega)) rfl h5 h6
      · refine br_f (ne 4 (by decide) c4) ?_
        -- the next token, with the same stack
        have next : ∀ (g' : Nat → Fin 5) (ft' fa' m' : Int32) (pw' : Nat → Int32), ya_eo (kd i) = true → 5 ≤ kd i → ya_in f_dry ft' (ya_bin os o + 1) g' → ya_pl g0 g' → wY_pass_16 post (r + 1) 0 x2 (nI (i + 1)) (nI cnt) f_place (nI o) (nI (ya_bin os o + 1)) (ft') (fa') f_dry (m') (fi_m g') a_there a_kind a_num (ao) (aa) (pw') a_table := by
          intro g' ft' fa' m' pw' heo h5 inv' pl'
          refine ih (i + 1) false (decide (kd i = 3)) 0 x2 os o _ g' ft' fa' m' pw' ao aa (by omega) ?_ rfl (fun z => nomatch z) (by omega) hos rfl inv' pl'
          rw [← hres, ya_sc_t (by show (decide (5 ≤ kd i) || _) = true; rw [decide_eq_true h5]; rfl), heo, if_neg (by omega), if_neg c4]; rfl
        have sm : f_dry = 0 → ft = 0 → ya_sm (ya_bin os o) g := fun e1 e2 => ⟨inv.1 e1 e2 _ (by omega), inv.1 e1 e2 _ (by omega)⟩
        have frm : ∀ (g' : Nat → Fin 5) (ft' : Int32), f_dry = 0 → ft = 0 → ya_fr (ya_bin os o) g g' → (ft' = 0 → ya_sm (ya_bin os o) g') → ya_in f_dry ft' (ya_bin os o + 1) g' ∧ ya_pl g0 g' := by
          intro g' ft' e1 e2 fr hs
          refine ⟨⟨fun _ e s hs' => ?_, fun z => absurd e1 z⟩, fun s a b => by rw [fr s (by omega) (by omega) b]; exact pl s a b⟩
          by_cases q1 : s = 2 * ya_bin os o
          · rw [q1]; exact (hs e).1
          · by_cases q2 : s = 2 * ya_bin os o + 1
            · rw [q2]; exact (hs e).2
            · rw [fr s q1 q2 (by omega)]; exact inv.1 e1 e2 s (by omega)
        by_cases c9 : kd i = 9
        · refine br_t (by rw [c9]; rfl) ?_
          have heo : ya_eo (kd i) = true := by rw [c9]; rfl
          have p252 : ∀ (g' : Nat → Fin 5) (ft' fa' m' : Int32) (pw' : Nat → Int32), ya_in f_dry ft' (ya_bin os o + 1) g' → ya_pl g0 g' → wY_pass_252 post (wY_pass_16 post (r + 1)) 0 x2 (nI i) (nI (kd i)) (nI cnt) f_place (nI o) (nI (ya_bin os o + 1)) (ft') (fa') f_dry (m') (fi_m g') a_there a_kind a_num (ao) (aa) (pw') a_table := by
            intro g' ft' fa' m' pw' inv' pl'
            have nx := next g' ft' fa' m' pw' heo (by omega) inv' pl'
            unfold wY_pass_252
            exact br_c (fun _ => br_c (fun _ => br_f (by rw [c9]; decide) (nm_r (nI_1 i) nx)) (fun _ => nm_r (nI_1 i) nx)) (fun _ => nm_r (nI_1 i) nx)
          unfold wY_pass_214
          by_cases cd : f_dry = 0
          · refine br_t cd ?_
            by_cases cf : ft = 0
            · refine br_t cf (br_t (by rw [c9]; rfl) ⟨vp_in_nI (by omega) (by omega), ?_⟩)
              obtain ⟨q, hq, hn⟩ := k4 c9
              subst cf
              rw [fi_t1, nI_clamp (by omega)]
              refine yc_raise (ya_bin os o) q (by omega) hq hn (sm cd rfl) (fun g' m' pw' ft' fa' fr hs => ?_)
              obtain ⟨i1, i2⟩ := frm g' ft' cd rfl fr hs
              exact p252 g' ft' fa' m' pw' i1 i2
            · exact br_f cf (p252 g ft fa m pw inv pl)
          · exact br_f cd (p252 g ft fa m pw inv pl)
        · refine br_f (ne 9 (by decide) c9) ?_
          by_cases c10 : kd i = 10
          · refine br_t (by rw [c10]; rfl) ?_
            have heo : ya_eo (kd i) = true := by rw [c10]; rfl
            unfold wY_pass_214
            have p252 : wY_pass_252 post (wY_pass_16 post (r + 1)) 0 x2 (nI i) (nI (kd i)) (nI cnt) f_place (nI o) (nI (ya_bin os o + 1)) (ft) (fa) f_dry (m) (fi_m g) a_there a_kind a_num (ao) (aa) (pw) a_table := by
              unfold wY_pass_252
              by_cases cd : f_dry = 0
              · refine br_t cd ?_
                by_cases cf : ft = 0
                · refine br_t cf (br_t (by rw [c10]; rfl) ?_)
                  subst cf
                  rw [fi_t1]
                  refine yc_slope (ya_bin os o) (by omega) (sm cd rfl) (fun g' m' pw' ft' fa' fr _ hs => ?_)
                  obtain ⟨i1, i2⟩ := frm g' ft' cd rfl fr (fun e => by
                    rcases hs with ⟨a, _, _⟩ | ⟨_, a, _⟩
                    · exact a
                    · rw [a] at e; exact absurd e (by decide))
                  exact nm_r (nI_1 i) (next g' ft' fa' _ pw' heo (by omega) i1 i2)
                · exact br_f cf (nm_r (nI_1 i) (next g ft fa m pw heo (by omega) inv pl))
              · exact br_f cd (nm_r (nI_1 i) (next g ft fa m pw heo (by omega) inv pl))
            have n9 : ¬ nI (kd i) = 9 := ne 9 (by decide) c9
            exact br_c (fun _ => br_c (fun _ => br_f n9 p252) (fun _ => p252)) (fun _ => p252)
          · refine br_f (ne 10 (by decide) c10) ?_
            by_cases c5 : 5 ≤ kd i
            · refine br_f (nI_ge (a := 4) (by omega) (by omega)) ?_
              have hset : ya_set (kd i) := by unfold ya_set; omega
              have heo : ya_eo (kd i) = false := by
                show (decide (kd i ≤ 2) || decide (kd i = 4) || decide (kd i = 9) || decide (kd i = 10)) = false
                rw [decide_eq_false (show ¬ kd i ≤ 2 by omega), decide_eq_false c4, decide_eq_false c9, decide_eq_false c10]; rfl
              have p317 : ∀ l, 1 ≤ l → l < 10 → wY_pass_317 post (wY_pass_16 post (r + 1)) (nI i) (nI (kd i)) (nI l) (nI cnt) f_place (nI o) (nI (ya_bin os o + 1)) (ft) (fa) f_dry (m) (fi_m g) a_there a_kind a_num (ao) (aa) (pw) a_table := by
                intro l hl hl2
                unfold wY_pass_317
                refine ⟨o + 1, yc_down (os := os) l hl hl2 rfl o g g0 m pw ft fa (by omega) hos (by omega) inv pl (fun o' g' m' pw' ft' fa' h1 h2 h3 h4 h5 h6 => ?_)⟩
                refine yc_push o' (by omega) (nm_r (nI_1 i) ?_)
                have hb2 := ya_pu_b os o' (kd i) o' (Nat.le_refl _)
                refine ih (i + 1) true false 1 0 (ya_pu os o' (kd i)) (o' + 1) (ya_bin os o' + 1) g' ft' fa' m' pw' _ _ (by omega) ?_ rfl (fun _ => ⟨fun _ => rfl, fun _ => rfl⟩) (by omega) (ya_pu_os (fun j hj => hos j (by omega)) hset) ?_ h5 h6
                · rw [← hres, ya_sc_t (by show (decide (5 ≤ kd i) || _) = true; rw [decide_eq_true c5]; rfl), heo, if_neg (by omega), if_neg c4, ya_dep_n (by rw [ya_pu_o]; omega), hb2.2, h3, decide_eq_false (show ¬ kd i = 3 by omega)]; rfl
                · rw [ya_bin_1 (by rw [ya_pu_o]; omega) (by rw [ya_pu_o]; omega), hb2.1]; rfl
              by_cases c11 : kd i = 11
              · exact br_t (by rw [c11]; rfl) (p317 4 (by omega) (by omega))
              · refine br_f (ne 11 (by decide) c11) ?_
                by_cases c6 : kd i ≤ 6
                · exact br_t (nI_le (b := 6) c6 (by decide)) (p317 1 (by omega) (by omega))
                · exact br_f (nI_ge (a := 6) (by omega) (by omega)) (p317 3 (by omega) (by omega))
            · refine br_t (nI_le (b := 4) (by omega) (by decide)) (stop ?_ g _ _ _ _ _ _ _ _ pl)
              show (decide (5 ≤ kd i) || (decide (kd i = 4) && decide (0 < ya_dep os o))) = false
              rw [decide_eq_false c5, decide_eq_false c4]; rfl
end
