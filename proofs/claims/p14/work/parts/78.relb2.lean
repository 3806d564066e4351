/-! The strong relation: token, wipe, place, store, clear answer alike and keep it -/
theorem ab_5 : (5 : Int32).toInt = 5 := by decide
theorem ab_6 : (6 : Int32).toInt = 6 := by decide
theorem ab_m8 : (-8 : Int32).toInt = -8 := by decide
theorem ab_56 {a : Int32} : a < 6 ↔ ¬ 5 < a := by
  rw [Int32.not_lt, Int32.lt_iff_toInt_lt, Int32.le_iff_toInt_le, ab_5, ab_6]; omega
theorem ab_88 {a : Int32} : a ≤ 8 ↔ ¬ 8 < a := by rw [Int32.not_lt]
theorem ab_pw {a : Int32} (h1 : ¬ a < -8) (h2 : ¬ 8 < a) : ∃ q, q ≤ 8 ∧ (a = nI q ∨ (a = -nI q ∧ 1 ≤ q)) := by
  have e8 : (8 : Int32).toInt = 8 := by decide
  rw [Int32.not_lt, Int32.le_iff_toInt_le, ab_m8] at h1
  rw [Int32.not_lt, Int32.le_iff_toInt_le, e8] at h2
  by_cases c : 0 ≤ a.toInt
  · refine ⟨a.toInt.toNat, by omega, Or.inl ?_⟩
    apply Int32.toInt_inj.mp
    rw [nI_toInt (by omega)]; omega
  · refine ⟨(-a.toInt).toNat, by omega, Or.inr ⟨?_, by omega⟩⟩
    apply Int32.toInt_inj.mp
    rw [Int32.toInt_neg, nI_toInt (by omega)]
    rw [Int.bmod_eq_of_le (by omega) (by omega)]; omega
theorem ab_k {a : Int32} (h1 : ¬ a < 0) (h2 : ¬ 11 < a) : ∃ k, k ≤ 11 ∧ a = nI k := by
  obtain ⟨k, hk, rfl⟩ := nI_of h1
  exact ⟨k, (nI_leI (b := 11) hk (by decide)).mp (Int32.not_lt.mp h2), rfl⟩
theorem ab_tk {ak an : Nat → Int32} {cnt k : Nat} {kd : Nat → Nat} {x : Int32} (h : ya_tk ak an cnt kd) (hk : k ≤ 11) (h2 : k = 2 → ∃ n, n < 6 ∧ x = nI n) (h9 : k = 9 → ∃ q, q ≤ 8 ∧ (x = nI q ∨ (x = -nI q ∧ 1 ≤ q))) :
    ya_tk (upd ak cnt (nI k)) (upd an cnt x) (cnt + 1) (fun j => if j = cnt then k else kd j) := by
  intro j hj
  by_cases c : j = cnt
  · subst c
    dsimp only
    rw [if_pos rfl, pk_us, pk_us]
    exact ⟨rfl, hk, h2, h9⟩
  · dsimp only
    rw [if_neg c, pk_un c, pk_un c]
    exact h j (by omega)
theorem bb_token {u : SX} {v : SY} {v1 v2 : Int32} {Q : Int32 → Int32 → SX → SY → Prop} (I : bb_R u v) (h : ∀ r u' v', bb_R u' v' → Q r r u' v') : wpX_token (fun r u' => wpY_token (fun r' v' => Q r r' u' v') v v1 v2) u v1 v2 := by
  obtain ⟨f_tokenCount, f_latestPlace, f_stepCount, f_waitingCount, f_stackCount, f_factorCount, a_tokenKind, a_tokenContent, a_stepKind, a_stepToken, a_waitingKind, a_waitingToken, a_present, a_cells, a_leftTop, a_leftBottom, a_rightTop, a_rightBottom, a_top, a_bottom, a_product, a_quotient, a_common, a_spare, a_rest, a_divisor, a_inverse, a_numerator, a_factorDegrees, a_factorPowers, a_factorCells⟩ := u
  obtain ⟨f_count, f_place, f_opens, f_top, f_fault, f_faultAt, f_dry, f_found, a_c, a_there, a_kind, a_num, a_open, a_openAt, a_power, a_table⟩ := v
  have I0 := I
  obtain ⟨cnt, g, T, kd, cn, pv, hc, e1, e2, e3, e4, tt, tk, p9, hb, eb, ep, hP⟩ := I
  dsimp only at e1 e2 e3 e4 tt tk hb eb ep hP
  subst e1 e2 e3 e4 ep
  unfold wpX_token wpY_token
  dsimp only
  by_cases h0 : v1 < 0
  · exact br_t h0 (br_t h0 (h _ _ _ I0))
  by_cases h11 : 11 < v1
  · exact br_f h0 (br_t h11 (br_f h0 (br_t h11 (h _ _ _ I0))))
  refine br_f h0 (br_f h11 ?_)
  obtain ⟨k, hk, rfl⟩ := ab_k h0 h11
  by_cases c24 : cnt < 24
  · have hin : vp_in (nI cnt) 24 := vp_in_nI c24 (by omega)
    have h24 : ¬ nI cnt = 24 := fun z => absurd ((nI_eq (b := 24) (by omega) (by omega)).mp z) (by omega)
    have fin : (k = 2 → ∃ n, n < 6 ∧ v2 = nI n) → (k = 9 → ∃ q, q ≤ 8 ∧ (v2 = nI q ∨ (v2 = -nI q ∧ 1 ≤ q))) →
        bb_R (nI cnt + 1, f_latestPlace, f_stepCount, f_waitingCount, f_stackCount, f_factorCount, upd a_tokenKind (nI cnt).toNatClampNeg (nI k), upd a_tokenContent (nI cnt).toNatClampNeg v2, a_stepKind, a_stepToken, a_waitingKind, a_waitingToken, a_present, a_cells, a_leftTop, a_leftBottom, a_rightTop, a_rightBottom, a_top, a_bottom, a_product, a_quotient, a_common, a_spare, a_rest, a_divisor, a_inverse, a_numerator, a_factorDegrees, a_factorPowers, a_factorCells) (nI cnt + 1, f_latestPlace, f_opens, f_top, f_fault, f_faultAt, f_dry, f_found, fi_m g, a_there, upd a_kind (nI cnt).toNatClampNeg (nI k), upd a_num (nI cnt).toNatClampNeg v2, a_open, a_openAt, a_power, fi_m T) := by
      intro a2 a9
      refine ⟨cnt + 1, g, T, (fun j => if j = cnt then k else kd j), (fun j => if j = cnt then v2 else cn j), pv, by omega, nI_1 cnt, nI_1 cnt, rfl, rfl, fun j hj => ?_, ?_, p9, hb, eb, rfl, hP⟩
      · dsimp only
        rw [nI_clamp (by omega)]
        by_cases c : j = cnt
        · rw [if_pos c, if_pos c, c, pk_us, pk_us, pk_us]; exact ⟨rfl, rfl, rfl⟩
        · rw [if_neg c, if_neg c, pk_un c, pk_un c, pk_un c]; exact tt j (by omega)
      · dsimp only
        rw [nI_clamp (by omega)]
        exact ab_tk tk hk a2 a9
    refine br_t (nI_lt (b := 24) c24 (by decide)) ?_
    by_cases h2 : nI k = 2
    · have k2 : k = 2 := (nI_eq (b := 2) (by omega) (by omega)).mp h2
      by_cases n0 : v2 < 0
      · exact br_t h2 (br_t n0 (br_f h0 (br_f h11 (br_t h2 (br_t n0 (h _ _ _ I0))))))
      · by_cases n5 : 5 < v2
        · exact br_t h2 (br_f n0 (br_f (fun z => ab_56.mp z n5) (br_f h0 (br_f h11 (br_t h2 (br_f n0 (br_t n5 (h _ _ _ I0))))))))
        · have h9 : ¬ nI k = 9 := by rw [h2]; decide
          have hv : ∃ n, n < 6 ∧ v2 = nI n := by
            obtain ⟨n, hn, e⟩ := nI_of n0
            refine ⟨n, ?_, e⟩
            rw [e] at n5
            have := (nI_leI (b := 5) hn (by decide)).mp (Int32.not_lt.mp n5)
            omega
          refine br_t h2 (br_f n0 (br_t (ab_56.mpr n5) (br_f h9 ⟨hin, nm_e ⟨hin, nm_e (nm_e ?_)⟩⟩)))
          exact br_f h0 (br_f h11 (br_t h2 (br_f n0 (br_f n5 (br_f h9 (br_f h24 ⟨hin, nm_e ⟨hin, nm_e (nm_e (h _ _ _ (fin (fun _ => hv) (fun z => by omega))))⟩⟩))))))
    · have nk2 : k ≠ 2 := fun z => h2 (by rw [z]; rfl)
      by_cases h9 : nI k = 9
      · by_cases m8 : v2 < -8
        · exact br_f h2 (br_t h9 (br_t m8 (br_f h0 (br_f h11 (br_f h2 (br_t h9 (br_t m8 (h _ _ _ I0))))))))
        · by_cases p8 : 8 < v2
          · exact br_f h2 (br_t h9 (br_f m8 (br_f (fun z => ab_88.mp z p8) (br_f h0 (br_f h11 (br_f h2 (br_t h9 (br_f m8 (br_t p8 (h _ _ _ I0))))))))))
          · refine br_f h2 (br_t h9 (br_f m8 (br_t (ab_88.mpr p8) ⟨hin, nm_e ⟨hin, nm_e (nm_e ?_)⟩⟩)))
            exact br_f h0 (br_f h11 (br_f h2 (br_t h9 (br_f m8 (br_f p8 (br_f h24 ⟨hin, nm_e ⟨hin, nm_e (nm_e (h _ _ _ (fin (fun z => absurd z nk2) (fun _ => ab_pw m8 p8))))⟩⟩))))))
      · have nk9 : k ≠ 9 := fun z => h9 (by rw [z]; rfl)
        refine br_f h2 (br_f h9 ⟨hin, nm_e ⟨hin, nm_e (nm_e ?_)⟩⟩)
        exact br_f h0 (br_f h11 (br_f h2 (br_f h9 (br_f h24 ⟨hin, nm_e ⟨hin, nm_e (nm_e (h _ _ _ (fin (fun z => absurd z nk2) (fun z => absurd z nk9))))⟩⟩))))
  · have e24 : cnt = 24 := by omega
    have h24 : nI cnt = 24 := by rw [e24]; rfl
    refine br_f (nI_nlt (b := 24) (by omega) (by omega)) (br_f h0 (br_f h11 ?_))
    have y42 : wY_token_42 (fun r' v' => Q 0 r' (nI cnt, f_latestPlace, f_stepCount, f_waitingCount, f_stackCount, f_factorCount, a_tokenKind, a_tokenContent, a_stepKind, a_stepToken, a_waitingKind, a_waitingToken, a_present, a_cells, a_leftTop, a_leftBottom, a_rightTop, a_rightBottom, a_top, a_bottom, a_product, a_quotient, a_common, a_spare, a_rest, a_divisor, a_inverse, a_numerator, a_factorDegrees, a_factorPowers, a_factorCells) v') (nI k) v2 (nI cnt) (f_latestPlace) f_opens f_top f_fault f_faultAt f_dry f_found (fi_m g) a_there a_kind a_num a_open a_openAt a_power (fi_m T) := br_t h24 (h _ _ _ I0)
    have y24 : wY_token_24 (fun r' v' => Q 0 r' (nI cnt, f_latestPlace, f_stepCount, f_waitingCount, f_stackCount, f_factorCount, a_tokenKind, a_tokenContent, a_stepKind, a_stepToken, a_waitingKind, a_waitingToken, a_present, a_cells, a_leftTop, a_leftBottom, a_rightTop, a_rightBottom, a_top, a_bottom, a_product, a_quotient, a_common, a_spare, a_rest, a_divisor, a_inverse, a_numerator, a_factorDegrees, a_factorPowers, a_factorCells) v') (nI k) v2 (nI cnt) (f_latestPlace) f_opens f_top f_fault f_faultAt f_dry f_found (fi_m g) a_there a_kind a_num a_open a_openAt a_power (fi_m T) := br_c (fun _ => br_c (fun _ => h _ _ _ I0) (fun _ => br_c (fun _ => h _ _ _ I0) (fun _ => y42))) (fun _ => y42)
    exact br_c (fun _ => br_c (fun _ => h _ _ _ I0) (fun _ => br_c (fun _ => h _ _ _ I0) (fun _ => y24))) (fun _ => y24)
theorem bb_wipe {u : SX} {v : SY} {Q : Int32 → Int32 → SX → SY → Prop} (I : bb_R u v) (h : ∀ r u' v', bb_R u' v' → Q r r u' v') : wpX_wipe (fun r u' => wpY_wipe (fun r' v' => Q r r' u' v') v) u := by
  obtain ⟨f_tokenCount, f_latestPlace, f_stepCount, f_waitingCount, f_stackCount, f_factorCount, a_tokenKind, a_tokenContent, a_stepKind, a_stepToken, a_waitingKind, a_waitingToken, a_present, a_cells, a_leftTop, a_leftBottom, a_rightTop, a_rightBottom, a_top, a_bottom, a_product, a_quotient, a_common, a_spare, a_rest, a_divisor, a_inverse, a_numerator, a_factorDegrees, a_factorPowers, a_factorCells⟩ := u
  obtain ⟨f_count, f_place, f_opens, f_top, f_fault, f_faultAt, f_dry, f_found, a_c, a_there, a_kind, a_num, a_open, a_openAt, a_power, a_table⟩ := v
  obtain ⟨cnt, g, T, kd, cn, pv, hc, e1, e2, e3, e4, tt, tk, p9, hb, eb, ep, hP⟩ := I
  dsimp only at e1 e2 e3 e4 tt tk hb eb ep hP
  subst e1 e2 e3 e4 ep
  unfold wpX_wipe wpY_wipe
  exact h _ _ _ ⟨0, g, T, kd, cn, pv, by omega, rfl, rfl, rfl, rfl, fun j hj => by omega, fun j hj => by omega, p9, hb, eb, rfl, hP⟩
theorem bb_place {u : SX} {v : SY} {Q : Int32 → Int32 → Prop} (I : bb_R u v) (h : ∀ r, Q r r) : wpX_place (fun r => wpY_place (fun r' => Q r r') v) u := by
  obtain ⟨f_tokenCount, f_latestPlace, f_stepCount, f_waitingCount, f_stackCount, f_factorCount, a_tokenKind, a_tokenContent, a_stepKind, a_stepToken, a_waitingKind, a_waitingToken, a_present, a_cells, a_leftTop, a_leftBottom, a_rightTop, a_rightBottom, a_top, a_bottom, a_product, a_quotient, a_common, a_spare, a_rest, a_divisor, a_inverse, a_numerator, a_factorDegrees, a_factorPowers, a_factorCells⟩ := u
  obtain ⟨f_count, f_place, f_opens, f_top, f_fault, f_faultAt, f_dry, f_found, a_c, a_there, a_kind, a_num, a_open, a_openAt, a_power, a_table⟩ := v
  obtain ⟨cnt, g, T, kd, cn, pv, hc, e1, e2, e3, e4, tt, tk, p9, hb, eb, ep, hP⟩ := I
  dsimp only at e1 e2 e3 e4 tt tk hb eb ep hP
  subst e1 e2 e3 e4 ep
  exact h _
section
variable {f_tokenCount f_latestPlace f_stepCount f_waitingCount f_stackCount f_factorCount : Int32} {a_tokenKind a_tokenContent a_stepKind a_stepToken a_waitingKind a_waitingToken a_present a_cells a_leftTop a_leftBottom a_rightTop a_rightBottom a_top a_bottom a_product a_quotient a_common a_spare a_rest a_divisor a_inverse a_numerator a_factorDegrees a_factorPowers a_factorCells : Nat → Int32}
theorem xb_copySlot {post : SX → Prop} {p1 : Int32} (b : Nat) (hb : b < 6) (h : ∀ cl : Nat → Int32, (∀ k, k < 18 → cl (b * 18 + k) = a_cells (6 * 18 + k)) → (∀ i, i < b * 18 ∨ b * 18 + 18 ≤ i → cl i = a_cells i) → post (f_tokenCount, f_latestPlace, f_stepCount, f_waitingCount, f_stackCount, f_factorCount, a_tokenKind, a_tokenContent, a_stepKind, a_stepToken, a_waitingKind, a_waitingToken, a_present, cl, a_leftTop, a_leftBottom, a_rightTop, a_rightBottom, a_top, a_bottom, a_product, a_quotient, a_common, a_spare, a_rest, a_divisor, a_inverse, a_numerator, a_factorDegrees, a_factorPowers, a_factorCells)) (eb : p1 = nI b := by rfl) : wpX_copySlot post (f_tokenCount, f_latestPlace, f_stepCount, f_waitingCount, f_stackCount, f_factorCount, a_tokenKind, a_tokenContent, a_stepKind, a_stepToken, a_waitingKind, a_waitingToken, a_present, a_cells, a_leftTop, a_leftBottom, a_rightTop, a_rightBottom, a_top, a_bottom, a_product, a_quotient, a_common, a_spare, a_rest, a_divisor, a_inverse, a_numerator, a_factorDegrees, a_factorPowers, a_factorCells) 6 p1 := by
  subst eb
  have key : ∀ d j, ∀ cl2 : Nat → Int32, j + d = 18 → (∀ k, k < j → cl2 (b * 18 + k) = a_cells (6 * 18 + k)) → (∀ i, i < b * 18 ∨ b * 18 + 18 ≤ i → cl2 i = a_cells i) → wX_copySlot_6 post 6 (nI b) 18 f_tokenCount f_latestPlace f_stepCount f_waitingCount f_stackCount f_factorCount (d + 1) (nI j) a_tokenKind a_tokenContent a_stepKind a_stepToken a_waitingKind a_waitingToken a_present (cl2) a_leftTop a_leftBottom a_rightTop a_rightBottom a_top a_bottom a_product a_quotient a_common a_spare a_rest a_divisor a_inverse a_numerator a_factorDegrees a_factorPowers a_factorCells := by
    intro d
    induction d with
    | zero =>
      intro j cl2 hj k1 k2
      obtain rfl : j = 18 := by omega
      exact br_t (by decide) (h cl2 k1 k2)
    | succ d ih2 =>
      intro j cl2 hj k1 k2
      have i6 : (6 : Int32) * 18 + nI j = nI (6 * 18 + j) := nI_add (6 * 18) j
      have ib0 : nI b * 18 = nI (b * 18) := pk_mul b 18
      have ib : nI b * 18 + nI j = nI (b * 18 + j) := by rw [ib0, nI_add]
      refine br_f (nI_ge (b := 18) (by omega) (by decide)) ⟨pk_in (6 * 18 + j) 558 (by omega) i6, pk_in (b * 18 + j) 558 (by omega) ib, nm_e (nm_r (nI_1 j) (ih2 (j + 1) _ (by omega) (fun k hk => ?_) (fun i hi => ?_)))⟩
      · rw [i6, ib, nI_clamp (by omega), nI_clamp (by omega)]
        by_cases c : k = j
        · subst c; rw [pk_us, k2 _ (by omega)]
        · rw [pk_un (by omega)]; exact k1 k (by omega)
      · rw [ib, nI_clamp (by omega), pk_un (by omega)]; exact k2 i hi
  exact ⟨19, key 18 0 a_cells rfl (fun k hk => by omega) (fun _ _ => rfl)⟩
end
theorem bb_store {u : SX} {v : SY} {v1 : Int32} {Q : Int32 → Int32 → SX → SY → Prop} (I : bb_R u v) (h : ∀ r u' v', bb_R u' v' → Q r r u' v') : wpX_store (fun r u' => wpY_store (fun r' v' => Q r r' u' v') v v1) u v1 := by
  obtain ⟨f_tokenCount, f_latestPlace, f_stepCount, f_waitingCount, f_stackCount, f_factorCount, a_tokenKind, a_tokenContent, a_stepKind, a_stepToken, a_waitingKind, a_waitingToken, a_present, a_cells, a_leftTop, a_leftBottom, a_rightTop, a_rightBottom, a_top, a_bottom, a_product, a_quotient, a_common, a_spare, a_rest, a_divisor, a_inverse, a_numerator, a_factorDegrees, a_factorPowers, a_factorCells⟩ := u
  obtain ⟨f_count, f_place, f_opens, f_top, f_fault, f_faultAt, f_dry, f_found, a_c, a_there, a_kind, a_num, a_open, a_openAt, a_power, a_table⟩ := v
  have I0 := I
  obtain ⟨cnt, g, T, kd, cn, pv, hc, e1, e2, e3, e4, tt, tk, p9, hb, eb, ep, hP⟩ := I
  dsimp only at e1 e2 e3 e4 tt tk hb eb ep hP
  subst e1 e2 e3 e4 ep
  unfold wpX_store wpY_store
  dsimp only
  by_cases c0 : v1 < 0
  · exact br_t c0 (br_t c0 (h _ _ _ I0))
  by_cases c5 : 5 < v1
  · have c6 : (6 : Int32) ≤ v1 := by
      rw [← Int32.not_lt]
      exact fun z => ab_56.mp z c5
    exact br_f c0 (br_t c6 (br_f c0 (br_t c5 (h _ _ _ I0))))
  have c6 : ¬ (6 : Int32) ≤ v1 := by
    rw [Int32.not_le]; exact ab_56.mpr c5
  refine br_f c0 (br_f c6 ?_)
  obtain ⟨n, hn, rfl⟩ := nI_of c0
  have hn6 : n < 6 := by
    by_cases c : n < 6
    · exact c
    · exact absurd (nI_le (a := 6) (by omega) hn) c6
  rcases hP 6 (by omega) with ⟨a, b⟩ | ⟨w, a, b, d, e, f, o⟩
  · exact br_t b (br_f c0 (br_f c5 (br_t (by rw [← eb 6 (by omega)]; exact b) (h _ _ _ I0))))
  · refine br_f b (xb_copySlot n hn6 (fun cl k1 k2 => ⟨vp_in_nI (by omega) (by omega), nm_e (br_f c0 (br_f c5 (br_f (by rw [← eb 6 (by omega)]; exact b) ?_)))⟩))
    have e52 : (52 : Int32) + 2 * nI n = nI (52 + 2 * n) := by rw [fi_2]; exact nI_add 52 (2 * n)
    have e53 : (53 : Int32) + 2 * nI n = nI (53 + 2 * n) := by rw [fi_2]; exact nI_add 53 (2 * n)
    refine yc_copy 64 (52 + 2 * n) (by omega) (by omega) ?_ rfl e52
    refine yc_copy 65 (53 + 2 * n) (by omega) (by omega) ⟨vp_in_nI (by omega) (by omega), nm_e (h _ _ _ ?_)⟩ rfl e53
    rw [nI_clamp (by omega)]
    generalize eg : fi_p (fi_p g (52 + 2 * n) (fi_s g 64)) (53 + 2 * n) (fi_s (fi_p g (52 + 2 * n) (fi_s g 64)) 65) = g'
    have f0 : fi_s g' (52 + 2 * n) = w.1 := by rw [← eg, fi_sq (by omega), fi_sp (fi_s_ln _ _)]; exact e
    have f1 : fi_s g' (53 + 2 * n) = w.2 := by rw [← eg, fi_sp (fi_s_ln _ _), fi_sq (by omega)]; exact f
    have fo : ∀ s, s ≠ 52 + 2 * n → s ≠ 53 + 2 * n → fi_s g' s = fi_s g s := fun s x y => by rw [← eg, fi_sq y, fi_sq x]
    refine ⟨cnt, g', T, kd, cn, (fun j => if j = n then some w else pv j), hc, rfl, rfl, rfl, rfl, tt, tk, fun s x y => ?_, xw_b1 hb n, fun j hj => ?_, rfl, fun j hj => ?_⟩
    · by_cases c1 : s = 52 + 2 * n
      · rw [c1, f0]; exact o.1
      · by_cases c2 : s = 53 + 2 * n
        · rw [c2, f1]; exact o.2.1
        · rw [fo s c1 c2]; exact p9 s x y
    · show upd a_present n _ j = upd a_there n _ j
      by_cases c : j = n
      · subst c; rw [pk_us, pk_us]
      · rw [pk_un c, pk_un c]; exact eb j hj
    · show ((if j = n then some w else pv j) = none ∧ upd a_present n (vp_nar .boolean 1) j = 0) ∨ ∃ w', (if j = n then some w else pv j) = some w' ∧ upd a_present n (vp_nar .boolean 1) j ≠ 0 ∧ xs_pair cl j w' ∧ fi_s g' (52 + 2 * j) = w'.1 ∧ fi_s g' (53 + 2 * j) = w'.2 ∧ pr_ok w'
      by_cases c : j = n
      · subst c
        refine Or.inr ⟨w, if_pos rfl, ?_, ⟨fun k hk => ?_, fun k hk => ?_⟩, f0, f1, o⟩
        · rw [pk_us]
          show ¬ (1 : Int32) = 0
          decide
        · have t := k1 k (by omega)
          have x1 : (j * 2 + 0) * 9 + k = j * 18 + k := by omega
          have x2 : (6 * 2 + 0) * 9 + k = 6 * 18 + k := by omega
          rw [x1, t, ← x2]; exact d.1 k hk
        · have t := k1 (9 + k) (by omega)
          have x1 : (j * 2 + 1) * 9 + k = j * 18 + (9 + k) := by omega
          have x2 : (6 * 2 + 1) * 9 + k = 6 * 18 + (9 + k) := by omega
          rw [x1, t, ← x2]; exact d.2 k hk
      · rw [if_neg c, pk_un c]
        rcases hP j hj with ⟨x, y⟩ | ⟨w', x, y, z, t1, t2, o'⟩
        · exact Or.inl ⟨x, y⟩
        · exact Or.inr ⟨w', x, y, ⟨fun k hk => by rw [k2 _ (by omega)]; exact z.1 k hk, fun k hk => by rw [k2 _ (by omega)]; exact z.2 k hk⟩, by rw [fo _ (by omega) (by omega)]; exact t1, by rw [fo _ (by omega) (by omega)]; exact t2, o'⟩
theorem bb_clear {u : SX} {v : SY} {v1 : Int32} {Q : Int32 → Int32 → SX → SY → Prop} (I : bb_R u v) (h : ∀ r u' v', bb_R u' v' → Q r r u' v') : wpX_clear (fun r u' => wpY_clear (fun r' v' => Q r r' u' v') v v1) u v1 := by
  obtain ⟨f_tokenCount, f_latestPlace, f_stepCount, f_waitingCount, f_stackCount, f_factorCount, a_tokenKind, a_tokenContent, a_stepKind, a_stepToken, a_waitingKind, a_waitingToken, a_present, a_cells, a_leftTop, a_leftBottom, a_rightTop, a_rightBottom, a_top, a_bottom, a_product, a_quotient, a_common, a_spare, a_rest, a_divisor, a_inverse, a_numerator, a_factorDegrees, a_factorPowers, a_factorCells⟩ := u
  obtain ⟨f_count, f_place, f_opens, f_top, f_fault, f_faultAt, f_dry, f_found, a_c, a_there, a_kind, a_num, a_open, a_openAt, a_power, a_table⟩ := v
  have I0 := I
  obtain ⟨cnt, g, T, kd, cn, pv, hc, e1, e2, e3, e4, tt, tk, p9, hb, eb, ep, hP⟩ := I
  dsimp only at e1 e2 e3 e4 tt tk hb eb ep hP
  subst e1 e2 e3 e4 ep
  unfold wpX_clear wpY_clear
  dsimp only
  by_cases c0 : v1 < 0
  · exact br_t c0 (br_t c0 (h _ _ _ I0))
  by_cases c5 : 5 < v1
  · exact br_f c0 (br_f (fun z => ab_56.mp z c5) (br_f c0 (br_t c5 (h _ _ _ I0))))
  obtain ⟨n, hn, rfl⟩ := nI_of c0
  have hn6 : n < 6 := (nI_ltI (b := 6) hn (by decide)).mp (ab_56.mpr c5)
  have i7 : vp_in (nI n) 7 := vp_in_nI (by omega) (by omega)
  refine br_f c0 (br_t (ab_56.mpr c5) ⟨i7, nm_e ⟨i7, nm_e ?_⟩⟩)
  rw [nI_clamp (by omega)]
  have rel : ∀ th : Nat → Int32, (∀ j, j < 7 → upd a_present n (vp_nar .boolean 0) j = th j) → bb_R (nI cnt, f_latestPlace, f_stepCount, f_waitingCount, f_stackCount, f_factorCount, a_tokenKind, a_tokenContent, a_stepKind, a_stepToken, a_waitingKind, a_waitingToken, upd a_present n (vp_nar .boolean 0), a_cells, a_leftTop, a_leftBottom, a_rightTop, a_rightBottom, a_top, a_bottom, a_product, a_quotient, a_common, a_spare, a_rest, a_divisor, a_inverse, a_numerator, a_factorDegrees, a_factorPowers, a_factorCells) (nI cnt, f_latestPlace, f_opens, f_top, f_fault, f_faultAt, f_dry, f_found, fi_m g, th, a_kind, a_num, a_open, a_openAt, a_power, fi_m T) := by
    intro th eth
    refine ⟨cnt, g, T, kd, cn, (fun j => if j = n then none else pv j), hc, rfl, rfl, rfl, rfl, tt, tk, p9, xw_b0 hb n, eth, rfl, fun j hj => ?_⟩
    show ((if j = n then none else pv j) = none ∧ upd a_present n (vp_nar .boolean 0) j = 0) ∨ ∃ w', (if j = n then none else pv j) = some w' ∧ upd a_present n (vp_nar .boolean 0) j ≠ 0 ∧ xs_pair a_cells j w' ∧ fi_s g (52 + 2 * j) = w'.1 ∧ fi_s g (53 + 2 * j) = w'.2 ∧ pr_ok w'
    by_cases c : j = n
    · subst c; exact Or.inl ⟨if_pos rfl, by rw [pk_us]; rfl⟩
    · rw [if_neg c, pk_un c]; exact hP j hj
  rcases hb n with e | e
  · rw [e]
    refine ⟨rfl, br_f c0 (br_f c5 ⟨i7, br_t (by rw [← eb n (by omega)]; exact e) (h _ _ _ (rel a_there (fun j hj => ?_)))⟩)⟩
    by_cases c : j = n
    · subst c
      rw [pk_us, ← eb j hj, e]; rfl
    · rw [pk_un c]; exact eb j hj
  · rw [e]
    refine ⟨rfl, br_f c0 (br_f c5 ⟨i7, br_f (by rw [← eb n (by omega), e]; decide) ⟨i7, nm_e (h _ _ _ (rel _ (fun j hj => ?_)))⟩⟩)⟩
    by_cases c : j = n
    · subst c; rw [pk_us, pk_us]
    · rw [pk_un c, pk_un c]; exact eb j hj
