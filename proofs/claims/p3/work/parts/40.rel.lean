/-! The relation of the two sides: the same number of tokens; the reference's tokens are valid and its places small -/
def ab_R (u : SX) (v : SY) : Prop := ∃ (cnt : Nat) (g T : Nat → Fin 5) (kd : Nat → Nat), cnt ≤ 24 ∧ u.1 = nI cnt ∧ v.1 = nI cnt ∧ v.2.2.2.2.2.2.2.2.1 = fi_m g ∧ v.2.2.2.2.2.2.2.2.2.2.2.2.2.2.2 = fi_m T ∧
  ya_tk v.2.2.2.2.2.2.2.2.2.2.1 v.2.2.2.2.2.2.2.2.2.2.2.1 cnt kd ∧ ya_9 g ∧ xw_b u.2.2.2.2.2.2.2.2.2.2.2.2.1
theorem ab_0 : wpX_init (fun u => wpY_init (fun v => ab_R u v)) := by
  refine ⟨0, fun _ => 0, fun _ => 0, fun _ => 0, by omega, rfl, rfl, rfl, rfl, fun j hj => by omega, fun s _ _ k _ => ?_, fun _ => Or.inl rfl⟩
  show (if k < 20 then 0 else 0) = (0 : Fin 5)
  rw [ite_self]
theorem ab_5 : (5 : Int32).toInt = 5 := by decide
theorem ab_6 : (6 : Int32).toInt = 6 := by decide
theorem ab_m8 : (-8 : Int32).toInt = -8 := by decide
theorem ab_56 {a : Int32} : a < 6 ↔ ¬ 5 < a := by
  rw [Int32.not_lt, Int32.lt_iff_toInt_lt, Int32.le_iff_toInt_le, ab_5, ab_6]; omega
theorem ab_88 {a : Int32} : a ≤ 8 ↔ ¬ 8 < a := by rw [Int32.not_lt]
theorem ab_pw {a : Int32} (h1 : ¬ a < -8) (h2 : ¬ 8 < a) : ∃ q, q ≤ 8 ∧ (a = nI q ∨ (a = -nI q ∧ 1 ≤ q)) := by
  have e8 : (8 : Int32).toInt = 8 := by decide
  rw [Int32.not_lt, Int32.le_iff_toInt_le, ab_m8] at h1
  rw [Int32.not_lt, Int32.le_iff_toInt_le, e8] at h2
  by_cases c : 0 ≤ a.toInt
  · refine ⟨a.toInt.toNat, by omega, Or.inl ?_⟩
    apply Int32.toInt_inj.mp
    rw [nI_toInt (by omega)]; omega
  · refine ⟨(-a.toInt).toNat, by omega, Or.inr ⟨?_, by omega⟩⟩
    apply Int32.toInt_inj.mp
    rw [Int32.toInt_neg, nI_toInt (by omega)]
    rw [Int.bmod_eq_of_le (by omega) (by omega)]; omega
theorem ab_k {a : Int32} (h1 : ¬ a < 0) (h2 : ¬ 11 < a) : ∃ k, k ≤ 11 ∧ a = nI k := by
  obtain ⟨k, hk, rfl⟩ := nI_of h1
  exact ⟨k, (nI_leI (b := 11) hk (by decide)).mp (Int32.not_lt.mp h2), rfl⟩
theorem ab_tk {ak an : Nat → Int32} {cnt k : Nat} {kd : Nat → Nat} {x : Int32} (h : ya_tk ak an cnt kd) (hk : k ≤ 11) (h2 : k = 2 → ∃ n, n < 6 ∧ x = nI n) (h9 : k = 9 → ∃ q, q ≤ 8 ∧ (x = nI q ∨ (x = -nI q ∧ 1 ≤ q))) :
    ya_tk (upd ak cnt (nI k)) (upd an cnt x) (cnt + 1) (fun j => if j = cnt then k else kd j) := by
  intro j hj
  by_cases c : j = cnt
  · subst c
    dsimp only
    rw [if_pos rfl, pk_us, pk_us]
    exact ⟨rfl, hk, h2, h9⟩
  · dsimp only
    rw [if_neg c, pk_un c, pk_un c]
    exact h j (by omega)
theorem ab_token {u : SX} {v : SY} {v1 v2 : Int32} {Q : Int32 → Int32 → SX → SY → Prop} (I : ab_R u v) (h : ∀ r u' v', ab_R u' v' → Q r r u' v') : wpX_token (fun r u' => wpY_token (fun r' v' => Q r r' u' v') v v1 v2) u v1 v2 := by
  obtain ⟨f_tokenCount, f_latestPlace, f_stepCount, f_waitingCount, f_stackCount, f_factorCount, a_tokenKind, a_tokenContent, a_stepKind, a_stepToken, a_waitingKind, a_waitingToken, a_present, a_cells, a_leftTop, a_leftBottom, a_rightTop, a_rightBottom, a_top, a_bottom, a_product, a_quotient, a_common, a_spare, a_rest, a_divisor, a_inverse, a_numerator, a_factorDegrees, a_factorPowers, a_factorCells⟩ := u
  obtain ⟨f_count, f_place, f_opens, f_top, f_fault, f_faultAt, f_dry, f_found, a_c, a_there, a_kind, a_num, a_open, a_openAt, a_power, a_table⟩ := v
  have I0 := I
  obtain ⟨cnt, g, T, kd, hc, e1, e2, e3, e4, tk, p9, hb⟩ := I
  dsimp only at e1 e2 e3 e4 tk hb
  subst e1 e2 e3 e4
  unfold wpX_token wpY_token
  dsimp only
  by_cases h0 : v1 < 0
  · exact br_t h0 (br_t h0 (h _ _ _ I0))
  by_cases h11 : 11 < v1
  · exact br_f h0 (br_t h11 (br_f h0 (br_t h11 (h _ _ _ I0))))
  refine br_f h0 (br_f h11 ?_)
  obtain ⟨k, hk, rfl⟩ := ab_k h0 h11
  by_cases c24 : cnt < 24
  · have hin : vp_in (nI cnt) 24 := vp_in_nI c24 (by omega)
    have h24 : ¬ nI cnt = 24 := fun z => absurd ((nI_eq (b := 24) (by omega) (by omega)).mp z) (by omega)
    have fin : (k = 2 → ∃ n, n < 6 ∧ v2 = nI n) → (k = 9 → ∃ q, q ≤ 8 ∧ (v2 = nI q ∨ (v2 = -nI q ∧ 1 ≤ q))) →
        ab_R (nI cnt + 1, f_latestPlace, f_stepCount, f_waitingCount, f_stackCount, f_factorCount, upd a_tokenKind (nI cnt).toNatClampNeg (nI k), upd a_tokenContent (nI cnt).toNatClampNeg v2, a_stepKind, a_stepToken, a_waitingKind, a_waitingToken, a_present, a_cells, a_leftTop, a_leftBottom, a_rightTop, a_rightBottom, a_top, a_bottom, a_product, a_quotient, a_common, a_spare, a_rest, a_divisor, a_inverse, a_numerator, a_factorDegrees, a_factorPowers, a_factorCells) (nI cnt + 1, f_place, f_opens, f_top, f_fault, f_faultAt, f_dry, f_found, fi_m g, a_there, upd a_kind (nI cnt).toNatClampNeg (nI k), upd a_num (nI cnt).toNatClampNeg v2, a_open, a_openAt, a_power, fi_m T) := by
      intro a2 a9
      refine ⟨cnt + 1, g, T, (fun j => if j = cnt then k else kd j), by omega, nI_1 cnt, nI_1 cnt, rfl, rfl, ?_, p9, hb⟩
      dsimp only
      rw [nI_clamp (by omega)]
      exact ab_tk tk hk a2 a9
    refine br_t (nI_lt (b := 24) c24 (by decide)) ?_
    by_cases h2 : nI k = 2
    · have k2 : k = 2 := (nI_eq (b := 2) (by omega) (by omega)).mp h2
      by_cases n0 : v2 < 0
      · exact br_t h2 (br_t n0 (br_f h0 (br_f h11 (br_t h2 (br_t n0 (h _ _ _ I0))))))
      · by_cases n5 : 5 < v2
        · exact br_t h2 (br_f n0 (br_f (fun z => ab_56.mp z n5) (br_f h0 (br_f h11 (br_t h2 (br_f n0 (br_t n5 (h _ _ _ I0))))))))
        · have h9 : ¬ nI k = 9 := by rw [h2]; decide
          have hv : ∃ n, n < 6 ∧ v2 = nI n := by
            obtain ⟨n, hn, e⟩ := nI_of n0
            refine ⟨n, ?_, e⟩
            rw [e] at n5
            have := (nI_leI (b := 5) hn (by decide)).mp (Int32.not_lt.mp n5)
            omega
          refine br_t h2 (br_f n0 (br_t (ab_56.mpr n5) (br_f h9 ⟨hin, nm_e ⟨hin, nm_e (nm_e ?_)⟩⟩)))
          exact br_f h0 (br_f h11 (br_t h2 (br_f n0 (br_f n5 (br_f h9 (br_f h24 ⟨hin, nm_e ⟨hin, nm_e (nm_e (h _ _ _ (fin (fun _ => hv) (fun z => by omega))))⟩⟩))))))
    · have nk2 : k ≠ 2 := fun z => h2 (by rw [z]; rfl)
      by_cases h9 : nI k = 9
      · by_cases m8 : v2 < -8
        · exact br_f h2 (br_t h9 (br_t m8 (br_f h0 (br_f h11 (br_f h2 (br_t h9 (br_t m8 (h _ _ _ I0))))))))
        · by_cases p8 : 8 < v2
          · exact br_f h2 (br_t h9 (br_f m8 (br_f (fun z => ab_88.mp z p8) (br_f h0 (br_f h11 (br_f h2 (br_t h9 (br_f m8 (br_t p8 (h _ _ _ I0))))))))))
          · refine br_f h2 (br_t h9 (br_f m8 (br_t (ab_88.mpr p8) ⟨hin, nm_e ⟨hin, nm_e (nm_e ?_)⟩⟩)))
            exact br_f h0 (br_f h11 (br_f h2 (br_t h9 (br_f m8 (br_f p8 (br_f h24 ⟨hin, nm_e ⟨hin, nm_e (nm_e (h _ _ _ (fin (fun z => absurd z nk2) (fun _ => ab_pw m8 p8))))⟩⟩))))))
      · have nk9 : k ≠ 9 := fun z => h9 (by rw [z]; rfl)
        refine br_f h2 (br_f h9 ⟨hin, nm_e ⟨hin, nm_e (nm_e ?_)⟩⟩)
        exact br_f h0 (br_f h11 (br_f h2 (br_f h9 (br_f h24 ⟨hin, nm_e ⟨hin, nm_e (nm_e (h _ _ _ (fin (fun z => absurd z nk2) (fun z => absurd z nk9))))⟩⟩))))
  · have e24 : cnt = 24 := by omega
    have h24 : nI cnt = 24 := by rw [e24]; rfl
    refine br_f (nI_nlt (b := 24) (by omega) (by omega)) (br_f h0 (br_f h11 ?_))
    have y42 : wY_token_42 (fun r' v' => Q 0 r' (nI cnt, f_latestPlace, f_stepCount, f_waitingCount, f_stackCount, f_factorCount, a_tokenKind, a_tokenContent, a_stepKind, a_stepToken, a_waitingKind, a_waitingToken, a_present, a_cells, a_leftTop, a_leftBottom, a_rightTop, a_rightBottom, a_top, a_bottom, a_product, a_quotient, a_common, a_spare, a_rest, a_divisor, a_inverse, a_numerator, a_factorDegrees, a_factorPowers, a_factorCells) v') (nI k) v2 (nI cnt) f_place f_opens f_top f_fault f_faultAt f_dry f_found (fi_m g) a_there a_kind a_num a_open a_openAt a_power (fi_m T) := br_t h24 (h _ _ _ I0)
    have y24 : wY_token_24 (fun r' v' => Q 0 r' (nI cnt, f_latestPlace, f_stepCount, f_waitingCount, f_stackCount, f_factorCount, a_tokenKind, a_tokenContent, a_stepKind, a_stepToken, a_waitingKind, a_waitingToken, a_present, a_cells, a_leftTop, a_leftBottom, a_rightTop, a_rightBottom, a_top, a_bottom, a_product, a_quotient, a_common, a_spare, a_rest, a_divisor, a_inverse, a_numerator, a_factorDegrees, a_factorPowers, a_factorCells) v') (nI k) v2 (nI cnt) f_place f_opens f_top f_fault f_faultAt f_dry f_found (fi_m g) a_there a_kind a_num a_open a_openAt a_power (fi_m T) := br_c (fun _ => br_c (fun _ => h _ _ _ I0) (fun _ => br_c (fun _ => h _ _ _ I0) (fun _ => y42))) (fun _ => y42)
    exact br_c (fun _ => br_c (fun _ => h _ _ _ I0) (fun _ => br_c (fun _ => h _ _ _ I0) (fun _ => y24))) (fun _ => y24)
theorem ab_wipe {u : SX} {v : SY} {Q : Int32 → Int32 → SX → SY → Prop} (I : ab_R u v) (h : ∀ r u' v', ab_R u' v' → Q r r u' v') : wpX_wipe (fun r u' => wpY_wipe (fun r' v' => Q r r' u' v') v) u := by
  obtain ⟨f_tokenCount, f_latestPlace, f_stepCount, f_waitingCount, f_stackCount, f_factorCount, a_tokenKind, a_tokenContent, a_stepKind, a_stepToken, a_waitingKind, a_waitingToken, a_present, a_cells, a_leftTop, a_leftBottom, a_rightTop, a_rightBottom, a_top, a_bottom, a_product, a_quotient, a_common, a_spare, a_rest, a_divisor, a_inverse, a_numerator, a_factorDegrees, a_factorPowers, a_factorCells⟩ := u
  obtain ⟨f_count, f_place, f_opens, f_top, f_fault, f_faultAt, f_dry, f_found, a_c, a_there, a_kind, a_num, a_open, a_openAt, a_power, a_table⟩ := v
  obtain ⟨cnt, g, T, kd, hc, e1, e2, e3, e4, tk, p9, hb⟩ := I
  dsimp only at e1 e2 e3 e4 tk hb
  subst e1 e2 e3 e4
  unfold wpX_wipe wpY_wipe
  exact h _ _ _ ⟨0, g, T, kd, by omega, rfl, rfl, rfl, rfl, fun j hj => by omega, p9, hb⟩
theorem ab_place {u : SX} {v : SY} {Q : Int32 → Int32 → Prop} (h : ∀ r r', Q r r') : wpX_place (fun r => wpY_place (fun r' => Q r r') v) u := by
  obtain ⟨f_tokenCount, f_latestPlace, f_stepCount, f_waitingCount, f_stackCount, f_factorCount, a_tokenKind, a_tokenContent, a_stepKind, a_stepToken, a_waitingKind, a_waitingToken, a_present, a_cells, a_leftTop, a_leftBottom, a_rightTop, a_rightBottom, a_top, a_bottom, a_product, a_quotient, a_common, a_spare, a_rest, a_divisor, a_inverse, a_numerator, a_factorDegrees, a_factorPowers, a_factorCells⟩ := u
  obtain ⟨f_count, f_place, f_opens, f_top, f_fault, f_faultAt, f_dry, f_found, a_c, a_there, a_kind, a_num, a_open, a_openAt, a_power, a_table⟩ := v
  exact h _ _
