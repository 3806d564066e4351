/-! The class's leaves on polynomials (written by wip/p2/gen_x2.py) -/
def xv (a : Nat → Int32) (P : PF) : Prop := ∀ k, k < 17 → a k = fi_I (P k)
theorem xv_e {a : Nat → Int32} {P Q : PF} (h : xv a P) (e : ∀ k, k < 17 → P k = Q k) : xv a Q := fun k hk => by rw [h k hk, e k hk]
theorem xv_c {a : Nat → Int32} {y : Fin 5} (hz : ∀ k, 1 ≤ k → k < 17 → a k = 0) : xv (upd a 0 (fi_I y)) (pf_c y) := by
  intro k hk
  by_cases c : k = 0
  · subst c; rw [pk_us]; rfl
  · rw [pk_un c, hz k (by omega) hk]
    show 0 = fi_I (if k = 0 then y else 0)
    rw [if_neg c]; rfl
theorem xv_z {a : Nat → Int32} {j : Nat} (hz : ∀ k, 1 ≤ k → k < j → a k = 0) : ∀ k, 1 ≤ k → k < j + 1 → upd a j 0 k = 0 := by
  intro k h1 h2
  by_cases c : k = j
  · subst c; exact pk_us
  · rw [pk_un c]; exact hz k h1 (by omega)
theorem xv_st (s t : Nat) : (nI s * 2 + nI t) * 9 = nI ((s * 2 + t) * 9) := by
  have e2 : nI s * 2 = nI (s * 2) := pk_mul s 2
  rw [e2, nI_add]; exact pk_mul _ 9
theorem xv_9 {a : Nat → Int32} {C : PF} (h : xv a (fun k => if k < 9 then C k else 0)) (lC : pf_ln C 9) : xv a C :=
  xv_e h (fun k _ => by
    by_cases c : k < 9
    · rw [if_pos c]
    · rw [if_neg c, lC k (by omega)])
theorem xv_ld {a : Nat → Int32} {C : PF} {j : Nat} (h : xv a (fun k => if k < j then C k else 0)) : xv (upd a j (fi_I (C j))) (fun k => if k < j + 1 then C k else 0) := by
  intro k hk
  by_cases c : k = j
  · subst c; rw [pk_us]; dsimp only; rw [if_pos (by omega)]
  · rw [pk_un c, h k hk]
    dsimp only
    by_cases c2 : k < j
    · rw [if_pos c2, if_pos (by omega)]
    · rw [if_neg c2, if_neg (by omega)]
theorem xv_R0 {a : Nat → Int32} {P Q : PF} {i : Nat} (h : xv a (pf_R P Q i)) : xv a (fun k => pf_R P Q i k + (if i ≤ k ∧ k < i + 0 then P i * Q (k - i) else 0)) :=
  xv_e h (fun k _ => by rw [if_neg (by omega)]; grind)
theorem xv_R1 {a : Nat → Int32} {P Q : PF} {i j : Nat} (h : xv a (fun k => pf_R P Q i k + (if i ≤ k ∧ k < i + j then P i * Q (k - i) else 0))) (hj : 17 ≤ i + j) : xv a (pf_R P Q (i + 1)) :=
  xv_e h (fun k hk => by
    show _ = pf_R P Q i k + (if i ≤ k then P i * Q (k - i) else 0)
    by_cases c : i ≤ k
    · rw [if_pos c, if_pos (by omega)]
    · rw [if_neg c, if_neg (by omega)])
theorem xm_ma : ∀ a b c : Fin 5, (fi_I a + fi_I b * fi_I c) - (fi_I a + fi_I b * fi_I c) / 5 * 5 = fi_I (a + b * c) := by decide +kernel
theorem xm_ma' : ∀ a b c : Fin 5, (fi_I b * fi_I c + fi_I a) - (fi_I b * fi_I c + fi_I a) / 5 * 5 = fi_I (b * c + a) := by decide +kernel
theorem xm_mm : ∀ a b : Fin 5, (fi_I a * fi_I b) - (fi_I a * fi_I b) / 5 * 5 = fi_I (a * b) := by decide +kernel
theorem xm_ms : ∀ a b c : Fin 5, (fi_I a + (5 - fi_I b) * fi_I c) - (fi_I a + (5 - fi_I b) * fi_I c) / 5 * 5 = fi_I (a - b * c) := by decide +kernel
theorem xm_mk : ∀ k : Fin 17, ∀ a : Fin 5, (fi_I a * nI k.val) - (fi_I a * nI k.val) / 5 * 5 = fi_I (Fin.ofNat 5 k.val * a) := by decide +kernel
theorem xm_inv : ∀ a : Fin 5, (fi_I a * fi_I a * fi_I a) - (fi_I a * fi_I a * fi_I a) / 5 * 5 = fi_I (a * a * a) := by decide +kernel
theorem xv_R2 {a : Nat → Int32} {P Q : PF} {i j : Nat} (h : xv a (fun k => pf_R P Q i k + (if i ≤ k ∧ k < i + j then P i * Q (k - i) else 0))) (hj : i + j < 17) :
    xv (upd a (i + j) ((a (i + j) + fi_I (P i) * fi_I (Q j)) - (a (i + j) + fi_I (P i) * fi_I (Q j)) / 5 * 5)) (fun k => pf_R P Q i k + (if i ≤ k ∧ k < i + (j + 1) then P i * Q (k - i) else 0)) := by
  intro k hk
  by_cases c : k = i + j
  · subst c
    have e : i + j - i = j := by omega
    rw [pk_us, h (i + j) hj]
    dsimp only
    rw [xm_ma, if_neg (by omega), if_pos (by omega), e]
    congr 1; grind
  · rw [pk_un c, h k hk]
    dsimp only
    congr 2
    by_cases c2 : i ≤ k ∧ k < i + j
    · rw [if_pos c2, if_pos (by omega)]
    · rw [if_neg c2, if_neg (by omega)]
theorem pf_R17 (A B : PF) {k : Nat} (hk : k < 17) : pf_R A B 17 k = pf_mul A B k := by
  show pf_sm _ 17 = pf_cm k A B
  have e : 17 = (k + 1) + (16 - k) := by omega
  rw [pf_cm_sm', e, pf_sm_split]
  have z : pf_sm (fun i => if k + 1 + i ≤ k then A (k + 1 + i) * B (k - (k + 1 + i)) else 0) (16 - k) = 0 := by
    apply pf_sm_0; intro i _; rw [if_neg (by omega)]
  rw [z]
  have c : pf_sm (fun j => if j ≤ k then A j * B (k - j) else 0) (k + 1) = pf_sm (fun i => A i * B (k - i)) (k + 1) := by
    apply pf_sm_congr; intro i hi; rw [if_pos (by omega)]
  rw [c]; grind
theorem xv_am {a : Nat → Int32} {P Q : PF} {y : Fin 5} {j : Nat} (h : xv a (fun k => if k < j then P k + y * Q k else P k)) (hj : j < 17) :
    xv (upd a j ((a j + fi_I y * fi_I (Q j)) - (a j + fi_I y * fi_I (Q j)) / 5 * 5)) (fun k => if k < j + 1 then P k + y * Q k else P k) := by
  intro k hk
  by_cases c : k = j
  · subst c; rw [pk_us, h k hk]; dsimp only; rw [if_neg (by omega), xm_ma, if_pos (by omega)]
  · rw [pk_un c, h k hk]
    dsimp only
    by_cases c2 : k < j
    · rw [if_pos c2, if_pos (by omega)]
    · rw [if_neg c2, if_neg (by omega)]
theorem xv_mn {a : Nat → Int32} {P : PF} {y : Fin 5} {j : Nat} (h : xv a (fun k => if k < j then P k * y else P k)) (hj : j < 17) :
    xv (upd a j ((a j * fi_I y) - (a j * fi_I y) / 5 * 5)) (fun k => if k < j + 1 then P k * y else P k) := by
  intro k hk
  by_cases c : k = j
  · subst c; rw [pk_us, h k hk]; dsimp only; rw [if_neg (by omega), xm_mm, if_pos (by omega)]
  · rw [pk_un c, h k hk]
    dsimp only
    by_cases c2 : k < j
    · rw [if_pos c2, if_pos (by omega)]
    · rw [if_neg c2, if_neg (by omega)]
theorem xv_cp {a : Nat → Int32} {Q : PF} {j : Nat} (h : ∀ k, k < j → a k = fi_I (Q k)) : ∀ k, k < j + 1 → upd a j (fi_I (Q j)) k = fi_I (Q k) := by
  intro k hk
  by_cases c : k = j
  · subst c; exact pk_us
  · rw [pk_un c]; exact h k (by omega)
theorem xv_ex {a b : Nat → Int32} {P Q : PF} {j : Nat} (ha : xv a (fun k => if k < j then Q k else P k)) (hb : xv b (fun k => if k < j then P k else Q k)) (hj : j < 17) : xv (upd a j (b j)) (fun k => if k < j + 1 then Q k else P k) := by
  intro k hk
  by_cases c : k = j
  · subst c; rw [pk_us, hb k hk]; dsimp only; rw [if_neg (by omega), if_pos (by omega)]
  · rw [pk_un c, ha k hk]
    dsimp only
    by_cases c2 : k < j
    · rw [if_pos c2, if_pos (by omega)]
    · rw [if_neg c2, if_neg (by omega)]
theorem xv_dr {a : Nat → Int32} {P : PF} (h : xv a (fun k => if k < 16 then pf_dr P k else 0)) (lP : pf_ln P 17) : xv a (pf_dr P) :=
  xv_e h (fun k hk => by
    by_cases c : k < 16
    · rw [if_pos c]
    · rw [if_neg c]
      show 0 = Fin.ofNat 5 (k + 1) * P (k + 1)
      rw [lP (k + 1) (by omega)]; grind)
theorem xv_ds {a : Nat → Int32} {P : PF} {j : Nat} (h : xv a (fun k => if k < j then pf_dr P k else 0)) (hj : j < 16) :
    xv (upd a j ((fi_I (P (j + 1)) * nI (j + 1)) - (fi_I (P (j + 1)) * nI (j + 1)) / 5 * 5)) (fun k => if k < j + 1 then pf_dr P k else 0) := by
  intro k hk
  by_cases c : k = j
  · subst c
    rw [pk_us]
    dsimp only
    rw [if_pos (by omega)]
    exact xm_mk ⟨k + 1, by omega⟩ (P (k + 1))
  · rw [pk_un c, h k hk]
    dsimp only
    by_cases c2 : k < j
    · rw [if_pos c2, if_pos (by omega)]
    · rw [if_neg c2, if_neg (by omega)]
section
variable {f_tokenCount f_latestPlace f_stepCount f_waitingCount f_stackCount f_factorCount : Int32} {a_tokenKind a_tokenContent a_stepKind a_stepToken a_waitingKind a_waitingToken a_present a_cells a_leftTop a_leftBottom a_rightTop a_rightBottom a_top a_bottom a_product a_quotient a_common a_spare a_rest a_divisor a_inverse a_numerator a_factorDegrees a_factorPowers a_factorCells : Nat → Int32}
theorem xf_setNumber__leftTop {post : SX → Prop} {x : Int32} (y : Fin 5) (h : ∀ a_leftTop : Nat → Int32, xv a_leftTop (pf_c y) → post (f_tokenCount, f_latestPlace, f_stepCount, f_waitingCount, f_stackCount, f_factorCount, a_tokenKind, a_tokenContent, a_stepKind, a_stepToken, a_waitingKind, a_waitingToken, a_present, a_cells, a_leftTop, a_leftBottom, a_rightTop, a_rightBottom, a_top, a_bottom, a_product, a_quotient, a_common, a_spare, a_rest, a_divisor, a_inverse, a_numerator, a_factorDegrees, a_factorPowers, a_factorCells)) (ex : x = fi_I y := by rfl) : wpX_setNumber__leftTop post (f_tokenCount, f_latestPlace, f_stepCount, f_waitingCount, f_stackCount, f_factorCount, a_tokenKind, a_tokenContent, a_stepKind, a_stepToken, a_waitingKind, a_waitingToken, a_present, a_cells, a_leftTop, a_leftBottom, a_rightTop, a_rightBottom, a_top, a_bottom, a_product, a_quotient, a_common, a_spare, a_rest, a_divisor, a_inverse, a_numerator, a_factorDegrees, a_factorPowers, a_factorCells) x := by
  subst ex
  have key : ∀ d j, ∀ a_leftTop : Nat → Int32, j + d = 17 → (∀ k, 1 ≤ k → k < j → a_leftTop k = 0) → wX_setNumber__leftTop_2 post (fi_I y) f_tokenCount f_latestPlace f_stepCount f_waitingCount f_stackCount f_factorCount (d + 1) (nI j) a_tokenKind a_tokenContent a_stepKind a_stepToken a_waitingKind a_waitingToken a_present a_cells a_leftTop a_leftBottom a_rightTop a_rightBottom a_top a_bottom a_product a_quotient a_common a_spare a_rest a_divisor a_inverse a_numerator a_factorDegrees a_factorPowers a_factorCells := by
    intro d
    induction d with
    | zero =>
      intro j a_leftTop hj hz
      obtain rfl : j = 17 := by omega
      exact br_t (by decide) (nm_e (h _ (xv_c hz)))
    | succ d ih =>
      intro j a_leftTop hj hz
      refine br_f (xl_17 (by omega)) ⟨vp_in_nI (by omega) (by omega), nm_e (nm_r (nI_1 j) (ih (j + 1) _ (by omega) ?_))⟩
      rw [nI_clamp (by omega)]; exact xv_z hz
  exact ⟨17, key 16 1 a_leftTop rfl (fun k _ _ => by omega)⟩
theorem xf_setNumber__leftBottom {post : SX → Prop} {x : Int32} (y : Fin 5) (h : ∀ a_leftBottom : Nat → Int32, xv a_leftBottom (pf_c y) → post (f_tokenCount, f_latestPlace, f_stepCount, f_waitingCount, f_stackCount, f_factorCount, a_tokenKind, a_tokenContent, a_stepKind, a_stepToken, a_waitingKind, a_waitingToken, a_present, a_cells, a_leftTop, a_leftBottom, a_rightTop, a_rightBottom, a_top, a_bottom, a_product, a_quotient, a_common, a_spare, a_rest, a_divisor, a_inverse, a_numerator, a_factorDegrees, a_factorPowers, a_factorCells)) (ex : x = fi_I y := by rfl) : wpX_setNumber__leftBottom post (f_tokenCount, f_latestPlace, f_stepCount, f_waitingCount, f_stackCount, f_factorCount, a_tokenKind, a_tokenContent, a_stepKind, a_stepToken, a_waitingKind, a_waitingToken, a_present, a_cells, a_leftTop, a_leftBottom, a_rightTop, a_rightBottom, a_top, a_bottom, a_product, a_quotient, a_common, a_spare, a_rest, a_divisor, a_inverse, a_numerator, a_factorDegrees, a_factorPowers, a_factorCells) x := by
  subst ex
  have key : ∀ d j, ∀ a_leftBottom : Nat → Int32, j + d = 17 → (∀ k, 1 ≤ k → k < j → a_leftBottom k = 0) → wX_setNumber__leftBottom_2 post (fi_I y) f_tokenCount f_latestPlace f_stepCount f_waitingCount f_stackCount f_factorCount (d + 1) (nI j) a_tokenKind a_tokenContent a_stepKind a_stepToken a_waitingKind a_waitingToken a_present a_cells a_leftTop a_leftBottom a_rightTop a_rightBottom a_top a_bottom a_product a_quotient a_common a_spare a_rest a_divisor a_inverse a_numerator a_factorDegrees a_factorPowers a_factorCells := by
    intro d
    induction d with
    | zero =>
      intro j a_leftBottom hj hz
      obtain rfl : j = 17 := by omega
      exact br_t (by decide) (nm_e (h _ (xv_c hz)))
    | succ d ih =>
      intro j a_leftBottom hj hz
      refine br_f (xl_17 (by omega)) ⟨vp_in_nI (by omega) (by omega), nm_e (nm_r (nI_1 j) (ih (j + 1) _ (by omega) ?_))⟩
      rw [nI_clamp (by omega)]; exact xv_z hz
  exact ⟨17, key 16 1 a_leftBottom rfl (fun k _ _ => by omega)⟩
theorem xf_setNumber__rightTop {post : SX → Prop} {x : Int32} (y : Fin 5) (h : ∀ a_rightTop : Nat → Int32, xv a_rightTop (pf_c y) → post (f_tokenCount, f_latestPlace, f_stepCount, f_waitingCount, f_stackCount, f_factorCount, a_tokenKind, a_tokenContent, a_stepKind, a_stepToken, a_waitingKind, a_waitingToken, a_present, a_cells, a_leftTop, a_leftBottom, a_rightTop, a_rightBottom, a_top, a_bottom, a_product, a_quotient, a_common, a_spare, a_rest, a_divisor, a_inverse, a_numerator, a_factorDegrees, a_factorPowers, a_factorCells)) (ex : x = fi_I y := by rfl) : wpX_setNumber__rightTop post (f_tokenCount, f_latestPlace, f_stepCount, f_waitingCount, f_stackCount, f_factorCount, a_tokenKind, a_tokenContent, a_stepKind, a_stepToken, a_waitingKind, a_waitingToken, a_present, a_cells, a_leftTop, a_leftBottom, a_rightTop, a_rightBottom, a_top, a_bottom, a_product, a_quotient, a_common, a_spare, a_rest, a_divisor, a_inverse, a_numerator, a_factorDegrees, a_factorPowers, a_factorCells) x := by
  subst ex
  have key : ∀ d j, ∀ a_rightTop : Nat → Int32, j + d = 17 → (∀ k, 1 ≤ k → k < j → a_rightTop k = 0) → wX_setNumber__rightTop_2 post (fi_I y) f_tokenCount f_latestPlace f_stepCount f_waitingCount f_stackCount f_factorCount (d + 1) (nI j) a_tokenKind a_tokenContent a_stepKind a_stepToken a_waitingKind a_waitingToken a_present a_cells a_leftTop a_leftBottom a_rightTop a_rightBottom a_top a_bottom a_product a_quotient a_common a_spare a_rest a_divisor a_inverse a_numerator a_factorDegrees a_factorPowers a_factorCells := by
    intro d
    induction d with
    | zero =>
      intro j a_rightTop hj hz
      obtain rfl : j = 17 := by omega
      exact br_t (by decide) (nm_e (h _ (xv_c hz)))
    | succ d ih =>
      intro j a_rightTop hj hz
      refine br_f (xl_17 (by omega)) ⟨vp_in_nI (by omega) (by omega), nm_e (nm_r (nI_1 j) (ih (j + 1) _ (by omega) ?_))⟩
      rw [nI_clamp (by omega)]; exact xv_z hz
  exact ⟨17, key 16 1 a_rightTop rfl (fun k _ _ => by omega)⟩
theorem xf_setNumber__rightBottom {post : SX → Prop} {x : Int32} (y : Fin 5) (h : ∀ a_rightBottom : Nat → Int32, xv a_rightBottom (pf_c y) → post (f_tokenCount, f_latestPlace, f_stepCount, f_waitingCount, f_stackCount, f_factorCount, a_tokenKind, a_tokenContent, a_stepKind, a_stepToken, a_waitingKind, a_waitingToken, a_present, a_cells, a_leftTop, a_leftBottom, a_rightTop, a_rightBottom, a_top, a_bottom, a_product, a_quotient, a_common, a_spare, a_rest, a_divisor, a_inverse, a_numerator, a_factorDegrees, a_factorPowers, a_factorCells)) (ex : x = fi_I y := by rfl) : wpX_setNumber__rightBottom post (f_tokenCount, f_latestPlace, f_stepCount, f_waitingCount, f_stackCount, f_factorCount, a_tokenKind, a_tokenContent, a_stepKind, a_stepToken, a_waitingKind, a_waitingToken, a_present, a_cells, a_leftTop, a_leftBottom, a_rightTop, a_rightBottom, a_top, a_bottom, a_product, a_quotient, a_common, a_spare, a_rest, a_divisor, a_inverse, a_numerator, a_factorDegrees, a_factorPowers, a_factorCells) x := by
  subst ex
  have key : ∀ d j, ∀ a_rightBottom : Nat → Int32, j + d = 17 → (∀ k, 1 ≤ k → k < j → a_rightBottom k = 0) → wX_setNumber__rightBottom_2 post (fi_I y) f_tokenCount f_latestPlace f_stepCount f_waitingCount f_stackCount f_factorCount (d + 1) (nI j) a_tokenKind a_tokenContent a_stepKind a_stepToken a_waitingKind a_waitingToken a_present a_cells a_leftTop a_leftBottom a_rightTop a_rightBottom a_top a_bottom a_product a_quotient a_common a_spare a_rest a_divisor a_inverse a_numerator a_factorDegrees a_factorPowers a_factorCells := by
    intro d
    induction d with
    | zero =>
      intro j a_rightBottom hj hz
      obtain rfl : j = 17 := by omega
      exact br_t (by decide) (nm_e (h _ (xv_c hz)))
    | succ d ih =>
      intro j a_rightBottom hj hz
      refine br_f (xl_17 (by omega)) ⟨vp_in_nI (by omega) (by omega), nm_e (nm_r (nI_1 j) (ih (j + 1) _ (by omega) ?_))⟩
      rw [nI_clamp (by omega)]; exact xv_z hz
  exact ⟨17, key 16 1 a_rightBottom rfl (fun k _ _ => by omega)⟩
theorem xf_setNumber__top {post : SX → Prop} {x : Int32} (y : Fin 5) (h : ∀ a_top : Nat → Int32, xv a_top (pf_c y) → post (f_tokenCount, f_latestPlace, f_stepCount, f_waitingCount, f_stackCount, f_factorCount, a_tokenKind, a_tokenContent, a_stepKind, a_stepToken, a_waitingKind, a_waitingToken, a_present, a_cells, a_leftTop, a_leftBottom, a_rightTop, a_rightBottom, a_top, a_bottom, a_product, a_quotient, a_common, a_spare, a_rest, a_divisor, a_inverse, a_numerator, a_factorDegrees, a_factorPowers, a_factorCells)) (ex : x = fi_I y := by rfl) : wpX_setNumber__top post (f_tokenCount, f_latestPlace, f_stepCount, f_waitingCount, f_stackCount, f_factorCount, a_tokenKind, a_tokenContent, a_stepKind, a_stepToken, a_waitingKind, a_waitingToken, a_present, a_cells, a_leftTop, a_leftBottom, a_rightTop, a_rightBottom, a_top, a_bottom, a_product, a_quotient, a_common, a_spare, a_rest, a_divisor, a_inverse, a_numerator, a_factorDegrees, a_factorPowers, a_factorCells) x := by
  subst ex
  have key : ∀ d j, ∀ a_top : Nat → Int32, j + d = 17 → (∀ k, 1 ≤ k → k < j → a_top k = 0) → wX_setNumber__top_2 post (fi_I y) f_tokenCount f_latestPlace f_stepCount f_waitingCount f_stackCount f_factorCount (d + 1) (nI j) a_tokenKind a_tokenContent a_stepKind a_stepToken a_waitingKind a_waitingToken a_present a_cells a_leftTop a_leftBottom a_rightTop a_rightBottom a_top a_bottom a_product a_quotient a_common a_spare a_rest a_divisor a_inverse a_numerator a_factorDegrees a_factorPowers a_factorCells := by
    intro d
    induction d with
    | zero =>
      intro j a_top hj hz
      obtain rfl : j = 17 := by omega
      exact br_t (by decide) (nm_e (h _ (xv_c hz)))
    | succ d ih =>
      intro j a_top hj hz
      refine br_f (xl_17 (by omega)) ⟨vp_in_nI (by omega) (by omega), nm_e (nm_r (nI_1 j) (ih (j + 1) _ (by omega) ?_))⟩
      rw [nI_clamp (by omega)]; exact xv_z hz
  exact ⟨17, key 16 1 a_top rfl (fun k _ _ => by omega)⟩
theorem xf_setNumber__bottom {post : SX → Prop} {x : Int32} (y : Fin 5) (h : ∀ a_bottom : Nat → Int32, xv a_bottom (pf_c y) → post (f_tokenCount, f_latestPlace, f_stepCount, f_waitingCount, f_stackCount, f_factorCount, a_tokenKind, a_tokenContent, a_stepKind, a_stepToken, a_waitingKind, a_waitingToken, a_present, a_cells, a_leftTop, a_leftBottom, a_rightTop, a_rightBottom, a_top, a_bottom, a_product, a_quotient, a_common, a_spare, a_rest, a_divisor, a_inverse, a_numerator, a_factorDegrees, a_factorPowers, a_factorCells)) (ex : x = fi_I y := by rfl) : wpX_setNumber__bottom post (f_tokenCount, f_latestPlace, f_stepCount, f_waitingCount, f_stackCount, f_factorCount, a_tokenKind, a_tokenContent, a_stepKind, a_stepToken, a_waitingKind, a_waitingToken, a_present, a_cells, a_leftTop, a_leftBottom, a_rightTop, a_rightBottom, a_top, a_bottom, a_product, a_quotient, a_common, a_spare, a_rest, a_divisor, a_inverse, a_numerator, a_factorDegrees, a_factorPowers, a_factorCells) x := by
  subst ex
  have key : ∀ d j, ∀ a_bottom : Nat → Int32, j + d = 17 → (∀ k, 1 ≤ k → k < j → a_bottom k = 0) → wX_setNumber__bottom_2 post (fi_I y) f_tokenCount f_latestPlace f_stepCount f_waitingCount f_stackCount f_factorCount (d + 1) (nI j) a_tokenKind a_tokenContent a_stepKind a_stepToken a_waitingKind a_waitingToken a_present a_cells a_leftTop a_leftBottom a_rightTop a_rightBottom a_top a_bottom a_product a_quotient a_common a_spare a_rest a_divisor a_inverse a_numerator a_factorDegrees a_factorPowers a_factorCells := by
    intro d
    induction d with
    | zero =>
      intro j a_bottom hj hz
      obtain rfl : j = 17 := by omega
      exact br_t (by decide) (nm_e (h _ (xv_c hz)))
    | succ d ih =>
      intro j a_bottom hj hz
      refine br_f (xl_17 (by omega)) ⟨vp_in_nI (by omega) (by omega), nm_e (nm_r (nI_1 j) (ih (j + 1) _ (by omega) ?_))⟩
      rw [nI_clamp (by omega)]; exact xv_z hz
  exact ⟨17, key 16 1 a_bottom rfl (fun k _ _ => by omega)⟩
theorem xf_setNumber__product {post : SX → Prop} {x : Int32} (y : Fin 5) (h : ∀ a_product : Nat → Int32, xv a_product (pf_c y) → post (f_tokenCount, f_latestPlace, f_stepCount, f_waitingCount, f_stackCount, f_factorCount, a_tokenKind, a_tokenContent, a_stepKind, a_stepToken, a_waitingKind, a_waitingToken, a_present, a_cells, a_leftTop, a_leftBottom, a_rightTop, a_rightBottom, a_top, a_bottom, a_product, a_quotient, a_common, a_spare, a_rest, a_divisor, a_inverse, a_numerator, a_factorDegrees, a_factorPowers, a_factorCells)) (ex : x = fi_I y := by rfl) : wpX_setNumber__product post (f_tokenCount, f_latestPlace, f_stepCount, f_waitingCount, f_stackCount, f_factorCount, a_tokenKind, a_tokenContent, a_stepKind, a_stepToken, a_waitingKind, a_waitingToken, a_present, a_cells, a_leftTop, a_leftBottom, a_rightTop, a_rightBottom, a_top, a_bottom, a_product, a_quotient, a_common, a_spare, a_rest, a_divisor, a_inverse, a_numerator, a_factorDegrees, a_factorPowers, a_factorCells) x := by
  subst ex
  have key : ∀ d j, ∀ a_product : Nat → Int32, j + d = 17 → (∀ k, 1 ≤ k → k < j → a_product k = 0) → wX_setNumber__product_2 post (fi_I y) f_tokenCount f_latestPlace f_stepCount f_waitingCount f_stackCount f_factorCount (d + 1) (nI j) a_tokenKind a_tokenContent a_stepKind a_stepToken a_waitingKind a_waitingToken a_present a_cells a_leftTop a_leftBottom a_rightTop a_rightBottom a_top a_bottom a_product a_quotient a_common a_spare a_rest a_divisor a_inverse a_numerator a_factorDegrees a_factorPowers a_factorCells := by
    intro d
    induction d with
    | zero =>
      intro j a_product hj hz
      obtain rfl : j = 17 := by omega
      exact br_t (by decide) (nm_e (h _ (xv_c hz)))
    | succ d ih =>
      intro j a_product hj hz
      refine br_f (xl_17 (by omega)) ⟨vp_in_nI (by omega) (by omega), nm_e (nm_r (nI_1 j) (ih (j + 1) _ (by omega) ?_))⟩
      rw [nI_clamp (by omega)]; exact xv_z hz
  exact ⟨17, key 16 1 a_product rfl (fun k _ _ => by omega)⟩
theorem xf_setNumber__spare {post : SX → Prop} {x : Int32} (y : Fin 5) (h : ∀ a_spare : Nat → Int32, xv a_spare (pf_c y) → post (f_tokenCount, f_latestPlace, f_stepCount, f_waitingCount, f_stackCount, f_factorCount, a_tokenKind, a_tokenContent, a_stepKind, a_stepToken, a_waitingKind, a_waitingToken, a_present, a_cells, a_leftTop, a_leftBottom, a_rightTop, a_rightBottom, a_top, a_bottom, a_product, a_quotient, a_common, a_spare, a_rest, a_divisor, a_inverse, a_numerator, a_factorDegrees, a_factorPowers, a_factorCells)) (ex : x = fi_I y := by rfl) : wpX_setNumber__spare post (f_tokenCount, f_latestPlace, f_stepCount, f_waitingCount, f_stackCount, f_factorCount, a_tokenKind, a_tokenContent, a_stepKind, a_stepToken, a_waitingKind, a_waitingToken, a_present, a_cells, a_leftTop, a_leftBottom, a_rightTop, a_rightBottom, a_top, a_bottom, a_product, a_quotient, a_common, a_spare, a_rest, a_divisor, a_inverse, a_numerator, a_factorDegrees, a_factorPowers, a_factorCells) x := by
  subst ex
  have key : ∀ d j, ∀ a_spare : Nat → Int32, j + d = 17 → (∀ k, 1 ≤ k → k < j → a_spare k = 0) → wX_setNumber__spare_2 post (fi_I y) f_tokenCount f_latestPlace f_stepCount f_waitingCount f_stackCount f_factorCount (d + 1) (nI j) a_tokenKind a_tokenContent a_stepKind a_stepToken a_waitingKind a_waitingToken a_present a_cells a_leftTop a_leftBottom a_rightTop a_rightBottom a_top a_bottom a_product a_quotient a_common a_spare a_rest a_divisor a_inverse a_numerator a_factorDegrees a_factorPowers a_factorCells := by
    intro d
    induction d with
    | zero =>
      intro j a_spare hj hz
      obtain rfl : j = 17 := by omega
      exact br_t (by decide) (nm_e (h _ (xv_c hz)))
    | succ d ih =>
      intro j a_spare hj hz
      refine br_f (xl_17 (by omega)) ⟨vp_in_nI (by omega) (by omega), nm_e (nm_r (nI_1 j) (ih (j + 1) _ (by omega) ?_))⟩
      rw [nI_clamp (by omega)]; exact xv_z hz
  exact ⟨17, key 16 1 a_spare rfl (fun k _ _ => by omega)⟩
theorem xf_setNumber__quotient {post : SX → Prop} {x : Int32} (y : Fin 5) (h : ∀ a_quotient : Nat → Int32, xv a_quotient (pf_c y) → post (f_tokenCount, f_latestPlace, f_stepCount, f_waitingCount, f_stackCount, f_factorCount, a_tokenKind, a_tokenContent, a_stepKind, a_stepToken, a_waitingKind, a_waitingToken, a_present, a_cells, a_leftTop, a_leftBottom, a_rightTop, a_rightBottom, a_top, a_bottom, a_product, a_quotient, a_common, a_spare, a_rest, a_divisor, a_inverse, a_numerator, a_factorDegrees, a_factorPowers, a_factorCells)) (ex : x = fi_I y := by rfl) : wpX_setNumber__quotient post (f_tokenCount, f_latestPlace, f_stepCount, f_waitingCount, f_stackCount, f_factorCount, a_tokenKind, a_tokenContent, a_stepKind, a_stepToken, a_waitingKind, a_waitingToken, a_present, a_cells, a_leftTop, a_leftBottom, a_rightTop, a_rightBottom, a_top, a_bottom, a_product, a_quotient, a_common, a_spare, a_rest, a_divisor, a_inverse, a_numerator, a_factorDegrees, a_factorPowers, a_factorCells) x := by
  subst ex
  have key : ∀ d j, ∀ a_quotient : Nat → Int32, j + d = 17 → (∀ k, 1 ≤ k → k < j → a_quotient k = 0) → wX_setNumber__quotient_2 post (fi_I y) f_tokenCount f_latestPlace f_stepCount f_waitingCount f_stackCount f_factorCount (d + 1) (nI j) a_tokenKind a_tokenContent a_stepKind a_stepToken a_waitingKind a_waitingToken a_present a_cells a_leftTop a_leftBottom a_rightTop a_rightBottom a_top a_bottom a_product a_quotient a_common a_spare a_rest a_divisor a_inverse a_numerator a_factorDegrees a_factorPowers a_factorCells := by
    intro d
    induction d with
    | zero =>
      intro j a_quotient hj hz
      obtain rfl : j = 17 := by omega
      exact br_t (by decide) (nm_e (h _ (xv_c hz)))
    | succ d ih =>
      intro j a_quotient hj hz
      refine br_f (xl_17 (by omega)) ⟨vp_in_nI (by omega) (by omega), nm_e (nm_r (nI_1 j) (ih (j + 1) _ (by omega) ?_))⟩
      rw [nI_clamp (by omega)]; exact xv_z hz
  exact ⟨17, key 16 1 a_quotient rfl (fun k _ _ => by omega)⟩
theorem xf_setNumber__rest {post : SX → Prop} {x : Int32} (y : Fin 5) (h : ∀ a_rest : Nat → Int32, xv a_rest (pf_c y) → post (f_tokenCount, f_latestPlace, f_stepCount, f_waitingCount, f_stackCount, f_factorCount, a_tokenKind, a_tokenContent, a_stepKind, a_stepToken, a_waitingKind, a_waitingToken, a_present, a_cells, a_leftTop, a_leftBottom, a_rightTop, a_rightBottom, a_top, a_bottom, a_product, a_quotient, a_common, a_spare, a_rest, a_divisor, a_inverse, a_numerator, a_factorDegrees, a_factorPowers, a_factorCells)) (ex : x = fi_I y := by rfl) : wpX_setNumber__rest post (f_tokenCount, f_latestPlace, f_stepCount, f_waitingCount, f_stackCount, f_factorCount, a_tokenKind, a_tokenContent, a_stepKind, a_stepToken, a_waitingKind, a_waitingToken, a_present, a_cells, a_leftTop, a_leftBottom, a_rightTop, a_rightBottom, a_top, a_bottom, a_product, a_quotient, a_common, a_spare, a_rest, a_divisor, a_inverse, a_numerator, a_factorDegrees, a_factorPowers, a_factorCells) x := by
  subst ex
  have key : ∀ d j, ∀ a_rest : Nat → Int32, j + d = 17 → (∀ k, 1 ≤ k → k < j → a_rest k = 0) → wX_setNumber__rest_2 post (fi_I y) f_tokenCount f_latestPlace f_stepCount f_waitingCount f_stackCount f_factorCount (d + 1) (nI j) a_tokenKind a_tokenContent a_stepKind a_stepToken a_waitingKind a_waitingToken a_present a_cells a_leftTop a_leftBottom a_rightTop a_rightBottom a_top a_bottom a_product a_quotient a_common a_spare a_rest a_divisor a_inverse a_numerator a_factorDegrees a_factorPowers a_factorCells := by
    intro d
    induction d with
    | zero =>
      intro j a_rest hj hz
      obtain rfl : j = 17 := by omega
      exact br_t (by decide) (nm_e (h _ (xv_c hz)))
    | succ d ih =>
      intro j a_rest hj hz
      refine br_f (xl_17 (by omega)) ⟨vp_in_nI (by omega) (by omega), nm_e (nm_r (nI_1 j) (ih (j + 1) _ (by omega) ?_))⟩
      rw [nI_clamp (by omega)]; exact xv_z hz
  exact ⟨17, key 16 1 a_rest rfl (fun k _ _ => by omega)⟩
theorem xf_setNumber__divisor {post : SX → Prop} {x : Int32} (y : Fin 5) (h : ∀ a_divisor : Nat → Int32, xv a_divisor (pf_c y) → post (f_tokenCount, f_latestPlace, f_stepCount, f_waitingCount, f_stackCount, f_factorCount, a_tokenKind, a_tokenContent, a_stepKind, a_stepToken, a_waitingKind, a_waitingToken, a_present, a_cells, a_leftTop, a_leftBottom, a_rightTop, a_rightBottom, a_top, a_bottom, a_product, a_quotient, a_common, a_spare, a_rest, a_divisor, a_inverse, a_numerator, a_factorDegrees, a_factorPowers, a_factorCells)) (ex : x = fi_I y := by rfl) : wpX_setNumber__divisor post (f_tokenCount, f_latestPlace, f_stepCount, f_waitingCount, f_stackCount, f_factorCount, a_tokenKind, a_tokenContent, a_stepKind, a_stepToken, a_waitingKind, a_waitingToken, a_present, a_cells, a_leftTop, a_leftBottom, a_rightTop, a_rightBottom, a_top, a_bottom, a_product, a_quotient, a_common, a_spare, a_rest, a_divisor, a_inverse, a_numerator, a_factorDegrees, a_factorPowers, a_factorCells) x := by
  subst ex
  have key : ∀ d j, ∀ a_divisor : Nat → Int32, j + d = 17 → (∀ k, 1 ≤ k → k < j → a_divisor k = 0) → wX_setNumber__divisor_2 post (fi_I y) f_tokenCount f_latestPlace f_stepCount f_waitingCount f_stackCount f_factorCount (d + 1) (nI j) a_tokenKind a_tokenContent a_stepKind a_stepToken a_waitingKind a_waitingToken a_present a_cells a_leftTop a_leftBottom a_rightTop a_rightBottom a_top a_bottom a_product a_quotient a_common a_spare a_rest a_divisor a_inverse a_numerator a_factorDegrees a_factorPowers a_factorCells := by
    intro d
    induction d with
    | zero =>
      intro j a_divisor hj hz
      obtain rfl : j = 17 := by omega
      exact br_t (by decide) (nm_e (h _ (xv_c hz)))
    | succ d ih =>
      intro j a_divisor hj hz
      refine br_f (xl_17 (by omega)) ⟨vp_in_nI (by omega) (by omega), nm_e (nm_r (nI_1 j) (ih (j + 1) _ (by omega) ?_))⟩
      rw [nI_clamp (by omega)]; exact xv_z hz
  exact ⟨17, key 16 1 a_divisor rfl (fun k _ _ => by omega)⟩
theorem xf_setNumber__inverse {post : SX → Prop} {x : Int32} (y : Fin 5) (h : ∀ a_inverse : Nat → Int32, xv a_inverse (pf_c y) → post (f_tokenCount, f_latestPlace, f_stepCount, f_waitingCount, f_stackCount, f_factorCount, a_tokenKind, a_tokenContent, a_stepKind, a_stepToken, a_waitingKind, a_waitingToken, a_present, a_cells, a_leftTop, a_leftBottom, a_rightTop, a_rightBottom, a_top, a_bottom, a_product, a_quotient, a_common, a_spare, a_rest, a_divisor, a_inverse, a_numerator, a_factorDegrees, a_factorPowers, a_factorCells)) (ex : x = fi_I y := by rfl) : wpX_setNumber__inverse post (f_tokenCount, f_latestPlace, f_stepCount, f_waitingCount, f_stackCount, f_factorCount, a_tokenKind, a_tokenContent, a_stepKind, a_stepToken, a_waitingKind, a_waitingToken, a_present, a_cells, a_leftTop, a_leftBottom, a_rightTop, a_rightBottom, a_top, a_bottom, a_product, a_quotient, a_common, a_spare, a_rest, a_divisor, a_inverse, a_numerator, a_factorDegrees, a_factorPowers, a_factorCells) x := by
  subst ex
  have key : ∀ d j, ∀ a_inverse : Nat → Int32, j + d = 17 → (∀ k, 1 ≤ k → k < j → a_inverse k = 0) → wX_setNumber__inverse_2 post (fi_I y) f_tokenCount f_latestPlace f_stepCount f_waitingCount f_stackCount f_factorCount (d + 1) (nI j) a_tokenKind a_tokenContent a_stepKind a_stepToken a_waitingKind a_waitingToken a_present a_cells a_leftTop a_leftBottom a_rightTop a_rightBottom a_top a_bottom a_product a_quotient a_common a_spare a_rest a_divisor a_inverse a_numerator a_factorDegrees a_factorPowers a_factorCells := by
    intro d
    induction d with
    | zero =>
      intro j a_inverse hj hz
      obtain rfl : j = 17 := by omega
      exact br_t (by decide) (nm_e (h _ (xv_c hz)))
    | succ d ih =>
      intro j a_inverse hj hz
      refine br_f (xl_17 (by omega)) ⟨vp_in_nI (by omega) (by omega), nm_e (nm_r (nI_1 j) (ih (j + 1) _ (by omega) ?_))⟩
      rw [nI_clamp (by omega)]; exact xv_z hz
  exact ⟨17, key 16 1 a_inverse rfl (fun k _ _ => by omega)⟩
end
