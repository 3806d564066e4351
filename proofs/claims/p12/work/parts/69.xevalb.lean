/-! The class's evaluate: the run of steps -/
def sy_kd (kd : Nat → Nat) (l : List (Nat × Nat)) : Prop := ∀ p, p ∈ l → p.1 = 12 ∨ p.1 = kd p.2
theorem sy_kd_c {kd : Nat → Nat} {p : Nat × Nat} {l : List (Nat × Nat)} (hp : p.1 = 12 ∨ p.1 = kd p.2) (h : sy_kd kd l) : sy_kd kd (p :: l) := fun q hq => by
  rcases List.mem_cons.mp hq with z | z
  · rw [z]; exact hp
  · exact h q z
theorem sy_kd_t {kd : Nat → Nat} {p : Nat × Nat} {l : List (Nat × Nat)} (h : sy_kd kd (p :: l)) : sy_kd kd l := fun q hq => h q (List.mem_cons_of_mem _ hq)
theorem sy_kd_pop {kd : Nat → Nat} {l : Nat} : ∀ ops ro : List (Nat × Nat), sy_kd kd ops → sy_kd kd ro → sy_kd kd (sy_pop l ops ro).1 ∧ sy_kd kd (sy_pop l ops ro).2 := by
  intro ops
  induction ops with
  | nil => intro ro h1 h2; exact ⟨h1, h2⟩
  | cons p t ih =>
    intro ro h1 h2
    by_cases c : ya_rk p.1 < l
    · have e : sy_pop l (p :: t) ro = (p :: t, ro) := if_pos c
      rw [e]; exact ⟨h1, h2⟩
    · have e : sy_pop l (p :: t) ro = sy_pop l t (p :: ro) := if_neg c
      rw [e]
      exact ih (p :: ro) (sy_kd_t h1) (sy_kd_c (h1 p List.mem_cons_self) h2)
theorem sy_kd_one {kd : Nat → Nat} {ops ro : List (Nat × Nat)} (h1 : sy_kd kd ops) (h2 : sy_kd kd ro) : sy_kd kd (sy_one ops ro).1 ∧ sy_kd kd (sy_one ops ro).2 := by
  cases ops with
  | nil => exact ⟨h1, h2⟩
  | cons p t =>
    by_cases c : p.1 = 11
    · have e : sy_one (p :: t) ro = (t, p :: ro) := if_pos c
      rw [e]; exact ⟨sy_kd_t h1, sy_kd_c (h1 p List.mem_cons_self) h2⟩
    · have e : sy_one (p :: t) ro = (p :: t, ro) := if_neg c
      rw [e]; exact ⟨h1, h2⟩
theorem sy_kd_st {kd : Nat → Nat} {i : Nat} {op : Bool} {ops ro : List (Nat × Nat)} (h1 : sy_kd kd ops) (h2 : sy_kd kd ro) : sy_kd kd (sy_st (kd i) i op ops ro).1 ∧ sy_kd kd (sy_st (kd i) i op ops ro).2 := by
  have c0 : ∀ {l : List (Nat × Nat)}, sy_kd kd l → sy_kd kd ((kd i, i) :: l) := fun h => sy_kd_c (Or.inr rfl) h
  unfold sy_st
  cases op with
  | true =>
    show sy_kd kd (if kd i = 6 then ((12, i) :: ops, ro) else if kd i = 3 then ((3, i) :: ops, ro) else sy_one ops ((kd i, i) :: ro)).1 ∧ sy_kd kd (if kd i = 6 then ((12, i) :: ops, ro) else if kd i = 3 then ((3, i) :: ops, ro) else sy_one ops ((kd i, i) :: ro)).2
    by_cases c6 : kd i = 6
    · rw [if_pos c6]; exact ⟨sy_kd_c (Or.inl rfl) h1, h2⟩
    · rw [if_neg c6]
      by_cases c3 : kd i = 3
      · rw [if_pos c3]; exact ⟨sy_kd_c (Or.inr c3.symm) h1, h2⟩
      · rw [if_neg c3]; exact sy_kd_one h1 (c0 h2)
  | false =>
    have hp := fun l => sy_kd_pop (l := l) ops ro h1 h2
    show sy_kd kd (if kd i = 4 then sy_one (sy_pop 1 ops ro).1.tail (sy_pop 1 ops ro).2 else if kd i = 9 then (ops, (kd i, i) :: ro) else if kd i = 10 then (ops, (kd i, i) :: ro) else ((kd i, i) :: (sy_pop (sy_lv (kd i)) ops ro).1, (sy_pop (sy_lv (kd i)) ops ro).2)).1 ∧ sy_kd kd (if kd i = 4 then sy_one (sy_pop 1 ops ro).1.tail (sy_pop 1 ops ro).2 else if kd i = 9 then (ops, (kd i, i) :: ro) else if kd i = 10 then (ops, (kd i, i) :: ro) else ((kd i, i) :: (sy_pop (sy_lv (kd i)) ops ro).1, (sy_pop (sy_lv (kd i)) ops ro).2)).2
    by_cases c4 : kd i = 4
    · rw [if_pos c4]
      exact sy_kd_one (fun q hq => (hp 1).1 q (List.mem_of_mem_tail hq)) (hp 1).2
    · rw [if_neg c4]
      by_cases c9 : kd i = 9
      · rw [if_pos c9]; exact ⟨h1, c0 h2⟩
      · rw [if_neg c9]
        by_cases c10 : kd i = 10
        · rw [if_pos c10]; exact ⟨h1, c0 h2⟩
        · rw [if_neg c10]; exact ⟨c0 (hp _).1, (hp _).2⟩
theorem sy_go_inv {kd : Nat → Nat} {cnt : Nat} (hk : ∀ j, j < cnt → kd j ≤ 11) : ∀ (r i : Nat) (op sg : Bool) (ops ro : List (Nat × Nat)), i + r = cnt → ya_sc kd r i (sy_dep ops) op sg = none → sy_ok i op ops ro → sy_kd kd ops → sy_kd kd ro →
    sy_wf (sy_go kd r i op ops ro) 1 ∧ sy_lt cnt (sy_go kd r i op ops ro) ∧ (sy_go kd r i op ops ro).length ≤ cnt ∧ sy_kd kd (sy_go kd r i op ops ro) := by
  intro r
  induction r with
  | zero =>
    intro i op sg ops ro hi hs ok k1 k2
    obtain ⟨h1, h2, h3, h4, h5, h6, h7⟩ := ok
    have hs2 : (if (op || decide (0 < sy_dep ops)) = true then some i else none) = none := hs
    have hop : (op || decide (0 < sy_dep ops)) = false := by
      cases c : (op || decide (0 < sy_dep ops)) with
      | true => rw [c] at hs2; exact nomatch hs2
      | false => rfl
    cases op with
    | true => exact absurd (show true = false from hop) (by decide)
    | false =>
      have hd : ¬ 0 < sy_dep ops := by
        intro z
        have e : (false || decide (0 < sy_dep ops)) = false := hop
        rw [decide_eq_true z] at e
        exact absurd e (by decide)
      obtain ⟨b1, b2, b3, b4, b5, b6, b7, b8⟩ := sy_pop_inv (l := 1) (Nat.le_refl _) ops ro i h1 h2 h4 h5 h6
      have hk2 := (sy_kd_pop (l := 1) ops ro k1 k2).2
      cases hT : (sy_pop 1 ops ro).1 with
      | nil =>
        rw [hT] at b3 b7
        refine ⟨b3, sy_lt_m b5 (by omega), ?_, hk2⟩
        have b7' : 0 + (sy_pop 1 ops ro).2.length = ops.length + ro.length := b7
        show (sy_pop 1 ops ro).2.length ≤ cnt
        omega
      | cons q s =>
        exfalso
        have q3 : q.1 = 3 := ya_rk3 (b1 q (by rw [hT]; exact List.mem_cons_self)) (b8 q s hT)
        rw [hT] at b6
        have ed : sy_dep (q :: s) = sy_dep s + 1 := by
          show sy_dep s + (if q.1 = 3 then 1 else 0) = _
          rw [if_pos q3]
        omega
  | succ r ih =>
    intro i op sg ops ro hi hs ok k1 k2
    have fit := sy_fit hs
    rw [ya_sc_t fit] at hs
    obtain ⟨ok2, dep2⟩ := sy_ok_s ok (hk i (by omega)) rfl fit
    rw [← dep2] at hs
    obtain ⟨x1, x2⟩ := sy_kd_st (i := i) (op := op) k1 k2
    exact ih (i + 1) _ _ _ _ (by omega) hs ok2 x1 x2
theorem sy_rep_app {ak ai : Nat → Int32} : ∀ (l1 l2 : List (Nat × Nat)), sy_rep ak ai (l1 ++ l2) → sy_rep ak ai l2 := by
  intro l1
  induction l1 with
  | nil => intro l2 h; exact h
  | cons p t ih => intro l2 h; exact ih l2 h.2.2
theorem sy_wf_app : ∀ (l1 l2 : List (Nat × Nat)) (d : Nat), sy_wf (l1 ++ l2) d → ∃ d', sy_wf l2 d' := by
  intro l1
  induction l1 with
  | nil => intro l2 d h; exact ⟨d, h⟩
  | cons p t ih =>
    intro l2 d h
    obtain ⟨d0, h1, _⟩ := h
    exact ih l2 d0 h1
theorem sy_wf_u : ∀ (l : List (Nat × Nat)) (d d' : Nat), sy_wf l d → sy_wf l d' → d = d' := by
  intro l
  induction l with
  | nil =>
    intro d d' h h'
    have a : d = 0 := h
    have b : d' = 0 := h'
    omega
  | cons p t ih =>
    intro d d' h h'
    obtain ⟨e, h1, h2⟩ := h
    obtain ⟨e', h1', h2'⟩ := h'
    have := ih e e' h1 h1'
    rcases h2 with x | x | x
    · rcases h2' with y | y | y <;> omega
    · rcases h2' with y | y | y <;> omega
    · rcases h2' with y | y | y <;> omega
theorem pr_lim_l {P0 Q0 : PF} {T L' : List (PF × PF)} (h : pr_lim P0 Q0 T 0 L') : ∃ R : PF × PF, L' = R :: T ∧ pr_ok R := by
  obtain ⟨R, r, x⟩ := h
  rcases x with ⟨a, b, _, d⟩ | ⟨_, c⟩
  · exact ⟨R, d, pr_red_ok r a b⟩
  · exact absurd c (by decide)
/-- a step without fault: how many values it takes and leaves -/
theorem pr_st_l {vs : Nat → Option (PF × PF)} {k : Nat} {c : Int32} {L L' : List (PF × PF)} (h : pr_st vs k c L 0 L') : (k ≤ 2 ∧ L'.length = L.length + 1) ∨ ((k = 9 ∨ k = 10 ∨ k = 12) ∧ L'.length = L.length) ∨ ((k = 5 ∨ k = 6 ∨ k = 7 ∨ k = 8 ∨ k = 11) ∧ L'.length + 1 = L.length) := by
  have ln : ∀ {P0 Q0 : PF} {T : List (PF × PF)}, pr_lim P0 Q0 T 0 L' → L'.length = T.length + 1 := by
    intro P0 Q0 T h
    obtain ⟨R, e, _⟩ := pr_lim_l h
    rw [e]; rfl
  rcases h with x | ⟨a, T, e, x⟩ | ⟨a, b, T, e, x⟩
  · left
    refine ⟨pr_at_k x, ?_⟩
    rcases x with ⟨_, y⟩ | ⟨_, y⟩ | ⟨_, n, _, _, y⟩
    · exact ln y
    · exact ln y
    · rcases y with ⟨_, z⟩ | ⟨w, _, z⟩
      · exact absurd z (by decide)
      · exact ln z
  · right; left
    have kk := pr_un_k x
    subst e
    refine ⟨by omega, ?_⟩
    show L'.length = T.length + 1
    rcases x with ⟨_, y⟩ | ⟨_, y⟩ | ⟨_, q, m, _, _, y⟩
    · exact ln y
    · exact ln y
    · rcases y with ⟨_, y⟩ | ⟨_, y⟩
      · rcases y with ⟨_, y⟩ | ⟨_, y⟩
        · exact ln y
        · exact absurd y (by decide)
      · rcases y with ⟨_, y⟩ | ⟨_, y⟩
        · exact absurd y (by decide)
        · rcases y with ⟨_, y⟩ | ⟨_, y⟩
          · exact ln y
          · exact absurd y (by decide)
  · right; right
    have kk := pr_bi_k x
    subst e
    refine ⟨kk, ?_⟩
    show L'.length + 1 = T.length + 1 + 1
    have main : L'.length = T.length + 1 := by
      rcases x with ⟨_, y⟩ | ⟨_, y⟩ | ⟨_, y⟩ | ⟨_, y⟩ | ⟨_, m, z, _, _, y⟩
      · exact ln y
      · exact ln y
      · exact ln y
      · rcases y with ⟨_, y⟩ | ⟨_, y⟩
        · exact absurd y (by decide)
        · exact ln y
      · rcases y with ⟨_, y⟩ | ⟨_, y⟩
        · exact absurd y (by decide)
        · rcases y with ⟨_, y⟩ | ⟨_, y⟩
          · exact absurd y (by decide)
          · exact ln y
    omega
theorem pr_run_l {vs : Nat → Option (PF × PF)} {cn : Nat → Int32} : ∀ (S : List (Nat × Nat)) (p d : Nat) (L : List (PF × PF)), pr_run vs cn S 0 p L → sy_wf S d → L.length = d := by
  intro S
  induction S with
  | nil =>
    intro p d L h w
    have a : (0 = 0) ∧ L = [] := h
    have b : d = 0 := w
    rw [a.2, b]; rfl
  | cons s t ih =>
    intro p d L h w
    obtain ⟨c0, p0, L0, r, x⟩ := h
    obtain ⟨d0, w0, y⟩ := w
    rcases x with ⟨n, e, _⟩ | ⟨e, st, _⟩
    · exact absurd e.symm n
    · subst e
      have l0 := ih p0 d0 L0 r w0
      have ls := pr_st_l st
      rcases ls with z | z | z
      · rcases y with y | y | y <;> omega
      · rcases y with y | y | y <;> omega
      · rcases y with y | y | y <;> omega
theorem sy_wf_le : ∀ (l : List (Nat × Nat)) (d : Nat), sy_wf l d → d ≤ l.length := by
  intro l
  induction l with
  | nil =>
    intro d h
    have a : d = 0 := h
    rw [a]; exact Nat.le_refl _
  | cons p t ih =>
    intro d h
    obtain ⟨e, h1, h2⟩ := h
    have := ih e h1
    show d ≤ t.length + 1
    rcases h2 with x | x | x <;> omega
