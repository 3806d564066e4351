/-! The order of steps: a pure machine over two lists, newest first, of (kind, place of the token) -/
def sy_pop (l : Nat) : List (Nat × Nat) → List (Nat × Nat) → List (Nat × Nat) × List (Nat × Nat)
  | [], ro => ([], ro)
  | p :: t, ro => if ya_rk p.1 < l then (p :: t, ro) else sy_pop l t (p :: ro)
def sy_one : List (Nat × Nat) → List (Nat × Nat) → List (Nat × Nat) × List (Nat × Nat)
  | [], ro => ([], ro)
  | p :: t, ro => if p.1 = 11 then (t, p :: ro) else (p :: t, ro)
def sy_lv (k : Nat) : Nat := if k = 11 then 4 else if k ≤ 6 then 1 else 3
def sy_st (k i : Nat) (op : Bool) (ops ro : List (Nat × Nat)) : List (Nat × Nat) × List (Nat × Nat) :=
  if op then
    if k = 6 then ((12, i) :: ops, ro) else if k = 3 then ((3, i) :: ops, ro) else sy_one ops ((k, i) :: ro)
  else
    if k = 4 then sy_one (sy_pop 1 ops ro).1.tail (sy_pop 1 ops ro).2
    else if k = 9 then (ops, (k, i) :: ro) else if k = 10 then (ops, (k, i) :: ro)
    else ((k, i) :: (sy_pop (sy_lv k) ops ro).1, (sy_pop (sy_lv k) ops ro).2)
def sy_go (kd : Nat → Nat) : Nat → Nat → Bool → List (Nat × Nat) → List (Nat × Nat) → List (Nat × Nat)
  | 0, _, _, ops, ro => (sy_pop 1 ops ro).2
  | r + 1, i, op, ops, ro => sy_go kd r (i + 1) (!ya_eo (kd i)) (sy_st (kd i) i op ops ro).1 (sy_st (kd i) i op ops ro).2
def sy_bin : List (Nat × Nat) → Nat
  | [] => 0
  | p :: t => sy_bin t + (if p.1 = 3 then 0 else if p.1 = 12 then 0 else 1)
def sy_dep : List (Nat × Nat) → Nat
  | [] => 0
  | p :: t => sy_dep t + (if p.1 = 3 then 1 else 0)
/-- d values are there behind these steps, and each step found its operands -/
def sy_wf : List (Nat × Nat) → Nat → Prop
  | [], d => d = 0
  | p :: t, d => ∃ d0, sy_wf t d0 ∧ ((p.1 ≤ 2 ∧ d = d0 + 1) ∨ ((p.1 = 9 ∨ p.1 = 10 ∨ p.1 = 12) ∧ 1 ≤ d0 ∧ d = d0) ∨ ((p.1 = 5 ∨ p.1 = 6 ∨ p.1 = 7 ∨ p.1 = 8 ∨ p.1 = 11) ∧ 2 ≤ d0 ∧ d + 1 = d0))
def sy_set (ops : List (Nat × Nat)) : Prop := ∀ p, p ∈ ops → ya_set p.1
/-- no two @ side by side -/
def sy_11 : List (Nat × Nat) → Prop
  | [] => True
  | p :: t => (p.1 = 11 → ∀ q s, t = q :: s → q.1 ≠ 11) ∧ sy_11 t
def sy_h11 (ops : List (Nat × Nat)) : Prop := ∀ q s, ops = q :: s → q.1 ≠ 11
/-- places of tokens below n -/
def sy_lt (n : Nat) (l : List (Nat × Nat)) : Prop := ∀ p, p ∈ l → p.2 < n
theorem sy_pop_inv {l : Nat} (hl : 1 ≤ l) : ∀ (ops ro : List (Nat × Nat)) (n : Nat), sy_set ops → sy_11 ops → sy_wf ro (sy_bin ops + 1) → sy_lt n ops → sy_lt n ro →
    sy_set (sy_pop l ops ro).1 ∧ sy_11 (sy_pop l ops ro).1 ∧ sy_wf (sy_pop l ops ro).2 (sy_bin (sy_pop l ops ro).1 + 1) ∧ sy_lt n (sy_pop l ops ro).1 ∧ sy_lt n (sy_pop l ops ro).2 ∧ sy_dep (sy_pop l ops ro).1 = sy_dep ops ∧ (sy_pop l ops ro).1.length + (sy_pop l ops ro).2.length = ops.length + ro.length ∧ (∀ q s, (sy_pop l ops ro).1 = q :: s → ya_rk q.1 < l) := by
  intro ops
  induction ops with
  | nil =>
    intro ro n h1 h2 h3 h4 h5
    exact ⟨h1, h2, h3, h4, h5, rfl, rfl, (fun q s e => nomatch e)⟩
  | cons p t ih =>
    intro ro n h1 h2 h3 h4 h5
    by_cases c : ya_rk p.1 < l
    · have e : sy_pop l (p :: t) ro = (p :: t, ro) := if_pos c
      rw [e]
      refine ⟨h1, h2, h3, h4, h5, rfl, rfl, fun q s e2 => ?_⟩
      injection e2 with a b
      subst a; exact c
    · have e : sy_pop l (p :: t) ro = sy_pop l t (p :: ro) := if_neg c
      have hp : ya_set p.1 := h1 p (List.mem_cons_self)
      have n3 : p.1 ≠ 3 := by
        intro z
        rw [z] at c
        exact c (Nat.lt_of_lt_of_le (by decide) hl)
      have w : sy_wf (p :: ro) (sy_bin t + 1) := by
        refine ⟨sy_bin (p :: t) + 1, h3, ?_⟩
        by_cases c12 : p.1 = 12
        · right; left
          have eb : sy_bin (p :: t) = sy_bin t := by
            show sy_bin t + (if p.1 = 3 then 0 else if p.1 = 12 then 0 else 1) = _
            rw [if_neg n3, if_pos c12]; rfl
          exact ⟨Or.inr (Or.inr c12), by omega, by omega⟩
        · right; right
          have eb : sy_bin (p :: t) = sy_bin t + 1 := by
            show sy_bin t + (if p.1 = 3 then 0 else if p.1 = 12 then 0 else 1) = _
            rw [if_neg n3, if_neg c12]
          refine ⟨?_, by omega, by omega⟩
          rcases hp with z | z | z | z | z | z | z
          · exact absurd z n3
          · exact Or.inl z
          · exact Or.inr (Or.inl z)
          · exact Or.inr (Or.inr (Or.inl z))
          · exact Or.inr (Or.inr (Or.inr (Or.inl z)))
          · exact Or.inr (Or.inr (Or.inr (Or.inr z)))
          · exact absurd z c12
      obtain ⟨a1, a2, a3, a4, a5, a6, a7, a8⟩ := ih (p :: ro) n (fun q hq => h1 q (List.mem_cons_of_mem _ hq)) h2.2 w (fun q hq => h4 q (List.mem_cons_of_mem _ hq)) (fun q hq => by
        rcases List.mem_cons.mp hq with z | z
        · rw [z]; exact h4 p (List.mem_cons_self)
        · exact h5 q z)
      rw [e]
      refine ⟨a1, a2, a3, a4, a5, ?_, ?_, a8⟩
      · rw [a6]
        show sy_dep t = sy_dep t + (if p.1 = 3 then 1 else 0)
        rw [if_neg n3]; rfl
      · rw [a7]
        show t.length + (ro.length + 1) = (t.length + 1) + ro.length
        omega
theorem sy_one_inv {ops ro : List (Nat × Nat)} {n : Nat} (h1 : sy_set ops) (h2 : sy_11 ops) (h3 : sy_wf ro (sy_bin ops + 1)) (h4 : sy_lt n ops) (h5 : sy_lt n ro) :
    sy_set (sy_one ops ro).1 ∧ sy_11 (sy_one ops ro).1 ∧ sy_h11 (sy_one ops ro).1 ∧ sy_wf (sy_one ops ro).2 (sy_bin (sy_one ops ro).1 + 1) ∧ sy_lt n (sy_one ops ro).1 ∧ sy_lt n (sy_one ops ro).2 ∧ sy_dep (sy_one ops ro).1 = sy_dep ops ∧ (sy_one ops ro).1.length + (sy_one ops ro).2.length = ops.length + ro.length := by
  cases ops with
  | nil => exact ⟨h1, h2, (fun q s e => nomatch e), h3, h4, h5, rfl, rfl⟩
  | cons p t =>
    by_cases c : p.1 = 11
    · have e : sy_one (p :: t) ro = (t, p :: ro) := if_pos c
      rw [e]
      dsimp only
      have eb : sy_bin (p :: t) = sy_bin t + 1 := by
        show sy_bin t + (if p.1 = 3 then 0 else if p.1 = 12 then 0 else 1) = _
        rw [if_neg (by omega), if_neg (by omega)]
      refine ⟨fun q hq => h1 q (List.mem_cons_of_mem _ hq), h2.2, fun q s z => h2.1 c q s z, ⟨sy_bin (p :: t) + 1, h3, Or.inr (Or.inr ⟨Or.inr (Or.inr (Or.inr (Or.inr c))), by omega, by omega⟩)⟩, fun q hq => h4 q (List.mem_cons_of_mem _ hq), fun q hq => ?_, ?_, ?_⟩
      · rcases List.mem_cons.mp hq with z | z
        · rw [z]; exact h4 p (List.mem_cons_self)
        · exact h5 q z
      · show sy_dep t = sy_dep t + (if p.1 = 3 then 1 else 0)
        rw [if_neg (by omega)]; rfl
      · show t.length + (ro.length + 1) = (t.length + 1) + ro.length
        omega
    · have e : sy_one (p :: t) ro = (p :: t, ro) := if_neg c
      rw [e]
      refine ⟨h1, h2, fun q s z => ?_, h3, h4, h5, rfl, rfl⟩
      injection z with a b
      subst a; exact c
/-- what holds in front of token i -/
def sy_ok (i : Nat) (op : Bool) (ops ro : List (Nat × Nat)) : Prop :=
  sy_set ops ∧ sy_11 ops ∧ (op = false → sy_h11 ops) ∧ sy_wf ro (sy_bin ops + (if op then 0 else 1)) ∧ sy_lt i ops ∧ sy_lt i ro ∧ ops.length + ro.length ≤ i
theorem sy_ok0 : sy_ok 0 true [] [] := ⟨(fun p hp => nomatch hp), trivial, (fun z => nomatch z), rfl, (fun p hp => nomatch hp), (fun p hp => nomatch hp), Nat.le_refl _⟩
theorem sy_lt_m {n m : Nat} {l : List (Nat × Nat)} (h : sy_lt n l) (hm : n ≤ m) : sy_lt m l := fun p hp => Nat.lt_of_lt_of_le (h p hp) hm
theorem sy_lt_c {n k i : Nat} {l : List (Nat × Nat)} (h : sy_lt n l) (hi : i < n) : sy_lt n ((k, i) :: l) := fun p hp => by
  rcases List.mem_cons.mp hp with z | z
  · rw [z]; exact hi
  · exact h p z
/-- a token that fits keeps it -/
theorem sy_ok_s {k i dp : Nat} {op sg : Bool} {ops ro : List (Nat × Nat)} (h : sy_ok i op ops ro) (hk : k ≤ 11) (hd : dp = sy_dep ops) (hf : ya_fit k dp op sg = true) :
    sy_ok (i + 1) (!ya_eo k) (sy_st k i op ops ro).1 (sy_st k i op ops ro).2 ∧ sy_dep (sy_st k i op ops ro).1 = (if k = 3 then dp + 1 else if k = 4 then dp - 1 else dp) := by
  obtain ⟨h1, h2, h3, h4, h5, h6, h7⟩ := h
  cases op with
  | true =>
    have w : sy_wf ro (sy_bin ops) := h4
    by_cases c6 : k = 6
    · subst c6
      refine ⟨⟨fun p hp => ?_, ⟨fun z => absurd (show (12 : Nat) = 11 from z) (by decide), h2⟩, (fun z => nomatch z), ?_, sy_lt_c (sy_lt_m h5 (by omega)) (by omega), sy_lt_m h6 (by omega), ?_⟩, ?_⟩
      · rcases List.mem_cons.mp hp with z | z
        · rw [z]; exact Or.inr (Or.inr (Or.inr (Or.inr (Or.inr (Or.inr rfl)))))
        · exact h1 p z
      · exact w
      · show (ops.length + 1) + ro.length ≤ i + 1
        omega
      · rw [hd]; rfl
    · by_cases c3 : k = 3
      · subst c3
        refine ⟨⟨fun p hp => ?_, ⟨fun z => absurd (show (3 : Nat) = 11 from z) (by decide), h2⟩, (fun z => nomatch z), ?_, sy_lt_c (sy_lt_m h5 (by omega)) (by omega), sy_lt_m h6 (by omega), ?_⟩, ?_⟩
        · rcases List.mem_cons.mp hp with z | z
          · rw [z]; exact Or.inl rfl
          · exact h1 p z
        · exact w
        · show (ops.length + 1) + ro.length ≤ i + 1
          omega
        · rw [hd]; rfl
      · have k2 : k ≤ 2 := by
          have hf2 : (decide (k ≤ 3) || (decide (k = 6) && sg)) = true := hf
          rw [decide_eq_false c6] at hf2
          by_cases c : k ≤ 3
          · omega
          · rw [decide_eq_false c] at hf2; exact absurd (show false = true from hf2) (by decide)
        have heo : ya_eo k = true := by
          show (decide (k ≤ 2) || _ || _ || _) = true
          rw [decide_eq_true k2]; rfl
        have es : sy_st k i true ops ro = sy_one ops ((k, i) :: ro) := by
          show (if k = 6 then _ else if k = 3 then _ else sy_one ops ((k, i) :: ro)) = _
          rw [if_neg c6, if_neg c3]
        obtain ⟨a1, a2, a3, a4, a5, a6, a7, a8⟩ := sy_one_inv (ro := (k, i) :: ro) (n := i + 1) h1 h2 ⟨sy_bin ops, w, Or.inl ⟨k2, rfl⟩⟩ (sy_lt_m h5 (by omega)) (sy_lt_c (sy_lt_m h6 (by omega)) (by omega))
        rw [es, heo]
        refine ⟨⟨a1, a2, fun _ => a3, a4, a5, a6, ?_⟩, ?_⟩
        · rw [a8]
          show ops.length + (ro.length + 1) ≤ i + 1
          omega
        · rw [a7, hd, if_neg c3, if_neg (by omega)]
  | false =>
    have w : sy_wf ro (sy_bin ops + 1) := h4
    by_cases c4 : k = 4
    · subst c4
      obtain ⟨b1, b2, b3, b4, b5, b6, b7, b8⟩ := sy_pop_inv (l := 1) (Nat.le_refl _) ops ro (i + 1) h1 h2 w (sy_lt_m h5 (by omega)) (sy_lt_m h6 (by omega))
      have hdp : 0 < dp := by
        have hf2 : (decide (5 ≤ 4) || (decide (4 = 4) && decide (0 < dp))) = true := hf
        by_cases c : 0 < dp
        · exact c
        · rw [decide_eq_false c] at hf2; exact absurd (show false = true from hf2) (by decide)
      cases hT : (sy_pop 1 ops ro).1 with
      | nil =>
        exfalso
        rw [hT] at b6
        have z : sy_dep ([] : List (Nat × Nat)) = 0 := rfl
        rw [z] at b6
        omega
      | cons q s =>
        have q3 : q.1 = 3 := ya_rk3 (b1 q (by rw [hT]; exact List.mem_cons_self)) (b8 q s hT)
        have es : sy_st 4 i false ops ro = sy_one s (sy_pop 1 ops ro).2 := by
          show sy_one (sy_pop 1 ops ro).1.tail (sy_pop 1 ops ro).2 = _
          rw [hT]; rfl
        rw [hT] at b1 b2 b3 b4 b6 b7
        have eb : sy_bin (q :: s) = sy_bin s := by
          show sy_bin s + (if q.1 = 3 then 0 else if q.1 = 12 then 0 else 1) = _
          rw [if_pos q3]; rfl
        have ed : sy_dep (q :: s) = sy_dep s + 1 := by
          show sy_dep s + (if q.1 = 3 then 1 else 0) = _
          rw [if_pos q3]
        rw [eb] at b3
        obtain ⟨a1, a2, a3, a4, a5, a6, a7, a8⟩ := sy_one_inv (n := i + 1) (fun p hp => b1 p (List.mem_cons_of_mem _ hp)) b2.2 b3 (fun p hp => b4 p (List.mem_cons_of_mem _ hp)) b5
        rw [es]
        refine ⟨⟨a1, a2, fun _ => a3, a4, a5, a6, ?_⟩, ?_⟩
        · rw [a8]
          have b7' : (s.length + 1) + (sy_pop 1 ops ro).2.length = ops.length + ro.length := b7
          omega
        · rw [a7, if_neg (by decide), if_pos rfl]
          omega
    · by_cases c9 : k = 9
      · subst c9
        refine ⟨⟨h1, h2, fun _ => h3 rfl, ⟨sy_bin ops + 1, w, Or.inr (Or.inl ⟨Or.inl rfl, by omega, rfl⟩)⟩, sy_lt_m h5 (by omega), sy_lt_c (sy_lt_m h6 (by omega)) (by omega), ?_⟩, ?_⟩
        · show ops.length + (ro.length + 1) ≤ i + 1
          omega
        · exact hd.symm
      · by_cases c10 : k = 10
        · subst c10
          refine ⟨⟨h1, h2, fun _ => h3 rfl, ⟨sy_bin ops + 1, w, Or.inr (Or.inl ⟨Or.inr (Or.inl rfl), by omega, rfl⟩)⟩, sy_lt_m h5 (by omega), sy_lt_c (sy_lt_m h6 (by omega)) (by omega), ?_⟩, ?_⟩
          · show ops.length + (ro.length + 1) ≤ i + 1
            omega
          · exact hd.symm
        · have k5 : 5 ≤ k := by
            have hf2 : (decide (5 ≤ k) || (decide (k = 4) && decide (0 < dp))) = true := hf
            rw [decide_eq_false c4] at hf2
            by_cases c : 5 ≤ k
            · exact c
            · rw [decide_eq_false c] at hf2; exact absurd (show false = true from hf2) (by decide)
          have heo : ya_eo k = false := by
            show (decide (k ≤ 2) || decide (k = 4) || decide (k = 9) || decide (k = 10)) = false
            rw [decide_eq_false (show ¬ k ≤ 2 by omega), decide_eq_false c4, decide_eq_false c9, decide_eq_false c10]; rfl
          have lv1 : 1 ≤ sy_lv k := by
            unfold sy_lv
            by_cases c : k = 11
            · rw [if_pos c]; omega
            · rw [if_neg c]
              by_cases c2 : k ≤ 6
              · rw [if_pos c2]; omega
              · rw [if_neg c2]; omega
          obtain ⟨b1, b2, b3, b4, b5, b6, b7, b8⟩ := sy_pop_inv lv1 ops ro (i + 1) h1 h2 w (sy_lt_m h5 (by omega)) (sy_lt_m h6 (by omega))
          have es : sy_st k i false ops ro = ((k, i) :: (sy_pop (sy_lv k) ops ro).1, (sy_pop (sy_lv k) ops ro).2) := by
            show (if k = 4 then _ else if k = 9 then _ else if k = 10 then _ else _) = _
            rw [if_neg c4, if_neg c9, if_neg c10]
          rw [es, heo]
          refine ⟨⟨fun p hp => ?_, ⟨fun z q s e => ?_, b2⟩, (fun z => nomatch z), ?_, sy_lt_c b4 (by omega), b5, ?_⟩, ?_⟩
          · rcases List.mem_cons.mp hp with z | z
            · rw [z]; unfold ya_set; omega
            · exact b1 p z
          · have hr := b8 q s e
            have lv4 : sy_lv k = 4 := if_pos z
            rw [lv4] at hr
            intro q11
            rw [q11] at hr
            exact absurd hr (by decide)
          · show sy_wf (sy_pop (sy_lv k) ops ro).2 (sy_bin ((k, i) :: (sy_pop (sy_lv k) ops ro).1) + 0)
            have eb : sy_bin ((k, i) :: (sy_pop (sy_lv k) ops ro).1) = sy_bin (sy_pop (sy_lv k) ops ro).1 + 1 := by
              show sy_bin (sy_pop (sy_lv k) ops ro).1 + (if k = 3 then 0 else if k = 12 then 0 else 1) = _
              rw [if_neg (by omega), if_neg (by omega)]
            rw [eb]; exact b3
          · show ((sy_pop (sy_lv k) ops ro).1.length + 1) + (sy_pop (sy_lv k) ops ro).2.length ≤ i + 1
            omega
          · show sy_dep (sy_pop (sy_lv k) ops ro).1 + (if k = 3 then 1 else 0) = _
            rw [b6, if_neg (show ¬ k = 3 by omega), if_neg (show ¬ k = 3 by omega), if_neg c4, hd]; rfl
/-- an array holds a list: the place of an entry is the length of what is older -/
def sy_rep (ak ai : Nat → Int32) : List (Nat × Nat) → Prop
  | [] => True
  | p :: t => ak t.length = nI p.1 ∧ ai t.length = nI p.2 ∧ sy_rep ak ai t
theorem sy_rep_u {ak ai : Nat → Int32} {x y : Int32} : ∀ (l : List (Nat × Nat)) (n : Nat), l.length ≤ n → sy_rep ak ai l → sy_rep (upd ak n x) (upd ai n y) l := by
  intro l
  induction l with
  | nil => intro n _ _; trivial
  | cons p t ih =>
    intro n hn h
    have hl : t.length + 1 ≤ n := hn
    exact ⟨by rw [pk_un (by omega)]; exact h.1, by rw [pk_un (by omega)]; exact h.2.1, ih n (by omega) h.2.2⟩
theorem sy_rep_c {ak ai : Nat → Int32} {l : List (Nat × Nat)} {k i : Nat} (h : sy_rep ak ai l) : sy_rep (upd ak l.length (nI k)) (upd ai l.length (nI i)) ((k, i) :: l) :=
  ⟨pk_us, pk_us, sy_rep_u l l.length (Nat.le_refl _) h⟩
