/-! One step of a formula's value, and a run of steps: each has one outcome -/
def pr_lim (P0 Q0 : PF) (L : List (PF × PF)) (code : Nat) (L' : List (PF × PF)) : Prop :=
  ∃ R : PF × PF, pr_red P0 Q0 R.1 R.2 ∧ ((pf_ln R.1 9 ∧ pf_ln R.2 9 ∧ code = 0 ∧ L' = R :: L) ∨ (¬ (pf_ln R.1 9 ∧ pf_ln R.2 9) ∧ code = 4))
def pr_at (vs : Nat → Option (PF × PF)) (k : Nat) (c : Int32) (L : List (PF × PF)) (code : Nat) (L' : List (PF × PF)) : Prop :=
  (k = 0 ∧ pr_lim (pf_c (fi_z c)) (pf_c 1) L code L') ∨ (k = 1 ∧ pr_lim (pf_mn 1 1) (pf_c 1) L code L') ∨
  (k = 2 ∧ ∃ n, n < 6 ∧ c = nI n ∧ ((vs n = none ∧ code = 2) ∨ ∃ w, vs n = some w ∧ pr_lim w.1 w.2 L code L'))
def pr_un (k : Nat) (c : Int32) (a : PF × PF) (L : List (PF × PF)) (code : Nat) (L' : List (PF × PF)) : Prop :=
  (k = 12 ∧ pr_lim (pf_mul (pf_c 4) a.1) a.2 L code L') ∨
  (k = 10 ∧ pr_lim (pf_add (pf_mul (pf_dr a.1) a.2) (pf_mul (pf_c (-1)) (pf_mul a.1 (pf_dr a.2)))) (pf_mul a.2 a.2) L code L') ∨
  (k = 9 ∧ ∃ q m, q ≤ 8 ∧ pr_sz a.1 a.2 m ∧
    ((c = nI q ∧ ((m * q ≤ 8 ∧ pr_lim (pf_pow a.1 q) (pf_pow a.2 q) L code L') ∨ (8 < m * q ∧ code = 4))) ∨
     ((c = -nI q ∧ 1 ≤ q) ∧ ((a.1 = pf_c 0 ∧ code = 3) ∨ (a.1 ≠ pf_c 0 ∧ ((m * q ≤ 8 ∧ pr_lim (pf_pow a.2 q) (pf_pow a.1 q) L code L') ∨ (8 < m * q ∧ code = 4)))))))
def pr_bi (k : Nat) (a b : PF × PF) (L : List (PF × PF)) (code : Nat) (L' : List (PF × PF)) : Prop :=
  (k = 5 ∧ pr_lim (pf_add (pf_mul a.1 b.2) (pf_mul (pf_c 1) (pf_mul b.1 a.2))) (pf_mul a.2 b.2) L code L') ∨
  (k = 6 ∧ pr_lim (pf_add (pf_mul a.1 b.2) (pf_mul (pf_c (-1)) (pf_mul b.1 a.2))) (pf_mul a.2 b.2) L code L') ∨
  (k = 7 ∧ pr_lim (pf_mul a.1 b.1) (pf_mul a.2 b.2) L code L') ∨
  (k = 8 ∧ ((b.1 = pf_c 0 ∧ code = 3) ∨ (b.1 ≠ pf_c 0 ∧ pr_lim (pf_mul a.1 b.2) (pf_mul a.2 b.1) L code L'))) ∨
  (k = 11 ∧ ∃ m z, pr_sz a.1 a.2 m ∧ pr_sz b.1 b.2 z ∧
    (((z = 0 ∧ pf_hn a.2 (b.1 0) 16 17 = 0) ∧ code = 3) ∨ (¬ (z = 0 ∧ pf_hn a.2 (b.1 0) 16 17 = 0) ∧ ((8 < m * z ∧ code = 4) ∨ (m * z ≤ 8 ∧ pr_lim (pr_put a.1 b.1 b.2 m) (pr_put a.2 b.1 b.2 m) L code L')))))
def pr_st (vs : Nat → Option (PF × PF)) (k : Nat) (c : Int32) (L : List (PF × PF)) (code : Nat) (L' : List (PF × PF)) : Prop :=
  pr_at vs k c L code L' ∨ (∃ a T, L = a :: T ∧ pr_un k c a T code L') ∨ (∃ a b T, L = b :: a :: T ∧ pr_bi k a b T code L')
def pr_same (c1 c2 : Nat) (L1 L2 : List (PF × PF)) : Prop := c1 = c2 ∧ (c1 = 0 → L1 = L2)
theorem pr_same_c {c1 c2 c : Nat} {L1 L2 : List (PF × PF)} (h1 : c1 = c) (h2 : c2 = c) (hc : c ≠ 0) : pr_same c1 c2 L1 L2 := ⟨by omega, fun z => by omega⟩
theorem pr_lim_d {P0 Q0 : PF} {L L1 L2 : List (PF × PF)} {c1 c2 : Nat} (h1 : pr_lim P0 Q0 L c1 L1) (h2 : pr_lim P0 Q0 L c2 L2) : pr_same c1 c2 L1 L2 := by
  obtain ⟨R, r1, x1⟩ := h1
  obtain ⟨R', r2, x2⟩ := h2
  have e := pr_red_u r1 r2
  have eR : R = R' := Prod.ext e.1 e.2
  subst eR
  rcases x1 with ⟨a, b, c, d⟩ | ⟨a, c⟩
  · rcases x2 with ⟨a', b', c', d'⟩ | ⟨a', c'⟩
    · exact ⟨by omega, fun _ => by rw [d, d']⟩
    · exact absurd ⟨a, b⟩ a'
  · rcases x2 with ⟨a', b', c', d'⟩ | ⟨a', c'⟩
    · exact absurd ⟨a', b'⟩ a
    · exact pr_same_c c c' (by decide)
theorem pr_at_d {vs : Nat → Option (PF × PF)} {k c1 c2 : Nat} {c : Int32} {L L1 L2 : List (PF × PF)} (h1 : pr_at vs k c L c1 L1) (h2 : pr_at vs k c L c2 L2) : pr_same c1 c2 L1 L2 := by
  rcases h1 with ⟨k1, x1⟩ | ⟨k1, x1⟩ | ⟨k1, n, hn, en, x1⟩
  · rcases h2 with ⟨k2, x2⟩ | ⟨k2, x2⟩ | ⟨k2, _⟩
    · exact pr_lim_d x1 x2
    · omega
    · omega
  · rcases h2 with ⟨k2, x2⟩ | ⟨k2, x2⟩ | ⟨k2, _⟩
    · omega
    · exact pr_lim_d x1 x2
    · omega
  · rcases h2 with ⟨k2, x2⟩ | ⟨k2, x2⟩ | ⟨k2, n', hn', en', x2⟩
    · omega
    · omega
    · have e : n = n' := (nI_eq (by omega) (by omega)).mp (en.symm.trans en')
      subst e
      rcases x1 with ⟨a, b⟩ | ⟨w, a, b⟩
      · rcases x2 with ⟨a', b'⟩ | ⟨w', a', b'⟩
        · exact pr_same_c b b' (by decide)
        · rw [a] at a'; exact nomatch a'
      · rcases x2 with ⟨a', b'⟩ | ⟨w', a', b'⟩
        · rw [a] at a'; exact nomatch a'
        · rw [a] at a'
          injection a' with e2
          subst e2
          exact pr_lim_d b b'
theorem pr_pm {q q' : Nat} (hq : q ≤ 8) (hq' : q' ≤ 8) (h1 : 1 ≤ q') (e : nI q = -nI q') : False := by
  have e2 := congrArg Int32.toInt e
  rw [Int32.toInt_neg, nI_toInt (by omega), nI_toInt (by omega), Int.bmod_eq_of_le (by omega) (by omega)] at e2
  omega
theorem pr_mm {q q' : Nat} (hq : q ≤ 8) (hq' : q' ≤ 8) (e : -nI q = -nI q') : q = q' := by
  have e2 := congrArg Int32.toInt e
  rw [Int32.toInt_neg, Int32.toInt_neg, nI_toInt (by omega), nI_toInt (by omega), Int.bmod_eq_of_le (by omega) (by omega), Int.bmod_eq_of_le (by omega) (by omega)] at e2
  omega
theorem pr_un_d {k c1 c2 : Nat} {c : Int32} {a : PF × PF} {L L1 L2 : List (PF × PF)} (h1 : pr_un k c a L c1 L1) (h2 : pr_un k c a L c2 L2) : pr_same c1 c2 L1 L2 := by
  rcases h1 with ⟨k1, x1⟩ | ⟨k1, x1⟩ | ⟨k1, q, m, hq, sm, x1⟩
  · rcases h2 with ⟨k2, x2⟩ | ⟨k2, x2⟩ | ⟨k2, _⟩
    · exact pr_lim_d x1 x2
    · omega
    · omega
  · rcases h2 with ⟨k2, x2⟩ | ⟨k2, x2⟩ | ⟨k2, _⟩
    · omega
    · exact pr_lim_d x1 x2
    · omega
  · rcases h2 with ⟨k2, x2⟩ | ⟨k2, x2⟩ | ⟨k2, q', m', hq', sm', x2⟩
    · omega
    · omega
    · have em := pr_sz_u sm sm'
      subst em
      rcases x1 with ⟨e1, y1⟩ | ⟨⟨e1, p1⟩, y1⟩
      · rcases x2 with ⟨e2, y2⟩ | ⟨⟨e2, p2⟩, y2⟩
        · have e : q = q' := (nI_eq (by omega) (by omega)).mp (e1.symm.trans e2)
          subst e
          rcases y1 with ⟨u1, v1⟩ | ⟨u1, v1⟩
          · rcases y2 with ⟨u2, v2⟩ | ⟨u2, v2⟩
            · exact pr_lim_d v1 v2
            · omega
          · rcases y2 with ⟨u2, v2⟩ | ⟨u2, v2⟩
            · omega
            · exact pr_same_c v1 v2 (by decide)
        · exact (pr_pm hq hq' p2 (e1.symm.trans e2)).elim
      · rcases x2 with ⟨e2, y2⟩ | ⟨⟨e2, p2⟩, y2⟩
        · exact (pr_pm hq' hq p1 (e2.symm.trans e1)).elim
        · have e : q = q' := pr_mm hq hq' (e1.symm.trans e2)
          subst e
          rcases y1 with ⟨z1, w1⟩ | ⟨z1, y1⟩
          · rcases y2 with ⟨z2, w2⟩ | ⟨z2, y2⟩
            · exact pr_same_c w1 w2 (by decide)
            · exact absurd z1 z2
          · rcases y2 with ⟨z2, w2⟩ | ⟨z2, y2⟩
            · exact absurd z2 z1
            · rcases y1 with ⟨u1, v1⟩ | ⟨u1, v1⟩
              · rcases y2 with ⟨u2, v2⟩ | ⟨u2, v2⟩
                · exact pr_lim_d v1 v2
                · omega
              · rcases y2 with ⟨u2, v2⟩ | ⟨u2, v2⟩
                · omega
                · exact pr_same_c v1 v2 (by decide)
theorem pr_bi_d {k c1 c2 : Nat} {a b : PF × PF} {L L1 L2 : List (PF × PF)} (h1 : pr_bi k a b L c1 L1) (h2 : pr_bi k a b L c2 L2) : pr_same c1 c2 L1 L2 := by
  rcases h1 with ⟨k1, x1⟩ | ⟨k1, x1⟩ | ⟨k1, x1⟩ | ⟨k1, x1⟩ | ⟨k1, x1⟩
  all_goals rcases h2 with ⟨k2, x2⟩ | ⟨k2, x2⟩ | ⟨k2, x2⟩ | ⟨k2, x2⟩ | ⟨k2, x2⟩
  all_goals first | exact absurd (k1.symm.trans k2) (by decide) | skip
  · exact pr_lim_d x1 x2
  · exact pr_lim_d x1 x2
  · exact pr_lim_d x1 x2
  · rcases x1 with ⟨z1, w1⟩ | ⟨z1, w1⟩
    · rcases x2 with ⟨z2, w2⟩ | ⟨z2, w2⟩
      · exact pr_same_c w1 w2 (by decide)
      · exact absurd z1 z2
    · rcases x2 with ⟨z2, w2⟩ | ⟨z2, w2⟩
      · exact absurd z2 z1
      · exact pr_lim_d w1 w2
  · obtain ⟨m, z, sm, sz, x1⟩ := x1
    obtain ⟨m', z', sm', sz', x2⟩ := x2
    have em := pr_sz_u sm sm'
    have ez := pr_sz_u sz sz'
    subst em ez
    rcases x1 with ⟨z1, w1⟩ | ⟨z1, w1⟩
    · rcases x2 with ⟨z2, w2⟩ | ⟨z2, w2⟩
      · exact pr_same_c w1 w2 (by decide)
      · exact absurd z1 z2
    · rcases x2 with ⟨z2, w2⟩ | ⟨z2, w2⟩
      · exact absurd z2 z1
      · rcases w1 with ⟨u1, v1⟩ | ⟨u1, v1⟩
        · rcases w2 with ⟨u2, v2⟩ | ⟨u2, v2⟩
          · exact pr_same_c v1 v2 (by decide)
          · omega
        · rcases w2 with ⟨u2, v2⟩ | ⟨u2, v2⟩
          · omega
          · exact pr_lim_d v1 v2
theorem pr_at_k {vs : Nat → Option (PF × PF)} {k c1 : Nat} {c : Int32} {L L1 : List (PF × PF)} (h : pr_at vs k c L c1 L1) : k ≤ 2 := by
  rcases h with ⟨e, _⟩ | ⟨e, _⟩ | ⟨e, _⟩ <;> omega
theorem pr_un_k {k c1 : Nat} {c : Int32} {a : PF × PF} {L L1 : List (PF × PF)} (h : pr_un k c a L c1 L1) : k = 12 ∨ k = 10 ∨ k = 9 := by
  rcases h with ⟨e, _⟩ | ⟨e, _⟩ | ⟨e, _⟩ <;> omega
theorem pr_bi_k {k c1 : Nat} {a b : PF × PF} {L L1 : List (PF × PF)} (h : pr_bi k a b L c1 L1) : k = 5 ∨ k = 6 ∨ k = 7 ∨ k = 8 ∨ k = 11 := by
  rcases h with ⟨e, _⟩ | ⟨e, _⟩ | ⟨e, _⟩ | ⟨e, _⟩ | ⟨e, _⟩ <;> omega
theorem pr_st_d {vs : Nat → Option (PF × PF)} {k c1 c2 : Nat} {c : Int32} {L L1 L2 : List (PF × PF)} (h1 : pr_st vs k c L c1 L1) (h2 : pr_st vs k c L c2 L2) : pr_same c1 c2 L1 L2 := by
  rcases h1 with x1 | ⟨a, T, e1, x1⟩ | ⟨a, b, T, e1, x1⟩
  · have k1 := pr_at_k x1
    rcases h2 with x2 | ⟨a', T', e2, x2⟩ | ⟨a', b', T', e2, x2⟩
    · exact pr_at_d x1 x2
    · have k2 := pr_un_k x2; omega
    · have k2 := pr_bi_k x2; omega
  · have k1 := pr_un_k x1
    rcases h2 with x2 | ⟨a', T', e2, x2⟩ | ⟨a', b', T', e2, x2⟩
    · have k2 := pr_at_k x2; omega
    · rw [e1] at e2
      injection e2 with u v
      subst u v
      exact pr_un_d x1 x2
    · have k2 := pr_bi_k x2; omega
  · have k1 := pr_bi_k x1
    rcases h2 with x2 | ⟨a', T', e2, x2⟩ | ⟨a', b', T', e2, x2⟩
    · have k2 := pr_at_k x2; omega
    · have k2 := pr_un_k x2; omega
    · rw [e1] at e2
      injection e2 with u v
      injection v with v w
      subst u v w
      exact pr_bi_d x1 x2
/-- a run of steps, the newest first: (kind, place of the token) -/
def pr_run (vs : Nat → Option (PF × PF)) (cn : Nat → Int32) : List (Nat × Nat) → Nat → Nat → List (PF × PF) → Prop
  | [], code, _, L => code = 0 ∧ L = []
  | p :: t, code, place, L => ∃ (c0 p0 : Nat) (L0 : List (PF × PF)), pr_run vs cn t c0 p0 L0 ∧ ((c0 ≠ 0 ∧ code = c0 ∧ place = p0) ∨ (c0 = 0 ∧ pr_st vs p.1 (cn p.2) L0 code L ∧ (code ≠ 0 → place = p.2)))
theorem pr_run_d {vs : Nat → Option (PF × PF)} {cn : Nat → Int32} : ∀ (ro : List (Nat × Nat)) (c1 p1 c2 p2 : Nat) (L1 L2 : List (PF × PF)), pr_run vs cn ro c1 p1 L1 → pr_run vs cn ro c2 p2 L2 → c1 = c2 ∧ (c1 ≠ 0 → p1 = p2) ∧ (c1 = 0 → L1 = L2) := by
  intro ro
  induction ro with
  | nil =>
    intro c1 p1 c2 p2 L1 L2 h1 h2
    have a1 : c1 = 0 ∧ L1 = [] := h1
    have a2 : c2 = 0 ∧ L2 = [] := h2
    exact ⟨by omega, fun z => absurd a1.1 z, fun _ => by rw [a1.2, a2.2]⟩
  | cons p t ih =>
    intro c1 p1 c2 p2 L1 L2 h1 h2
    obtain ⟨a1, b1, M1, r1, x1⟩ := h1
    obtain ⟨a2, b2, M2, r2, x2⟩ := h2
    obtain ⟨e, f, l⟩ := ih _ _ _ _ _ _ r1 r2
    rcases x1 with ⟨n1, y1, z1⟩ | ⟨n1, y1, z1⟩
    · rcases x2 with ⟨n2, y2, z2⟩ | ⟨n2, y2, z2⟩
      · have := f n1
        exact ⟨by omega, fun _ => by omega, fun z => by omega⟩
      · omega
    · rcases x2 with ⟨n2, y2, z2⟩ | ⟨n2, y2, z2⟩
      · omega
      · have el := l n1
        subst el
        obtain ⟨s1, s2⟩ := pr_st_d y1 y2
        exact ⟨s1, fun z => by rw [z1 z, z2 (by omega)], s2⟩
theorem pr_run_f {vs : Nat → Option (PF × PF)} {cn : Nat → Int32} {t : List (Nat × Nat)} {c p : Nat} {L : List (PF × PF)} (h : pr_run vs cn t c p L) (hc : c ≠ 0) (s : Nat × Nat) (L' : List (PF × PF)) : pr_run vs cn (s :: t) c p L' :=
  ⟨c, p, L, h, Or.inl ⟨hc, rfl, rfl⟩⟩
theorem pr_run_s {vs : Nat → Option (PF × PF)} {cn : Nat → Int32} {t : List (Nat × Nat)} {p code : Nat} {L L' : List (PF × PF)} (h : pr_run vs cn t 0 p L) (s : Nat × Nat) (hs : pr_st vs s.1 (cn s.2) L code L') : pr_run vs cn (s :: t) code s.2 L' :=
  ⟨0, p, L, h, Or.inr ⟨rfl, hs, fun _ => rfl⟩⟩
