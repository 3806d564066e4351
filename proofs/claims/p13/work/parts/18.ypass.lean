/-! The reference's atom and pass: control by the kinds of the tokens alone -/
def ya_eo (k : Nat) : Bool := decide (k ≤ 2) || decide (k = 4) || decide (k = 9) || decide (k = 10)
def ya_fit (k dp : Nat) (op sg : Bool) : Bool := if op then decide (k ≤ 3) || (decide (k = 6) && sg) else decide (5 ≤ k) || (decide (k = 4) && decide (0 < dp))
/-- the place of the first token that no formula has there; none for a formula -/
def ya_sc (kd : Nat → Nat) : Nat → Nat → Nat → Bool → Bool → Option Nat
  | 0, i, dp, op, _ => if op || decide (0 < dp) then some i else none
  | r + 1, i, dp, op, sg => if ya_fit (kd i) dp op sg then ya_sc kd r (i + 1) (if kd i = 3 then dp + 1 else if kd i = 4 then dp - 1 else dp) (!ya_eo (kd i)) (decide (kd i = 3)) else some i
def ya_r : Option Nat → Int32
  | none => -1
  | some p => nI p
def ya_tk (ak an : Nat → Int32) (cnt : Nat) (kd : Nat → Nat) : Prop := ∀ j, j < cnt → ak j = nI (kd j) ∧ kd j ≤ 11 ∧ (kd j = 2 → ∃ n, n < 6 ∧ an j = nI n) ∧ (kd j = 9 → ∃ q, q ≤ 8 ∧ (an j = nI q ∨ (an j = -nI q ∧ 1 ≤ q)))
theorem ya_bin_le (os : Nat → Nat) (o : Nat) : ya_bin os o ≤ o := by
  induction o with
  | zero => exact Nat.le_refl _
  | succ o ih =>
    show ya_bin os o + (if os o = 3 then 0 else if os o = 12 then 0 else 1) ≤ o + 1
    by_cases c : os o = 3
    · rw [if_pos c]; omega
    · rw [if_neg c]
      by_cases c2 : os o = 12
      · rw [if_pos c2]; omega
      · rw [if_neg c2]; omega
def ya_pu (os : Nat → Nat) (o k : Nat) : Nat → Nat := fun j => if j = o then k else os j
theorem ya_pu_b (os : Nat → Nat) (o k : Nat) : ∀ n, n ≤ o → ya_bin (ya_pu os o k) n = ya_bin os n ∧ ya_dep (ya_pu os o k) n = ya_dep os n := by
  intro n
  induction n with
  | zero => intro _; exact ⟨rfl, rfl⟩
  | succ n ih =>
    intro hn
    have e : ya_pu os o k n = os n := if_neg (by omega)
    refine ⟨?_, ?_⟩
    · show ya_bin (ya_pu os o k) n + (if ya_pu os o k n = 3 then 0 else if ya_pu os o k n = 12 then 0 else 1) = _
      rw [(ih (by omega)).1, e]; rfl
    · show ya_dep (ya_pu os o k) n + (if ya_pu os o k n = 3 then 1 else 0) = _
      rw [(ih (by omega)).2, e]; rfl
theorem ya_pu_o (os : Nat → Nat) (o k : Nat) : ya_pu os o k o = k := if_pos rfl
theorem ya_pu_os {a : Nat → Int32} {o : Nat} {os : Nat → Nat} {k : Nat} (h : ya_os a o os) (hk : ya_set k) : ya_os (upd a o (nI k)) (o + 1) (ya_pu os o k) := by
  intro j hj
  by_cases c : j = o
  · subst c; rw [ya_pu_o]; exact ⟨pk_us, hk⟩
  · have e : ya_pu os o k j = os j := if_neg c
    rw [e, pk_un c]; exact h j (by omega)
section
variable {f_count f_place f_opens f_top f_fault f_faultAt f_dry f_found : Int32} {a_c a_there a_kind a_num a_open a_openAt a_power a_table : Nat → Int32}
theorem yc_push {post : SY → Prop} {x xat : Int32} (o : Nat) (ho : o < 30) (h : post (f_count, f_place, nI (o + 1), f_top, f_fault, f_faultAt, f_dry, f_found, a_c, a_there, a_kind, a_num, upd a_open o x, upd a_openAt o xat, a_power, a_table)) : wpY_push post (f_count, f_place, nI o, f_top, f_fault, f_faultAt, f_dry, f_found, a_c, a_there, a_kind, a_num, a_open, a_openAt, a_power, a_table) x xat := by
  unfold wpY_push
  dsimp only
  rw [nI_clamp (by omega)]
  exact ⟨vp_in_nI ho (by omega), nm_e ⟨vp_in_nI ho (by omega), nm_e (nm_r (nI_1 o) h)⟩⟩
theorem yc_atom {post : SY → Prop} {g : Nat → Fin 5} {xk xn xat : Int32} (k t : Nat) (hk : k ≤ 2) (ht : t ≤ 24) (hn : k = 2 → ∃ n, n < 6 ∧ xn = nI n) (pl9 : ∀ s, 52 ≤ s → s < 66 → pf_ln (fi_s g s) 9) (inv : ya_in f_dry f_fault t g)
    (h : ∀ (g' : Nat → Fin 5) (ft fa : Int32), ya_pl g g' → ya_in f_dry ft (t + 1) g' → post (f_count, f_place, f_opens, nI (t + 1), ft, fa, f_dry, f_found, fi_m g', a_there, a_kind, a_num, a_open, a_openAt, a_power, a_table)) (ek : xk = nI k := by rfl) :
    wpY_atom post (f_count, f_place, f_opens, nI t, f_fault, f_faultAt, f_dry, f_found, fi_m g, a_there, a_kind, a_num, a_open, a_openAt, a_power, a_table) xk xn xat := by
  subst ek
  unfold wpY_atom
  dsimp only
  refine nm_r (nI_1 t) ?_
  by_cases cd : f_dry = 0
  · refine br_t cd ?_
    by_cases cf : f_fault = 0
    · have inv2 := inv.1 cd cf
      refine br_t cf ?_
      subst cf
      have e2 : (2 : Int32) * (nI (t + 1) - 1) = nI (2 * t) := by rw [fi_t1, fi_2]
      have e3 : nI (2 * t) + 1 = nI (2 * t + 1) := nI_1 (2 * t)
      refine nm_r e2 ?_
      have lc : ∀ c : Fin 5, pf_ln (pf_c c) 20 := fun c => pf_ln_mono (pf_c_ln c) (by omega)
      -- behind the two becomes: the slots 2t and 2t+1 hold small things
      have go : ∀ z0 : Int32, wY_atom_47 post (nI k) xn xat (nI (2 * t)) z0 (nI (2 * t)) f_count f_place f_opens (nI (t + 1)) (0) f_faultAt f_dry f_found (fi_m g) a_there a_kind a_num a_open a_openAt a_power a_table := by
        intro z0
        unfold wY_atom_47
        refine yc_become (2 * t) (by omega) ?_
        refine yc_become (2 * t + 1) (by omega) ?_ e3
        -- what is left, from any small slots
        have rest : ∀ g1 : Nat → Fin 5, (∀ s, s ≠ 2 * t → s ≠ 2 * t + 1 → fi_s g1 s = fi_s g s) → pf_ln (fi_s g1 (2 * t)) 9 → pf_ln (fi_s g1 (2 * t + 1)) 9 → wY_atom_77 post (nI k) xn xat (nI (2 * t)) f_count f_place f_opens (nI (t + 1)) (0) f_faultAt f_dry f_found (fi_m g1) a_there a_kind a_num a_open a_openAt a_power a_table := by
          intro g1 fr l0 l1
          have fin : ∀ (g2 : Nat → Fin 5) (ft fa : Int32), (∀ s, s ≠ 2 * t → s ≠ 2 * t + 1 → fi_s g2 s = fi_s g s) → pf_ln (fi_s g2 (2 * t)) 9 → pf_ln (fi_s g2 (2 * t + 1)) 9 → post (f_count, f_place, f_opens, nI (t + 1), ft, fa, f_dry, f_found, fi_m g2, a_there, a_kind, a_num, a_open, a_openAt, a_power, a_table) := by
            intro g2 ft fa fr2 a0 a1
            refine h g2 ft fa (fun s h1 h2 => fr2 s (by omega) (by omega)) ⟨fun _ _ s hs => ?_, fun z => absurd cd z⟩
            by_cases c1 : s = 2 * t
            · rw [c1]; exact a0
            · by_cases c2 : s = 2 * t + 1
              · rw [c2]; exact a1
              · rw [fr2 s c1 c2]; exact inv2 s (by omega)
          unfold wY_atom_77
          by_cases c2 : k = 2
          · obtain ⟨n, hn6, en⟩ := hn c2
            subst en
            have c98 : ∀ ft fa : Int32, wY_atom_98 post (nI n) (nI (2 * t)) f_count f_place f_opens (nI (t + 1)) (ft) (fa) f_dry f_found (fi_m g1) a_there a_kind a_num a_open a_openAt a_power a_table := by
              intro ft fa
              unfold wY_atom_98
              have e52 : (52 : Int32) + 2 * nI n = nI (52 + 2 * n) := by rw [fi_2]; exact nI_add 52 (2 * n)
              have e53 : (53 : Int32) + 2 * nI n = nI (53 + 2 * n) := by rw [fi_2]; exact nI_add 53 (2 * n)
              refine yc_copy (52 + 2 * n) (2 * t) (by omega) (by omega) ?_ e52
              refine yc_copy (53 + 2 * n) (2 * t + 1) (by omega) (by omega) ?_ e53 e3
              refine fin _ ft fa (fun s h1 h2 => ?_) ?_ ?_
              · rw [fi_sq h2, fi_sq h1]; exact fr s h1 h2
              · rw [fi_sq (by omega), fi_sp (fi_s_ln _ _), fr _ (by omega) (by omega)]; exact pl9 _ (by omega) (by omega)
              · rw [fi_sp (fi_s_ln _ _), fi_sq (by omega), fr _ (by omega) (by omega)]; exact pl9 _ (by omega) (by omega)
            refine br_t (by rw [c2]; rfl) ⟨vp_in_nI (by omega) (by omega), ?_⟩
            refine br_c (fun _ => br_t rfl (c98 2 xat)) (fun _ => c98 0 f_faultAt)
          · exact br_f (fun e => c2 ((nI_eq (b := 2) (by omega) (by omega)).mp e)) (fin g1 0 f_faultAt fr l0 l1)
        by_cases c1 : k = 1
        · have ex : (20 : Int32) * nI (2 * t) + 1 = nI (20 * (2 * t) + 1) := by rw [fi_ix0, nI_1]
          refine br_t (by rw [c1]; rfl) ⟨pk_in (20 * (2 * t) + 1) 1800 (by omega) ex, nm_r (e' := fi_m (fi_p (fi_p g (2 * t + 1) (pf_c (fi_z 1))) (2 * t) (fun k => if k = 1 then 1 else pf_c (fi_z z0) k))) ?_ (rest _ (fun s h1 h2 => ?_) ?_ ?_)⟩
          · rw [ex, nI_clamp (by omega), fi_pcm (by omega)]
            exact fi_pu (x := 1) (by omega) (fun k _ => rfl)
          · rw [fi_sq h1, fi_sq h2]
          · have l2 : pf_ln (fun k => if k = 1 then 1 else pf_c (fi_z z0) k) 2 := fun k hk => by
              show (if k = 1 then 1 else pf_c (fi_z z0) k) = 0
              rw [if_neg (by omega)]; exact pf_c_ln _ k (by omega)
            rw [fi_sp (pf_ln_mono l2 (by omega))]; exact pf_ln_mono l2 (by omega)
          · rw [fi_sq (by omega), fi_sp (lc _)]; exact pf_ln_mono (pf_c_ln _) (by omega)
        · refine br_f (fun e => c1 ((nI_eq (b := 1) (by omega) (by omega)).mp e)) (rest _ (fun s h1 h2 => ?_) ?_ ?_)
          · rw [fi_sq h2, fi_sq h1]
          · rw [fi_sq (by omega), fi_sp (lc _)]; exact pf_ln_mono (pf_c_ln _) (by omega)
          · rw [fi_sp (lc _)]; exact pf_ln_mono (pf_c_ln _) (by omega)
      exact br_c (fun _ => go xn) (fun _ => go 0)
    · exact br_f cf (h g f_fault f_faultAt (ya_pl_r g) ⟨fun _ e => absurd e cf, fun z => absurd cd z⟩)
  · exact br_f cd (h g f_fault f_faultAt (ya_pl_r g) ⟨fun e => absurd e cd, inv.2⟩)
end
