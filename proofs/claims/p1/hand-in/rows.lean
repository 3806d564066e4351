section
/-! One call on a fresh object: both states are those that the constructors make -/
def pr_X : SX := (0, (-1), 0, 0, 0, 0, (fun _ => 0), (fun _ => 0), (fun _ => 0), (fun _ => 0), (fun _ => 0), (fun _ => 0), (fun _ => 0), (fun _ => 0), (fun _ => 0), (fun _ => 0), (fun _ => 0), (fun _ => 0), (fun _ => 0), (fun _ => 0), (fun _ => 0), (fun _ => 0), (fun _ => 0), (fun _ => 0), (fun _ => 0), (fun _ => 0), (fun _ => 0), (fun _ => 0), (fun _ => 0), (fun _ => 0), (fun _ => 0))
def pr_Y : SY := (0, (-1), 0, 0, 0, 0, 0, 0, (fun _ => 0), (fun _ => 0), (fun _ => 0), (fun _ => 0), (fun _ => 0), (fun _ => 0), (fun _ => 0), (fun _ => 0))
theorem pr_0 : (0 : Int32).toInt = 0 := by decide
theorem pr_5 : (5 : Int32).toInt = 5 := by decide
theorem pr_6 : (6 : Int32).toInt = 6 := by decide
theorem pr_7 : (7 : Int32).toInt = 7 := by decide
theorem pr_8 : (8 : Int32).toInt = 8 := by decide
theorem pr_m1 : (-1 : Int32).toInt = -1 := by decide
theorem pr_in7 {a : Int32} (h0 : ¬ a < 0) (h7 : ¬ 7 ≤ a) : vp_in a 7 := by
  rw [Int32.not_lt, Int32.le_iff_toInt_le, pr_0] at h0
  rw [Int32.not_le, Int32.lt_iff_toInt_lt, pr_7] at h7
  rw [vp_in_iff]; omega
theorem pr_in6 {a : Int32} (h0 : ¬ a < 0) (h7 : a < 6) : vp_in a 7 := by
  rw [Int32.not_lt, Int32.le_iff_toInt_le, pr_0] at h0
  rw [Int32.lt_iff_toInt_lt, pr_6] at h7
  rw [vp_in_iff]; omega
theorem pr_in5 {a : Int32} (h0 : ¬ a < 0) (h7 : ¬ 5 < a) : vp_in a 7 := by
  rw [Int32.not_lt, Int32.le_iff_toInt_le, pr_0] at h0
  rw [Int32.not_lt, Int32.le_iff_toInt_le, pr_5] at h7
  rw [vp_in_iff]; omega
theorem pr_56 {a : Int32} : a < 6 ↔ ¬ 5 < a := by
  rw [Int32.not_lt, Int32.lt_iff_toInt_lt, Int32.le_iff_toInt_le, pr_5, pr_6]; omega
theorem pr_88 {a : Int32} : a ≤ 8 ↔ ¬ 8 < a := by rw [Int32.not_lt]
theorem pr_nm1 {a : Int32} (h0 : ¬ a < 0) : ¬ a < -1 := by
  rw [Int32.not_lt, Int32.le_iff_toInt_le, pr_0] at h0
  rw [Int32.not_lt, Int32.le_iff_toInt_le, pr_m1]; omega
theorem pr_le1 {a : Int32} (h0 : ¬ a < 0) : -1 ≤ a := by
  rw [← Int32.not_lt]; exact pr_nm1 h0
theorem pr_hp {post : Int32 → Prop} {a b : Int32} (h : post 0) : wpX_hasPart post pr_X a b := by
  unfold wpX_hasPart pr_X
  dsimp only
  by_cases h0 : a < 0
  · exact br_t h0 h
  · by_cases h7 : 7 ≤ a
    · exact br_f h0 (br_t h7 h)
    · have hin := pr_in7 h0 h7
      by_cases b0 : b = 0
      · exact br_f h0 (br_f h7 (br_t b0 ⟨hin, br_t rfl h⟩))
      · by_cases b1 : b = 1
        · exact br_f h0 (br_f h7 (br_f b0 (br_t b1 ⟨hin, br_t rfl h⟩)))
        · exact br_f h0 (br_f h7 (br_f b0 (br_f b1 h)))
theorem pr_hf {post : Int32 → SX → Prop} {a b c : Int32} (h : post 0 pr_X) : wpX_hasFactor post pr_X a b c := by
  unfold wpX_hasFactor
  exact pr_hp (br_t rfl h)
theorem pr_has {post : Int32 → Prop} {a : Int32} (h : post 0) : wpY_has post pr_Y a := by
  unfold wpY_has pr_Y
  dsimp only
  by_cases h0 : a < 0
  · exact br_t h0 h
  · by_cases h7 : 7 ≤ a
    · exact br_f h0 (br_t h7 h)
    · exact br_f h0 (br_f h7 ⟨pr_in7 h0 h7, br_t rfl h⟩)
theorem pr_pt {post : Int32 → Prop} {a b : Int32} (h : post (-1)) : wpY_part post pr_Y a b := by
  unfold wpY_part
  exact pr_has (br_t rfl h)
theorem pr_fs {post : Int32 → SY → Prop} {a b : Int32} (h : post (-1) pr_Y) : wpY_factors post pr_Y a b := by
  unfold wpY_factors
  exact pr_pt (br_t (by decide) h)
end
section
def i_Rel (k : Nat) (u : SX) (v : SY) : Prop := k = 0 → u = pr_X ∧ v = pr_Y
theorem i_up {k : Nat} {u : SX} {v : SY} (h : i_Rel k u v) : i_Rel (k + 5) u v := fun e => absurd e (by omega)
theorem i_vc0 : wpX_init (fun u => wpY_init (fun v => i_Rel 0 u v)) := fun _ => ⟨rfl, rfl⟩
theorem pr_r {u : SX} {v : SY} (k : Nat) : i_Rel (k + 5) u v := fun e => absurd e (by omega)
theorem pr_i {k : Nat} {u : SX} {v : SY} (I : i_Rel k u v) (hk : k + 5 ≤ 5) : u = pr_X ∧ v = pr_Y := I (by omega)
theorem i_vc_token {k : Nat} {u : SX} {v : SY} (I : i_Rel k u v) (hk : k + 5 ≤ 5) (v1 : Int32) (v2 : Int32) : wpX_token (fun r u' => wpY_token (fun r' v' => r' = r ∧ i_Rel (k + 5) u' v') v v1 v2) u v1 v2 := by
  obtain ⟨rfl, rfl⟩ := pr_i I hk
  unfold wpX_token wpY_token pr_X pr_Y
  dsimp only
  by_cases h0 : v1 < 0
  · exact br_t h0 (br_t h0 ⟨rfl, pr_r k⟩)
  by_cases h11 : 11 < v1
  · exact br_f h0 (br_t h11 (br_f h0 (br_t h11 ⟨rfl, pr_r k⟩)))
  refine br_f h0 (br_f h11 (br_t (by decide) ?_))
  have hin : vp_in (0 : Int32) 24 := vp_in_iff.mpr (by decide)
  have h24 : ¬ (0 : Int32) = 24 := by decide
  have hlt : (0 : Int32) < 24 := by decide
  by_cases h2 : v1 = 2
  · by_cases n0 : v2 < 0
    · exact br_t h2 (br_t n0 (br_f h0 (br_f h11 (br_t h2 (br_t n0 ⟨rfl, pr_r k⟩)))))
    · by_cases n5 : 5 < v2
      · exact br_t h2 (br_f n0 (br_f (fun z => pr_56.mp z n5) (br_f h0 (br_f h11 (br_t h2 (br_f n0 (br_t n5 ⟨rfl, pr_r k⟩)))))))
      · have h9 : ¬ v1 = 9 := by rw [h2]; decide
        exact br_t h2 (br_f n0 (br_t (pr_56.mpr n5) (br_f h9 ⟨hin, fun _ _ => ⟨hin, fun _ _ _ _ => br_f h0 (br_f h11 (br_t h2 (br_f n0 (br_f n5 (br_f h9 (br_f h24 ⟨hin, fun _ _ => ⟨hin, fun _ _ _ _ => ⟨rfl, pr_r k⟩⟩⟩))))))⟩⟩)))
  · by_cases h9 : v1 = 9
    · by_cases m8 : v2 < -8
      · exact br_f h2 (br_t h9 (br_t m8 (br_f h0 (br_f h11 (br_f h2 (br_t h9 (br_t m8 ⟨rfl, pr_r k⟩)))))))
      · by_cases p8 : 8 < v2
        · exact br_f h2 (br_t h9 (br_f m8 (br_f (fun z => pr_88.mp z p8) (br_f h0 (br_f h11 (br_f h2 (br_t h9 (br_f m8 (br_t p8 ⟨rfl, pr_r k⟩)))))))))
        · exact br_f h2 (br_t h9 (br_f m8 (br_t (pr_88.mpr p8) ⟨hin, fun _ _ => ⟨hin, fun _ _ _ _ => br_f h0 (br_f h11 (br_f h2 (br_t h9 (br_f m8 (br_f p8 (br_f h24 ⟨hin, fun _ _ => ⟨hin, fun _ _ _ _ => ⟨rfl, pr_r k⟩⟩⟩))))))⟩⟩)))
    · exact br_f h2 (br_f h9 ⟨hin, fun _ _ => ⟨hin, fun _ _ _ _ => br_f h0 (br_f h11 (br_f h2 (br_f h9 (br_f h24 ⟨hin, fun _ _ => ⟨hin, fun _ _ _ _ => ⟨rfl, pr_r k⟩⟩⟩))))⟩⟩)
theorem i_vc_wipe {k : Nat} {u : SX} {v : SY} (I : i_Rel k u v) (hk : k + 5 ≤ 5) : wpX_wipe (fun r u' => wpY_wipe (fun r' v' => r' = r ∧ i_Rel (k + 5) u' v') v) u := by
  obtain ⟨rfl, rfl⟩ := pr_i I hk
  unfold wpX_wipe wpY_wipe pr_X pr_Y
  exact ⟨rfl, pr_r k⟩
theorem i_vc_evaluate {k : Nat} {u : SX} {v : SY} (I : i_Rel k u v) (hk : k + 5 ≤ 5) : wpX_evaluate (fun r u' => wpY_evaluate (fun r' v' => r' = r ∧ i_Rel (k + 5) u' v') v) u := by
  obtain ⟨rfl, rfl⟩ := pr_i I hk
  unfold wpX_evaluate wpY_evaluate pr_X pr_Y
  dsimp only
  intro a ea
  unfold wpX_findSyntaxFault
  dsimp only
  refine ⟨1, br_t (by decide) (br_f (by decide) (br_f (by decide) ?_))⟩
  intro b eb
  unfold wpY_pass
  dsimp only
  exact ⟨1, br_t (by decide) (br_f (by decide) (br_f (by decide) ⟨rfl, pr_r k⟩))⟩
theorem i_vc_place {k : Nat} {u : SX} {v : SY} (I : i_Rel k u v) (hk : k + 5 ≤ 5) : wpX_place (fun r => wpY_place (fun r' => r' = r ∧ i_Rel (k + 5) u v) v) u := by
  obtain ⟨rfl, rfl⟩ := pr_i I hk
  unfold wpX_place wpY_place pr_X pr_Y
  exact ⟨rfl, pr_r k⟩
theorem i_vc_store {k : Nat} {u : SX} {v : SY} (I : i_Rel k u v) (hk : k + 5 ≤ 5) (v1 : Int32) : wpX_store (fun r u' => wpY_store (fun r' v' => r' = r ∧ i_Rel (k + 5) u' v') v v1) u v1 := by
  obtain ⟨rfl, rfl⟩ := pr_i I hk
  have hY : ∀ u', wpY_store (fun r' v' => r' = 0 ∧ i_Rel (k + 5) u' v') pr_Y v1 := by
    intro u'
    unfold wpY_store pr_Y
    dsimp only
    by_cases h0 : v1 < 0
    · exact br_t h0 ⟨rfl, pr_r k⟩
    · by_cases h5 : 5 < v1
      · exact br_f h0 (br_t h5 ⟨rfl, pr_r k⟩)
      · exact br_f h0 (br_f h5 (br_t rfl ⟨rfl, pr_r k⟩))
  unfold wpX_store pr_X
  dsimp only
  by_cases h0 : v1 < 0
  · exact br_t h0 (hY _)
  · by_cases h6 : 6 ≤ v1
    · exact br_f h0 (br_t h6 (hY _))
    · exact br_f h0 (br_f h6 (br_t rfl (hY _)))
theorem i_vc_clear {k : Nat} {u : SX} {v : SY} (I : i_Rel k u v) (hk : k + 5 ≤ 5) (v1 : Int32) : wpX_clear (fun r u' => wpY_clear (fun r' v' => r' = r ∧ i_Rel (k + 5) u' v') v v1) u v1 := by
  obtain ⟨rfl, rfl⟩ := pr_i I hk
  have hY : ∀ u', wpY_clear (fun r' v' => r' = 0 ∧ i_Rel (k + 5) u' v') pr_Y v1 := by
    intro u'
    unfold wpY_clear pr_Y
    dsimp only
    by_cases h0 : v1 < 0
    · exact br_t h0 ⟨rfl, pr_r k⟩
    · by_cases h5 : 5 < v1
      · exact br_f h0 (br_t h5 ⟨rfl, pr_r k⟩)
      · exact br_f h0 (br_f h5 ⟨pr_in5 h0 h5, br_t rfl ⟨rfl, pr_r k⟩⟩)
  unfold wpX_clear pr_X
  dsimp only
  by_cases h0 : v1 < 0
  · exact br_t h0 (hY _)
  · by_cases h6 : v1 < 6
    · exact br_f h0 (br_t h6 ⟨pr_in6 h0 h6, nm_r rfl ⟨pr_in6 h0 h6, nm_r rfl ⟨rfl, hY _⟩⟩⟩)
    · exact br_f h0 (br_f h6 (hY _))
theorem i_vc_degree {k : Nat} {u : SX} {v : SY} (I : i_Rel k u v) (hk : k + 5 ≤ 5) (v1 : Int32) (v2 : Int32) : wpX_degree (fun r u' => wpY_degree (fun r' => r' = r ∧ i_Rel (k + 5) u' v) v v1 v2) u v1 v2 := by
  obtain ⟨rfl, rfl⟩ := pr_i I hk
  unfold wpX_degree
  refine pr_hp (br_t rfl ?_)
  unfold wpY_degree
  exact pr_pt (br_f (by decide) ⟨rfl, pr_r k⟩)
theorem i_vc_number {k : Nat} {u : SX} {v : SY} (I : i_Rel k u v) (hk : k + 5 ≤ 5) (v1 : Int32) (v2 : Int32) (v3 : Int32) : wpX_number (fun r u' => wpY_number (fun r' => r' = r ∧ i_Rel (k + 5) u' v) v v1 v2 v3) u v1 v2 v3 := by
  obtain ⟨rfl, rfl⟩ := pr_i I hk
  unfold wpX_number
  refine pr_hp (br_t rfl ?_)
  unfold wpY_number
  exact pr_pt (br_t (by decide) ⟨rfl, pr_r k⟩)
theorem i_vc_value {k : Nat} {u : SX} {v : SY} (I : i_Rel k u v) (hk : k + 5 ≤ 5) (v1 : Int32) (v2 : Int32) : wpX_value (fun r u' => wpY_value (fun r' => r' = r ∧ i_Rel (k + 5) u' v) v v1 v2) u v1 v2 := by
  obtain ⟨rfl, rfl⟩ := pr_i I hk
  unfold wpX_value
  refine pr_hp (br_t rfl ?_)
  unfold wpY_value
  exact pr_has (br_t rfl ⟨rfl, pr_r k⟩)
theorem i_vc_factors {k : Nat} {u : SX} {v : SY} (I : i_Rel k u v) (hk : k + 5 ≤ 5) (v1 : Int32) (v2 : Int32) : wpX_factors (fun r u' => wpY_factors (fun r' v' => r' = r ∧ i_Rel (k + 5) u' v') v v1 v2) u v1 v2 := by
  obtain ⟨rfl, rfl⟩ := pr_i I hk
  unfold wpX_factors
  refine pr_hp (br_t rfl ?_)
  exact pr_fs ⟨rfl, pr_r k⟩
theorem i_vc_factorDegree {k : Nat} {u : SX} {v : SY} (I : i_Rel k u v) (hk : k + 5 ≤ 5) (v1 : Int32) (v2 : Int32) (v3 : Int32) : wpX_factorDegree (fun r u' => wpY_factorDegree (fun r' v' => r' = r ∧ i_Rel (k + 5) u' v') v v1 v2 v3) u v1 v2 v3 := by
  obtain ⟨rfl, rfl⟩ := pr_i I hk
  unfold wpX_factorDegree
  refine pr_hf (br_t rfl ?_)
  unfold wpY_factorDegree
  refine pr_fs ?_
  by_cases h0 : v3 < 0
  · exact br_t h0 ⟨rfl, pr_r k⟩
  · exact br_f h0 (br_f (pr_nm1 h0) ⟨rfl, pr_r k⟩)
theorem i_vc_factor {k : Nat} {u : SX} {v : SY} (I : i_Rel k u v) (hk : k + 5 ≤ 5) (v1 : Int32) (v2 : Int32) (v3 : Int32) (v4 : Int32) : wpX_factor (fun r u' => wpY_factor (fun r' v' => r' = r ∧ i_Rel (k + 5) u' v') v v1 v2 v3 v4) u v1 v2 v3 v4 := by
  obtain ⟨rfl, rfl⟩ := pr_i I hk
  have hY : ∀ u', wpY_factor (fun r' v' => r' = 0 ∧ i_Rel (k + 5) u' v') pr_Y v1 v2 v3 v4 := by
    intro u'
    unfold wpY_factor
    refine pr_fs ?_
    by_cases h0 : v3 < 0
    · exact br_t h0 ⟨rfl, pr_r k⟩
    · exact br_f h0 (br_t (pr_le1 h0) ⟨rfl, pr_r k⟩)
  unfold wpX_factor
  by_cases h0 : v4 < 0
  · exact br_t h0 (hY _)
  · by_cases h8 : 8 < v4
    · exact br_f h0 (br_t h8 (hY _))
    · exact br_f h0 (br_f h8 (pr_hf (br_t rfl (hY _))))
theorem i_vc_power {k : Nat} {u : SX} {v : SY} (I : i_Rel k u v) (hk : k + 5 ≤ 5) (v1 : Int32) (v2 : Int32) (v3 : Int32) : wpX_power (fun r u' => wpY_power (fun r' v' => r' = r ∧ i_Rel (k + 5) u' v') v v1 v2 v3) u v1 v2 v3 := by
  obtain ⟨rfl, rfl⟩ := pr_i I hk
  unfold wpX_power
  refine pr_hf (br_t rfl ?_)
  unfold wpY_power
  refine pr_fs ?_
  by_cases h0 : v3 < 0
  · exact br_t h0 ⟨rfl, pr_r k⟩
  · exact br_f h0 (br_f (pr_nm1 h0) ⟨rfl, pr_r k⟩)
theorem i_vc_fraction {k : Nat} {u : SX} {v : SY} (I : i_Rel k u v) (hk : k + 5 ≤ 5) (v1 : Int32) (v2 : Int32) (v3 : Int32) (v4 : Int32) : wpX_fraction (fun r u' => wpY_fraction (fun r' v' => r' = r ∧ i_Rel (k + 5) u' v') v v1 v2 v3 v4) u v1 v2 v3 v4 := by
  obtain ⟨rfl, rfl⟩ := pr_i I hk
  unfold wpX_fraction
  refine pr_hp (br_t rfl ?_)
  unfold wpY_fraction
  refine pr_fs ?_
  exact nm_e (br_t (by decide) ⟨rfl, pr_r k⟩)
end
