/-! One call on a fresh object: both states are those that the constructors make -/
def pr_X : SX := (0, (-1), 0, 0, 0, 0, (fun _ => 0), (fun _ => 0), (fun _ => 0), (fun _ => 0), (fun _ => 0), (fun _ => 0), (fun _ => 0), (fun _ => 0), (fun _ => 0), (fun _ => 0), (fun _ => 0), (fun _ => 0), (fun _ => 0), (fun _ => 0), (fun _ => 0), (fun _ => 0), (fun _ => 0), (fun _ => 0), (fun _ => 0), (fun _ => 0), (fun _ => 0), (fun _ => 0), (fun _ => 0), (fun _ => 0), (fun _ => 0))
def pr_Y : SY := (0, (-1), 0, 0, 0, 0, 0, 0, (fun _ => 0), (fun _ => 0), (fun _ => 0), (fun _ => 0), (fun _ => 0), (fun _ => 0), (fun _ => 0), (fun _ => 0))
theorem pr_0 : (0 : Int32).toInt = 0 := by decide
theorem pr_5 : (5 : Int32).toInt = 5 := by decide
theorem pr_6 : (6 : Int32).toInt = 6 := by decide
theorem pr_7 : (7 : Int32).toInt = 7 := by decide
theorem pr_8 : (8 : Int32).toInt = 8 := by decide
theorem pr_m1 : (-1 : Int32).toInt = -1 := by decide
theorem pr_in7 {a : Int32} (h0 : ¬ a < 0) (h7 : ¬ 7 ≤ a) : vp_in a 7 := by
  rw [Int32.not_lt, Int32.le_iff_toInt_le, pr_0] at h0
  rw [Int32.not_le, Int32.lt_iff_toInt_lt, pr_7] at h7
  rw [vp_in_iff]; omega
theorem pr_in6 {a : Int32} (h0 : ¬ a < 0) (h7 : a < 6) : vp_in a 7 := by
  rw [Int32.not_lt, Int32.le_iff_toInt_le, pr_0] at h0
  rw [Int32.lt_iff_toInt_lt, pr_6] at h7
  rw [vp_in_iff]; omega
theorem pr_in5 {a : Int32} (h0 : ¬ a < 0) (h7 : ¬ 5 < a) : vp_in a 7 := by
  rw [Int32.not_lt, Int32.le_iff_toInt_le, pr_0] at h0
  rw [Int32.not_lt, Int32.le_iff_toInt_le, pr_5] at h7
  rw [vp_in_iff]; omega
theorem pr_56 {a : Int32} : a < 6 ↔ ¬ 5 < a := by
  rw [Int32.not_lt, Int32.lt_iff_toInt_lt, Int32.le_iff_toInt_le, pr_5, pr_6]; omega
theorem pr_88 {a : Int32} : a ≤ 8 ↔ ¬ 8 < a := by rw [Int32.not_lt]
theorem pr_nm1 {a : Int32} (h0 : ¬ a < 0) : ¬ a < -1 := by
  rw [Int32.not_lt, Int32.le_iff_toInt_le, pr_0] at h0
  rw [Int32.not_lt, Int32.le_iff_toInt_le, pr_m1]; omega
theorem pr_le1 {a : Int32} (h0 : ¬ a < 0) : -1 ≤ a := by
  rw [← Int32.not_lt]; exact pr_nm1 h0
theorem pr_hp {post : Int32 → Prop} {a b : Int32} (h : post 0) : wpX_hasPart post pr_X a b := by
  unfold wpX_hasPart pr_X
  dsimp only
  by_cases h0 : a < 0
  · exact br_t h0 h
  · by_cases h7 : 7 ≤ a
    · exact br_f h0 (br_t h7 h)
    · have hin := pr_in7 h0 h7
      by_cases b0 : b = 0
      · exact br_f h0 (br_f h7 (br_t b0 ⟨hin, br_t rfl h⟩))
      · by_cases b1 : b = 1
        · exact br_f h0 (br_f h7 (br_f b0 (br_t b1 ⟨hin, br_t rfl h⟩)))
        · exact br_f h0 (br_f h7 (br_f b0 (br_f b1 h)))
theorem pr_hf {post : Int32 → SX → Prop} {a b c : Int32} (h : post 0 pr_X) : wpX_hasFactor post pr_X a b c := by
  unfold wpX_hasFactor
  exact pr_hp (br_t rfl h)
theorem pr_has {post : Int32 → Prop} {a : Int32} (h : post 0) : wpY_has post pr_Y a := by
  unfold wpY_has pr_Y
  dsimp only
  by_cases h0 : a < 0
  · exact br_t h0 h
  · by_cases h7 : 7 ≤ a
    · exact br_f h0 (br_t h7 h)
    · exact br_f h0 (br_f h7 ⟨pr_in7 h0 h7, br_t rfl h⟩)
theorem pr_pt {post : Int32 → Prop} {a b : Int32} (h : post (-1)) : wpY_part post pr_Y a b := by
  unfold wpY_part
  exact pr_has (br_t rfl h)
theorem pr_fs {post : Int32 → SY → Prop} {a b : Int32} (h : post (-1) pr_Y) : wpY_factors post pr_Y a b := by
  unfold wpY_factors
  exact pr_pt (br_t (by decide) h)
