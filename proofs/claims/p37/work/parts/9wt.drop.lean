
/-! ===== steps whose answers nobody compares (for the parts) ===== -/
section Dr
variable {g r : zS} {a : Nat → Int32}
theorem u_0 (h : nS_0 a g = some r) : nU_0 a g = some r := by
  unfold nS_0 at h
  unfold nU_0
  replace h := zbind h
  obtain ⟨v1, hv1, h⟩ := h
  rw [hv1, Option.bind_some]
  replace h := zchk_some h
  obtain ⟨hq, h⟩ := h
  rw [zchk_t hq]
  replace h := zbind h
  obtain ⟨v2, hv2, h⟩ := h
  rw [hv2, Option.bind_some]
  replace h := zchk_some h
  obtain ⟨hq, h⟩ := h
  rw [zchk_t hq]
  by_cases hc : v1.1 = v2.1
  · replace h := zif_t hc h
    exact h
  · replace h := zif_f hc h
    cases h
theorem u_1 (h : nS_1 a g = some r) : nU_1 a g = some r := by
  unfold nS_1 at h
  unfold nU_1
  replace h := zbind h
  obtain ⟨v1, hv1, h⟩ := h
  rw [hv1, Option.bind_some]
  replace h := zchk_some h
  obtain ⟨hq, h⟩ := h
  rw [zchk_t hq]
  replace h := zbind h
  obtain ⟨v2, hv2, h⟩ := h
  rw [hv2, Option.bind_some]
  replace h := zchk_some h
  obtain ⟨hq, h⟩ := h
  rw [zchk_t hq]
  by_cases hc : v1.1 = v2.1
  · replace h := zif_t hc h
    exact h
  · replace h := zif_f hc h
    cases h
theorem u_2 (h : nS_2 a g = some r) : nU_2 a g = some r := by
  unfold nS_2 at h
  unfold nU_2
  replace h := zbind h
  obtain ⟨v1, hv1, h⟩ := h
  rw [hv1, Option.bind_some]
  replace h := zchk_some h
  obtain ⟨hq, h⟩ := h
  rw [zchk_t hq]
  replace h := zbind h
  obtain ⟨v2, hv2, h⟩ := h
  rw [hv2, Option.bind_some]
  replace h := zchk_some h
  obtain ⟨hq, h⟩ := h
  rw [zchk_t hq]
  replace h := zbind h
  obtain ⟨v3, hv3, h⟩ := h
  by_cases hc : v3 = v1.1
  · replace h := zif_t hc h
    by_cases hc : v1.1 = 0
    · replace h := zif_t hc h
      by_cases hc : (lg_cmp (v2.2.2.1 72 (0 : Int32).toNatClampNeg) v2.1.toInt64) = 0
      · replace h := zif_t hc h
        exact h
      · replace h := zif_f hc h
        cases h
    · replace h := zif_f hc h
      exact h
  · replace h := zif_f hc h
    cases h
theorem u_3 (h : nS_3 a g = some r) : nU_3 a g = some r := by
  unfold nS_3 at h
  unfold nU_3
  replace h := zbind h
  obtain ⟨v1, hv1, h⟩ := h
  rw [hv1, Option.bind_some]
  replace h := zbind h
  obtain ⟨v2, hv2, h⟩ := h
  rw [hv2, Option.bind_some]
  replace h := zchk_some h
  obtain ⟨hq, h⟩ := h
  rw [zchk_t hq]
  by_cases hc : v1 = v2.1
  · replace h := zif_t hc h
    exact h
  · replace h := zif_f hc h
    cases h
theorem u_4 (h : nS_4 a g = some r) : nU_4 a g = some r := by
  unfold nS_4 at h
  unfold nU_4
  replace h := zbind h
  obtain ⟨v1, hv1, h⟩ := h
  rw [hv1, Option.bind_some]
  replace h := zchk_some h
  obtain ⟨hq, h⟩ := h
  rw [zchk_t hq]
  replace h := zbind h
  obtain ⟨v2, hv2, h⟩ := h
  rw [hv2, Option.bind_some]
  replace h := zchk_some h
  obtain ⟨hq, h⟩ := h
  rw [zchk_t hq]
  replace h := zbind h
  obtain ⟨v3, hv3, h⟩ := h
  by_cases hc : v3 = v1.1
  · replace h := zif_t hc h
    by_cases hc : v1.1 = 0
    · replace h := zif_t hc h
      by_cases hc : (lg_cmp (v2.2.2.1 72 (0 : Int32).toNatClampNeg) v2.1.toInt64) = 0
      · replace h := zif_t hc h
        exact h
      · replace h := zif_f hc h
        cases h
    · replace h := zif_f hc h
      exact h
  · replace h := zif_f hc h
    cases h
theorem u_5 (h : nS_5 a g = some r) : nU_5 a g = some r := by
  unfold nS_5 at h
  unfold nU_5
  replace h := zbind h
  obtain ⟨v1, hv1, h⟩ := h
  rw [hv1, Option.bind_some]
  replace h := zchk_some h
  obtain ⟨hq, h⟩ := h
  rw [zchk_t hq]
  replace h := zbind h
  obtain ⟨v2, hv2, h⟩ := h
  rw [hv2, Option.bind_some]
  replace h := zchk_some h
  obtain ⟨hq, h⟩ := h
  rw [zchk_t hq]
  replace h := zbind h
  obtain ⟨v3, hv3, h⟩ := h
  by_cases hc : v3 = v1.1
  · replace h := zif_t hc h
    by_cases hc : v1.1 = 0
    · replace h := zif_t hc h
      by_cases hc : (lg_cmp (v2.2.2.1 72 (0 : Int32).toNatClampNeg) v2.1.toInt64) = 0
      · replace h := zif_t hc h
        exact h
      · replace h := zif_f hc h
        cases h
    · replace h := zif_f hc h
      exact h
  · replace h := zif_f hc h
    cases h
theorem u_6 (h : nS_6 a g = some r) : nU_6 a g = some r := by
  unfold nS_6 at h
  unfold nU_6
  replace h := zbind h
  obtain ⟨v1, hv1, h⟩ := h
  rw [hv1, Option.bind_some]
  replace h := zchk_some h
  obtain ⟨hq, h⟩ := h
  rw [zchk_t hq]
  replace h := zbind h
  obtain ⟨v2, hv2, h⟩ := h
  rw [hv2, Option.bind_some]
  replace h := zchk_some h
  obtain ⟨hq, h⟩ := h
  rw [zchk_t hq]
  replace h := zbind h
  obtain ⟨v3, hv3, h⟩ := h
  by_cases hc : v3 = v1.1
  · replace h := zif_t hc h
    by_cases hc : v1.1 = 0
    · replace h := zif_t hc h
      by_cases hc : (lg_cmp (v2.2.2.1 72 (0 : Int32).toNatClampNeg) v2.1.toInt64) = 0
      · replace h := zif_t hc h
        exact h
      · replace h := zif_f hc h
        cases h
    · replace h := zif_f hc h
      exact h
  · replace h := zif_f hc h
    cases h
theorem u_7 (h : nS_7 a g = some r) : nU_7 a g = some r := by
  unfold nS_7 at h
  unfold nU_7
  replace h := zbind h
  obtain ⟨v1, hv1, h⟩ := h
  rw [hv1, Option.bind_some]
  replace h := zchk_some h
  obtain ⟨hq, h⟩ := h
  rw [zchk_t hq]
  replace h := zbind h
  obtain ⟨v2, hv2, h⟩ := h
  rw [hv2, Option.bind_some]
  replace h := zchk_some h
  obtain ⟨hq, h⟩ := h
  rw [zchk_t hq]
  replace h := zbind h
  obtain ⟨v3, hv3, h⟩ := h
  by_cases hc : v3 = v1.1
  · replace h := zif_t hc h
    by_cases hc : v1.1 = 0
    · replace h := zif_t hc h
      by_cases hc : (lg_cmp (v2.2.2.1 72 (0 : Int32).toNatClampNeg) v2.1.toInt64) = 0
      · replace h := zif_t hc h
        exact h
      · replace h := zif_f hc h
        cases h
    · replace h := zif_f hc h
      exact h
  · replace h := zif_f hc h
    cases h
theorem u_8 (h : nS_8 a g = some r) : nU_8 a g = some r := by
  unfold nS_8 at h
  unfold nU_8
  by_cases hc : (a 2) = 0
  · replace h := zif_t hc h
    rw [if_pos hc]
    replace h := zbind h
    obtain ⟨v1, hv1, h⟩ := h
    rw [hv1, Option.bind_some]
    replace h := zchk_some h
    obtain ⟨hq, h⟩ := h
    rw [zchk_t hq]
    by_cases hc : (a 2) = 0
    · replace h := zif_t hc h
      rw [if_pos hc]
      replace h := zbind h
      obtain ⟨v2, hv2, h⟩ := h
      rw [hv2, Option.bind_some]
      replace h := zchk_some h
      obtain ⟨hq, h⟩ := h
      rw [zchk_t hq]
      replace h := zbind h
      obtain ⟨v3, hv3, h⟩ := h
      by_cases hc : v3 = v1.1
      · replace h := zif_t hc h
        by_cases hc : v1.1 = 0
        · replace h := zif_t hc h
          by_cases hc : (lg_cmp (v2.2.2.1 72 (0 : Int32).toNatClampNeg) v2.1.toInt64) = 0
          · replace h := zif_t hc h
            exact h
          · replace h := zif_f hc h
            cases h
        · replace h := zif_f hc h
          exact h
      · replace h := zif_f hc h
        cases h
    · replace h := zif_f hc h
      rw [if_neg hc]
      replace h := zbind h
      obtain ⟨v4, hv4, h⟩ := h
      rw [hv4, Option.bind_some]
      replace h := zchk_some h
      obtain ⟨hq, h⟩ := h
      rw [zchk_t hq]
      replace h := zbind h
      obtain ⟨v5, hv5, h⟩ := h
      by_cases hc : v5 = v1.1
      · replace h := zif_t hc h
        by_cases hc : v1.1 = 0
        · replace h := zif_t hc h
          by_cases hc : (lg_cmp (v4.2.2.1 72 (0 : Int32).toNatClampNeg) v4.1.toInt64) = 0
          · replace h := zif_t hc h
            exact h
          · replace h := zif_f hc h
            cases h
        · replace h := zif_f hc h
          exact h
      · replace h := zif_f hc h
        cases h
  · replace h := zif_f hc h
    rw [if_neg hc]
    replace h := zbind h
    obtain ⟨v6, hv6, h⟩ := h
    rw [hv6, Option.bind_some]
    replace h := zchk_some h
    obtain ⟨hq, h⟩ := h
    rw [zchk_t hq]
    by_cases hc : (a 2) = 0
    · replace h := zif_t hc h
      rw [if_pos hc]
      replace h := zbind h
      obtain ⟨v7, hv7, h⟩ := h
      rw [hv7, Option.bind_some]
      replace h := zchk_some h
      obtain ⟨hq, h⟩ := h
      rw [zchk_t hq]
      replace h := zbind h
      obtain ⟨v8, hv8, h⟩ := h
      by_cases hc : v8 = v6.1
      · replace h := zif_t hc h
        by_cases hc : v6.1 = 0
        · replace h := zif_t hc h
          by_cases hc : (lg_cmp (v7.2.2.1 72 (0 : Int32).toNatClampNeg) v7.1.toInt64) = 0
          · replace h := zif_t hc h
            exact h
          · replace h := zif_f hc h
            cases h
        · replace h := zif_f hc h
          exact h
      · replace h := zif_f hc h
        cases h
    · replace h := zif_f hc h
      rw [if_neg hc]
      replace h := zbind h
      obtain ⟨v9, hv9, h⟩ := h
      rw [hv9, Option.bind_some]
      replace h := zchk_some h
      obtain ⟨hq, h⟩ := h
      rw [zchk_t hq]
      replace h := zbind h
      obtain ⟨v10, hv10, h⟩ := h
      by_cases hc : v10 = v6.1
      · replace h := zif_t hc h
        by_cases hc : v6.1 = 0
        · replace h := zif_t hc h
          by_cases hc : (lg_cmp (v9.2.2.1 72 (0 : Int32).toNatClampNeg) v9.1.toInt64) = 0
          · replace h := zif_t hc h
            exact h
          · replace h := zif_f hc h
            cases h
        · replace h := zif_f hc h
          exact h
      · replace h := zif_f hc h
        cases h
theorem u_9 (h : nS_9 a g = some r) : nU_9 a g = some r := by
  unfold nS_9 at h
  unfold nU_9
  replace h := zbind h
  obtain ⟨v1, hv1, h⟩ := h
  rw [hv1, Option.bind_some]
  replace h := zchk_some h
  obtain ⟨hq, h⟩ := h
  rw [zchk_t hq]
  replace h := zbind h
  obtain ⟨v2, hv2, h⟩ := h
  rw [hv2, Option.bind_some]
  replace h := zchk_some h
  obtain ⟨hq, h⟩ := h
  rw [zchk_t hq]
  replace h := zbind h
  obtain ⟨v3, hv3, h⟩ := h
  by_cases hc : v3 = v1.1
  · replace h := zif_t hc h
    by_cases hc : v1.1 = 0
    · replace h := zif_t hc h
      by_cases hc : v2.1 = 0
      · replace h := zif_t hc h
        by_cases hc : (lg_cmp (v2.2.2.1 72 (0 : Int32).toNatClampNeg) (0 : Int64)) = 0
        · replace h := zif_t hc h
          exact h
        · replace h := zif_f hc h
          cases h
      · replace h := zif_f hc h
        by_cases hc : (lg_cmp (v2.2.2.1 72 (0 : Int32).toNatClampNeg) (1 : Int64)) = 0
        · replace h := zif_t hc h
          exact h
        · replace h := zif_f hc h
          cases h
    · replace h := zif_f hc h
      exact h
  · replace h := zif_f hc h
    cases h
theorem u_10 (h : nS_10 a g = some r) : nU_10 a g = some r := by
  unfold nS_10 at h
  unfold nU_10
  replace h := zbind h
  obtain ⟨v1, hv1, h⟩ := h
  rw [hv1, Option.bind_some]
  replace h := zchk_some h
  obtain ⟨hq, h⟩ := h
  rw [zchk_t hq]
  replace h := zbind h
  obtain ⟨v2, hv2, h⟩ := h
  rw [hv2, Option.bind_some]
  replace h := zchk_some h
  obtain ⟨hq, h⟩ := h
  rw [zchk_t hq]
  by_cases hc : v1.1 = v2.1
  · replace h := zif_t hc h
    exact h
  · replace h := zif_f hc h
    cases h
theorem u_11 (h : nS_11 a g = some r) : nU_11 a g = some r := by
  unfold nS_11 at h
  unfold nU_11
  replace h := zbind h
  obtain ⟨v1, hv1, h⟩ := h
  rw [hv1, Option.bind_some]
  replace h := zchk_some h
  obtain ⟨hq, h⟩ := h
  rw [zchk_t hq]
  replace h := zbind h
  obtain ⟨v2, hv2, h⟩ := h
  rw [hv2, Option.bind_some]
  replace h := zchk_some h
  obtain ⟨hq, h⟩ := h
  rw [zchk_t hq]
  replace h := zbind h
  obtain ⟨v3, hv3, h⟩ := h
  by_cases hc : v3 = v1.1
  · replace h := zif_t hc h
    by_cases hc : v1.1 = 0
    · replace h := zif_t hc h
      by_cases hc : (lg_cmp (v2.2.2.1 72 (0 : Int32).toNatClampNeg) v2.1.toInt64) = 0
      · replace h := zif_t hc h
        exact h
      · replace h := zif_f hc h
        cases h
    · replace h := zif_f hc h
      exact h
  · replace h := zif_f hc h
    cases h
theorem u_12 (h : nS_12 a g = some r) : nU_12 a g = some r := by
  unfold nS_12 at h
  unfold nU_12
  replace h := zbind h
  obtain ⟨v1, hv1, h⟩ := h
  rw [hv1, Option.bind_some]
  replace h := zbind h
  obtain ⟨v2, hv2, h⟩ := h
  rw [hv2, Option.bind_some]
  replace h := zchk_some h
  obtain ⟨hq, h⟩ := h
  rw [zchk_t hq]
  by_cases hc : v1 = v2.1
  · replace h := zif_t hc h
    exact h
  · replace h := zif_f hc h
    cases h
theorem u_13 (h : nS_13 a g = some r) : nU_13 a g = some r := by
  unfold nS_13 at h
  unfold nU_13
  replace h := zbind h
  obtain ⟨v1, hv1, h⟩ := h
  rw [hv1, Option.bind_some]
  replace h := zchk_some h
  obtain ⟨hq, h⟩ := h
  rw [zchk_t hq]
  replace h := zbind h
  obtain ⟨v2, hv2, h⟩ := h
  rw [hv2, Option.bind_some]
  replace h := zchk_some h
  obtain ⟨hq, h⟩ := h
  rw [zchk_t hq]
  replace h := zbind h
  obtain ⟨v3, hv3, h⟩ := h
  by_cases hc : v3 = v1.1
  · replace h := zif_t hc h
    by_cases hc : v1.1 = 0
    · replace h := zif_t hc h
      by_cases hc : (lg_cmp (v2.2.2.1 72 (0 : Int32).toNatClampNeg) v2.1.toInt64) = 0
      · replace h := zif_t hc h
        exact h
      · replace h := zif_f hc h
        cases h
    · replace h := zif_f hc h
      exact h
  · replace h := zif_f hc h
    cases h
theorem u_14 (h : nS_14 a g = some r) : nU_14 a g = some r := by
  unfold nS_14 at h
  unfold nU_14
  replace h := zbind h
  obtain ⟨v1, hv1, h⟩ := h
  rw [hv1, Option.bind_some]
  replace h := zchk_some h
  obtain ⟨hq, h⟩ := h
  rw [zchk_t hq]
  replace h := zbind h
  obtain ⟨v2, hv2, h⟩ := h
  rw [hv2, Option.bind_some]
  replace h := zchk_some h
  obtain ⟨hq, h⟩ := h
  rw [zchk_t hq]
  replace h := zbind h
  obtain ⟨v3, hv3, h⟩ := h
  by_cases hc : v3 = v1.1
  · replace h := zif_t hc h
    by_cases hc : v1.1 = 0
    · replace h := zif_t hc h
      by_cases hc : (lg_cmp (v2.2.2.1 72 (0 : Int32).toNatClampNeg) v2.1.toInt64) = 0
      · replace h := zif_t hc h
        exact h
      · replace h := zif_f hc h
        cases h
    · replace h := zif_f hc h
      exact h
  · replace h := zif_f hc h
    cases h
theorem u_15 (h : nS_15 a g = some r) : nU_15 a g = some r := by
  unfold nS_15 at h
  unfold nU_15
  replace h := zbind h
  obtain ⟨v1, hv1, h⟩ := h
  rw [hv1, Option.bind_some]
  replace h := zchk_some h
  obtain ⟨hq, h⟩ := h
  rw [zchk_t hq]
  replace h := zbind h
  obtain ⟨v2, hv2, h⟩ := h
  rw [hv2, Option.bind_some]
  replace h := zchk_some h
  obtain ⟨hq, h⟩ := h
  rw [zchk_t hq]
  replace h := zbind h
  obtain ⟨v3, hv3, h⟩ := h
  by_cases hc : v3 = v1.1
  · replace h := zif_t hc h
    by_cases hc : v1.1 = 0
    · replace h := zif_t hc h
      by_cases hc : (lg_cmp (v2.2.2.1 72 (0 : Int32).toNatClampNeg) v2.1.toInt64) = 0
      · replace h := zif_t hc h
        exact h
      · replace h := zif_f hc h
        cases h
    · replace h := zif_f hc h
      exact h
  · replace h := zif_f hc h
    cases h
theorem u_16 (h : nS_16 a g = some r) : nU_16 a g = some r := by
  unfold nS_16 at h
  unfold nU_16
  replace h := zbind h
  obtain ⟨v1, hv1, h⟩ := h
  rw [hv1, Option.bind_some]
  replace h := zchk_some h
  obtain ⟨hq, h⟩ := h
  rw [zchk_t hq]
  replace h := zbind h
  obtain ⟨v2, hv2, h⟩ := h
  rw [hv2, Option.bind_some]
  replace h := zchk_some h
  obtain ⟨hq, h⟩ := h
  rw [zchk_t hq]
  replace h := zbind h
  obtain ⟨v3, hv3, h⟩ := h
  by_cases hc : v3 = v1.1
  · replace h := zif_t hc h
    by_cases hc : v1.1 = 0
    · replace h := zif_t hc h
      by_cases hc : (lg_cmp (v2.2.2.1 72 (0 : Int32).toNatClampNeg) v2.1.toInt64) = 0
      · replace h := zif_t hc h
        exact h
      · replace h := zif_f hc h
        cases h
    · replace h := zif_f hc h
      exact h
  · replace h := zif_f hc h
    cases h
theorem u_17 (h : nS_17 a g = some r) : nU_17 a g = some r := by
  unfold nS_17 at h
  unfold nU_17
  replace h := zbind h
  obtain ⟨v1, hv1, h⟩ := h
  rw [hv1, Option.bind_some]
  replace h := zchk_some h
  obtain ⟨hq, h⟩ := h
  rw [zchk_t hq]
  replace h := zbind h
  obtain ⟨v2, hv2, h⟩ := h
  rw [hv2, Option.bind_some]
  replace h := zchk_some h
  obtain ⟨hq, h⟩ := h
  rw [zchk_t hq]
  replace h := zbind h
  obtain ⟨v3, hv3, h⟩ := h
  by_cases hc : v3 = v1.1
  · replace h := zif_t hc h
    by_cases hc : v1.1 = 0
    · replace h := zif_t hc h
      by_cases hc : (lg_cmp (v2.2.2.1 72 (0 : Int32).toNatClampNeg) v2.1.toInt64) = 0
      · replace h := zif_t hc h
        exact h
      · replace h := zif_f hc h
        cases h
    · replace h := zif_f hc h
      exact h
  · replace h := zif_f hc h
    cases h
theorem u_18 (h : nS_18 a g = some r) : nU_18 a g = some r := by
  unfold nS_18 at h
  unfold nU_18
  replace h := zbind h
  obtain ⟨v1, hv1, h⟩ := h
  rw [hv1, Option.bind_some]
  replace h := zchk_some h
  obtain ⟨hq, h⟩ := h
  rw [zchk_t hq]
  replace h := zbind h
  obtain ⟨v2, hv2, h⟩ := h
  rw [hv2, Option.bind_some]
  replace h := zchk_some h
  obtain ⟨hq, h⟩ := h
  rw [zchk_t hq]
  replace h := zbind h
  obtain ⟨v3, hv3, h⟩ := h
  by_cases hc : v3 = v1.1
  · replace h := zif_t hc h
    by_cases hc : v1.1 = 0
    · replace h := zif_t hc h
      by_cases hc : (lg_cmp (v2.2.2.1 72 (0 : Int32).toNatClampNeg) v2.1.toInt64) = 0
      · replace h := zif_t hc h
        exact h
      · replace h := zif_f hc h
        cases h
    · replace h := zif_f hc h
      exact h
  · replace h := zif_f hc h
    cases h
theorem u_19 (h : nS_19 a g = some r) : nU_19 a g = some r := by
  unfold nS_19 at h
  unfold nU_19
  replace h := zbind h
  obtain ⟨v1, hv1, h⟩ := h
  rw [hv1, Option.bind_some]
  replace h := zchk_some h
  obtain ⟨hq, h⟩ := h
  rw [zchk_t hq]
  replace h := zbind h
  obtain ⟨v2, hv2, h⟩ := h
  rw [hv2, Option.bind_some]
  replace h := zchk_some h
  obtain ⟨hq, h⟩ := h
  rw [zchk_t hq]
  replace h := zbind h
  obtain ⟨v3, hv3, h⟩ := h
  by_cases hc : v3 = v1.1
  · replace h := zif_t hc h
    by_cases hc : v1.1 = 0
    · replace h := zif_t hc h
      by_cases hc : (lg_cmp (v2.2.2.1 72 (0 : Int32).toNatClampNeg) v2.1.toInt64) = 0
      · replace h := zif_t hc h
        exact h
      · replace h := zif_f hc h
        cases h
    · replace h := zif_f hc h
      exact h
  · replace h := zif_f hc h
    cases h
theorem u_20 (h : nS_20 a g = some r) : nU_20 a g = some r := by
  unfold nS_20 at h
  unfold nU_20
  replace h := zbind h
  obtain ⟨v1, hv1, h⟩ := h
  rw [hv1, Option.bind_some]
  replace h := zchk_some h
  obtain ⟨hq, h⟩ := h
  rw [zchk_t hq]
  replace h := zbind h
  obtain ⟨v2, hv2, h⟩ := h
  rw [hv2, Option.bind_some]
  replace h := zchk_some h
  obtain ⟨hq, h⟩ := h
  rw [zchk_t hq]
  replace h := zbind h
  obtain ⟨v3, hv3, h⟩ := h
  by_cases hc : v3 = v1.1
  · replace h := zif_t hc h
    by_cases hc : v1.1 = 0
    · replace h := zif_t hc h
      by_cases hc : (lg_cmp (v2.2.2.1 72 (0 : Int32).toNatClampNeg) v2.1.toInt64) = 0
      · replace h := zif_t hc h
        exact h
      · replace h := zif_f hc h
        cases h
    · replace h := zif_f hc h
      exact h
  · replace h := zif_f hc h
    cases h
theorem u_21 (h : nS_21 a g = some r) : nU_21 a g = some r := by
  unfold nS_21 at h
  unfold nU_21
  replace h := zbind h
  obtain ⟨v1, hv1, h⟩ := h
  rw [hv1, Option.bind_some]
  replace h := zchk_some h
  obtain ⟨hq, h⟩ := h
  rw [zchk_t hq]
  replace h := zbind h
  obtain ⟨v2, hv2, h⟩ := h
  rw [hv2, Option.bind_some]
  replace h := zchk_some h
  obtain ⟨hq, h⟩ := h
  rw [zchk_t hq]
  replace h := zbind h
  obtain ⟨v3, hv3, h⟩ := h
  by_cases hc : v3 = v1.1
  · replace h := zif_t hc h
    by_cases hc : v1.1 = 0
    · replace h := zif_t hc h
      by_cases hc : (lg_cmp (v2.2.2.1 72 (0 : Int32).toNatClampNeg) v2.1.toInt64) = 0
      · replace h := zif_t hc h
        exact h
      · replace h := zif_f hc h
        cases h
    · replace h := zif_f hc h
      exact h
  · replace h := zif_f hc h
    cases h
theorem u_22 (h : nS_22 a g = some r) : nU_22 a g = some r := by
  unfold nS_22 at h
  unfold nU_22
  replace h := zbind h
  obtain ⟨v1, hv1, h⟩ := h
  rw [hv1, Option.bind_some]
  replace h := zchk_some h
  obtain ⟨hq, h⟩ := h
  rw [zchk_t hq]
  replace h := zbind h
  obtain ⟨v2, hv2, h⟩ := h
  rw [hv2, Option.bind_some]
  replace h := zchk_some h
  obtain ⟨hq, h⟩ := h
  rw [zchk_t hq]
  replace h := zbind h
  obtain ⟨v3, hv3, h⟩ := h
  by_cases hc : v3 = v1.1
  · replace h := zif_t hc h
    by_cases hc : v1.1 = 0
    · replace h := zif_t hc h
      by_cases hc : (lg_cmp (v2.2.2.1 72 (0 : Int32).toNatClampNeg) v2.1.toInt64) = 0
      · replace h := zif_t hc h
        exact h
      · replace h := zif_f hc h
        cases h
    · replace h := zif_f hc h
      exact h
  · replace h := zif_f hc h
    cases h
theorem u_23 (h : nS_23 a g = some r) : nU_23 a g = some r := by
  unfold nS_23 at h
  unfold nU_23
  replace h := zbind h
  obtain ⟨v1, hv1, h⟩ := h
  rw [hv1, Option.bind_some]
  replace h := zchk_some h
  obtain ⟨hq, h⟩ := h
  rw [zchk_t hq]
  replace h := zbind h
  obtain ⟨v2, hv2, h⟩ := h
  rw [hv2, Option.bind_some]
  replace h := zchk_some h
  obtain ⟨hq, h⟩ := h
  rw [zchk_t hq]
  replace h := zbind h
  obtain ⟨v3, hv3, h⟩ := h
  by_cases hc : v3 = v1.1
  · replace h := zif_t hc h
    by_cases hc : v1.1 = 0
    · replace h := zif_t hc h
      by_cases hc : v2.1 = 0
      · replace h := zif_t hc h
        by_cases hc : (lg_cmp (v2.2.2.1 72 (0 : Int32).toNatClampNeg) (0 : Int64)) = 0
        · replace h := zif_t hc h
          exact h
        · replace h := zif_f hc h
          cases h
      · replace h := zif_f hc h
        by_cases hc : (lg_cmp (v2.2.2.1 72 (0 : Int32).toNatClampNeg) (1 : Int64)) = 0
        · replace h := zif_t hc h
          exact h
        · replace h := zif_f hc h
          cases h
    · replace h := zif_f hc h
      exact h
  · replace h := zif_f hc h
    cases h
theorem u_24 (h : nS_24 a g = some r) : nU_24 a g = some r := by
  unfold nS_24 at h
  unfold nU_24
  replace h := zbind h
  obtain ⟨v1, hv1, h⟩ := h
  rw [hv1, Option.bind_some]
  replace h := zchk_some h
  obtain ⟨hq, h⟩ := h
  rw [zchk_t hq]
  replace h := zbind h
  obtain ⟨v2, hv2, h⟩ := h
  rw [hv2, Option.bind_some]
  replace h := zchk_some h
  obtain ⟨hq, h⟩ := h
  rw [zchk_t hq]
  replace h := zbind h
  obtain ⟨v3, hv3, h⟩ := h
  by_cases hc : v3 = v1.1
  · replace h := zif_t hc h
    by_cases hc : v1.1 = 0
    · replace h := zif_t hc h
      by_cases hc : (lg_cmp (v2.2.2.1 72 (0 : Int32).toNatClampNeg) v2.1.toInt64) = 0
      · replace h := zif_t hc h
        exact h
      · replace h := zif_f hc h
        cases h
    · replace h := zif_f hc h
      exact h
  · replace h := zif_f hc h
    cases h
theorem u_25 (h : nS_25 a g = some r) : nU_25 a g = some r := by
  unfold nS_25 at h
  unfold nU_25
  replace h := zbind h
  obtain ⟨v1, hv1, h⟩ := h
  rw [hv1, Option.bind_some]
  replace h := zchk_some h
  obtain ⟨hq, h⟩ := h
  rw [zchk_t hq]
  replace h := zbind h
  obtain ⟨v2, hv2, h⟩ := h
  rw [hv2, Option.bind_some]
  replace h := zchk_some h
  obtain ⟨hq, h⟩ := h
  rw [zchk_t hq]
  replace h := zbind h
  obtain ⟨v3, hv3, h⟩ := h
  by_cases hc : v3 = v1.1
  · replace h := zif_t hc h
    by_cases hc : v1.1 = 0
    · replace h := zif_t hc h
      by_cases hc : (lg_cmp (v2.2.2.1 72 (0 : Int32).toNatClampNeg) v2.1.toInt64) = 0
      · replace h := zif_t hc h
        exact h
      · replace h := zif_f hc h
        cases h
    · replace h := zif_f hc h
      exact h
  · replace h := zif_f hc h
    cases h
theorem u_26 (h : nS_26 a g = some r) : nU_26 a g = some r := by
  unfold nS_26 at h
  unfold nU_26
  replace h := zbind h
  obtain ⟨v1, hv1, h⟩ := h
  rw [hv1, Option.bind_some]
  replace h := zchk_some h
  obtain ⟨hq, h⟩ := h
  rw [zchk_t hq]
  replace h := zbind h
  obtain ⟨v2, hv2, h⟩ := h
  rw [hv2, Option.bind_some]
  replace h := zchk_some h
  obtain ⟨hq, h⟩ := h
  rw [zchk_t hq]
  replace h := zbind h
  obtain ⟨v3, hv3, h⟩ := h
  by_cases hc : v3 = v1.1
  · replace h := zif_t hc h
    by_cases hc : v1.1 = 0
    · replace h := zif_t hc h
      by_cases hc : (lg_cmp (v2.2.2.1 72 (0 : Int32).toNatClampNeg) v2.1.toInt64) = 0
      · replace h := zif_t hc h
        exact h
      · replace h := zif_f hc h
        cases h
    · replace h := zif_f hc h
      exact h
  · replace h := zif_f hc h
    cases h
theorem u_27 (h : nS_27 a g = some r) : nU_27 a g = some r := by
  unfold nS_27 at h
  unfold nU_27
  replace h := zbind h
  obtain ⟨v1, hv1, h⟩ := h
  rw [hv1, Option.bind_some]
  replace h := zchk_some h
  obtain ⟨hq, h⟩ := h
  rw [zchk_t hq]
  replace h := zbind h
  obtain ⟨v2, hv2, h⟩ := h
  rw [hv2, Option.bind_some]
  replace h := zchk_some h
  obtain ⟨hq, h⟩ := h
  rw [zchk_t hq]
  replace h := zbind h
  obtain ⟨v3, hv3, h⟩ := h
  by_cases hc : v3 = v1.1
  · replace h := zif_t hc h
    by_cases hc : v1.1 = 0
    · replace h := zif_t hc h
      by_cases hc : (lg_cmp (v2.2.2.1 72 (0 : Int32).toNatClampNeg) v2.1.toInt64) = 0
      · replace h := zif_t hc h
        exact h
      · replace h := zif_f hc h
        cases h
    · replace h := zif_f hc h
      exact h
  · replace h := zif_f hc h
    cases h
theorem u_28 (h : nS_28 a g = some r) : nU_28 a g = some r := by
  unfold nS_28 at h
  unfold nU_28
  replace h := zbind h
  obtain ⟨v1, hv1, h⟩ := h
  rw [hv1, Option.bind_some]
  replace h := zchk_some h
  obtain ⟨hq, h⟩ := h
  rw [zchk_t hq]
  replace h := zbind h
  obtain ⟨v2, hv2, h⟩ := h
  rw [hv2, Option.bind_some]
  replace h := zchk_some h
  obtain ⟨hq, h⟩ := h
  rw [zchk_t hq]
  replace h := zbind h
  obtain ⟨v3, hv3, h⟩ := h
  by_cases hc : v3 = v1.1
  · replace h := zif_t hc h
    by_cases hc : v1.1 = 0
    · replace h := zif_t hc h
      by_cases hc : (lg_cmp (v2.2.2.1 72 (0 : Int32).toNatClampNeg) v2.1.toInt64) = 0
      · replace h := zif_t hc h
        exact h
      · replace h := zif_f hc h
        cases h
    · replace h := zif_f hc h
      exact h
  · replace h := zif_f hc h
    cases h
theorem u_29 (h : nS_29 a g = some r) : nU_29 a g = some r := by
  unfold nS_29 at h
  unfold nU_29
  replace h := zbind h
  obtain ⟨v1, hv1, h⟩ := h
  rw [hv1, Option.bind_some]
  replace h := zchk_some h
  obtain ⟨hq, h⟩ := h
  rw [zchk_t hq]
  replace h := zbind h
  obtain ⟨v2, hv2, h⟩ := h
  rw [hv2, Option.bind_some]
  replace h := zchk_some h
  obtain ⟨hq, h⟩ := h
  rw [zchk_t hq]
  by_cases hc : v1.1 = v2.1
  · replace h := zif_t hc h
    exact h
  · replace h := zif_f hc h
    cases h
theorem u_30 (h : nS_30 a g = some r) : nU_30 a g = some r := by
  unfold nS_30 at h
  unfold nU_30
  by_cases hc : (a 3) = 0
  · replace h := zif_t hc h
    rw [if_pos hc]
    replace h := zbind h
    obtain ⟨v1, hv1, h⟩ := h
    rw [hv1, Option.bind_some]
    replace h := zchk_some h
    obtain ⟨hq, h⟩ := h
    rw [zchk_t hq]
    by_cases hc : (a 3) = 0
    · replace h := zif_t hc h
      rw [if_pos hc]
      replace h := zbind h
      obtain ⟨v2, hv2, h⟩ := h
      rw [hv2, Option.bind_some]
      replace h := zchk_some h
      obtain ⟨hq, h⟩ := h
      rw [zchk_t hq]
      replace h := zbind h
      obtain ⟨v3, hv3, h⟩ := h
      by_cases hc : v3 = v1.1
      · replace h := zif_t hc h
        by_cases hc : v1.1 = 0
        · replace h := zif_t hc h
          by_cases hc : (lg_cmp (v2.2.2.1 72 (0 : Int32).toNatClampNeg) v2.1.toInt64) = 0
          · replace h := zif_t hc h
            exact h
          · replace h := zif_f hc h
            cases h
        · replace h := zif_f hc h
          exact h
      · replace h := zif_f hc h
        cases h
    · replace h := zif_f hc h
      rw [if_neg hc]
      replace h := zbind h
      obtain ⟨v4, hv4, h⟩ := h
      rw [hv4, Option.bind_some]
      replace h := zchk_some h
      obtain ⟨hq, h⟩ := h
      rw [zchk_t hq]
      replace h := zbind h
      obtain ⟨v5, hv5, h⟩ := h
      by_cases hc : v5 = v1.1
      · replace h := zif_t hc h
        by_cases hc : v1.1 = 0
        · replace h := zif_t hc h
          by_cases hc : (lg_cmp (v4.2.2.1 72 (0 : Int32).toNatClampNeg) v4.1.toInt64) = 0
          · replace h := zif_t hc h
            exact h
          · replace h := zif_f hc h
            cases h
        · replace h := zif_f hc h
          exact h
      · replace h := zif_f hc h
        cases h
  · replace h := zif_f hc h
    rw [if_neg hc]
    replace h := zbind h
    obtain ⟨v6, hv6, h⟩ := h
    rw [hv6, Option.bind_some]
    replace h := zchk_some h
    obtain ⟨hq, h⟩ := h
    rw [zchk_t hq]
    by_cases hc : (a 3) = 0
    · replace h := zif_t hc h
      rw [if_pos hc]
      replace h := zbind h
      obtain ⟨v7, hv7, h⟩ := h
      rw [hv7, Option.bind_some]
      replace h := zchk_some h
      obtain ⟨hq, h⟩ := h
      rw [zchk_t hq]
      replace h := zbind h
      obtain ⟨v8, hv8, h⟩ := h
      by_cases hc : v8 = v6.1
      · replace h := zif_t hc h
        by_cases hc : v6.1 = 0
        · replace h := zif_t hc h
          by_cases hc : (lg_cmp (v7.2.2.1 72 (0 : Int32).toNatClampNeg) v7.1.toInt64) = 0
          · replace h := zif_t hc h
            exact h
          · replace h := zif_f hc h
            cases h
        · replace h := zif_f hc h
          exact h
      · replace h := zif_f hc h
        cases h
    · replace h := zif_f hc h
      rw [if_neg hc]
      replace h := zbind h
      obtain ⟨v9, hv9, h⟩ := h
      rw [hv9, Option.bind_some]
      replace h := zchk_some h
      obtain ⟨hq, h⟩ := h
      rw [zchk_t hq]
      replace h := zbind h
      obtain ⟨v10, hv10, h⟩ := h
      by_cases hc : v10 = v6.1
      · replace h := zif_t hc h
        by_cases hc : v6.1 = 0
        · replace h := zif_t hc h
          by_cases hc : (lg_cmp (v9.2.2.1 72 (0 : Int32).toNatClampNeg) v9.1.toInt64) = 0
          · replace h := zif_t hc h
            exact h
          · replace h := zif_f hc h
            cases h
        · replace h := zif_f hc h
          exact h
      · replace h := zif_f hc h
        cases h
theorem u_31 (h : nS_31 a g = some r) : nU_31 a g = some r := by
  unfold nS_31 at h
  unfold nU_31
  replace h := zbind h
  obtain ⟨v1, hv1, h⟩ := h
  rw [hv1, Option.bind_some]
  replace h := zchk_some h
  obtain ⟨hq, h⟩ := h
  rw [zchk_t hq]
  replace h := zbind h
  obtain ⟨v2, hv2, h⟩ := h
  rw [hv2, Option.bind_some]
  replace h := zchk_some h
  obtain ⟨hq, h⟩ := h
  rw [zchk_t hq]
  replace h := zbind h
  obtain ⟨v3, hv3, h⟩ := h
  by_cases hc : v3 = v1.1
  · replace h := zif_t hc h
    by_cases hc : v1.1 = 0
    · replace h := zif_t hc h
      by_cases hc : (lg_cmp (v2.2.2.1 72 (0 : Int32).toNatClampNeg) v2.1.toInt64) = 0
      · replace h := zif_t hc h
        exact h
      · replace h := zif_f hc h
        cases h
    · replace h := zif_f hc h
      exact h
  · replace h := zif_f hc h
    cases h
theorem u_32 (h : nS_32 a g = some r) : nU_32 a g = some r := by
  unfold nS_32 at h
  unfold nU_32
  replace h := zbind h
  obtain ⟨v1, hv1, h⟩ := h
  rw [hv1, Option.bind_some]
  replace h := zchk_some h
  obtain ⟨hq, h⟩ := h
  rw [zchk_t hq]
  replace h := zbind h
  obtain ⟨v2, hv2, h⟩ := h
  rw [hv2, Option.bind_some]
  replace h := zchk_some h
  obtain ⟨hq, h⟩ := h
  rw [zchk_t hq]
  replace h := zbind h
  obtain ⟨v3, hv3, h⟩ := h
  by_cases hc : v3 = v1.1
  · replace h := zif_t hc h
    by_cases hc : v1.1 = 0
    · replace h := zif_t hc h
      by_cases hc : (lg_cmp (v2.2.2.1 72 (0 : Int32).toNatClampNeg) v2.1.toInt64) = 0
      · replace h := zif_t hc h
        exact h
      · replace h := zif_f hc h
        cases h
    · replace h := zif_f hc h
      exact h
  · replace h := zif_f hc h
    cases h
theorem u_33 (h : nS_33 a g = some r) : nU_33 a g = some r := by
  unfold nS_33 at h
  unfold nU_33
  replace h := zbind h
  obtain ⟨v1, hv1, h⟩ := h
  rw [hv1, Option.bind_some]
  replace h := zchk_some h
  obtain ⟨hq, h⟩ := h
  rw [zchk_t hq]
  replace h := zbind h
  obtain ⟨v2, hv2, h⟩ := h
  rw [hv2, Option.bind_some]
  replace h := zchk_some h
  obtain ⟨hq, h⟩ := h
  rw [zchk_t hq]
  replace h := zbind h
  obtain ⟨v3, hv3, h⟩ := h
  by_cases hc : v3 = v1.1
  · replace h := zif_t hc h
    by_cases hc : v1.1 = 0
    · replace h := zif_t hc h
      by_cases hc : (lg_cmp (v2.2.2.1 72 (0 : Int32).toNatClampNeg) v2.1.toInt64) = 0
      · replace h := zif_t hc h
        exact h
      · replace h := zif_f hc h
        cases h
    · replace h := zif_f hc h
      exact h
  · replace h := zif_f hc h
    cases h
theorem u_34 (h : nS_34 a g = some r) : nU_34 a g = some r := by
  unfold nS_34 at h
  unfold nU_34
  replace h := zbind h
  obtain ⟨v1, hv1, h⟩ := h
  rw [hv1, Option.bind_some]
  replace h := zchk_some h
  obtain ⟨hq, h⟩ := h
  rw [zchk_t hq]
  replace h := zbind h
  obtain ⟨v2, hv2, h⟩ := h
  rw [hv2, Option.bind_some]
  replace h := zchk_some h
  obtain ⟨hq, h⟩ := h
  rw [zchk_t hq]
  replace h := zbind h
  obtain ⟨v3, hv3, h⟩ := h
  by_cases hc : v3 = v1.1
  · replace h := zif_t hc h
    by_cases hc : v1.1 = 0
    · replace h := zif_t hc h
      by_cases hc : (lg_cmp (v2.2.2.1 72 (0 : Int32).toNatClampNeg) v2.1.toInt64) = 0
      · replace h := zif_t hc h
        exact h
      · replace h := zif_f hc h
        cases h
    · replace h := zif_f hc h
      exact h
  · replace h := zif_f hc h
    cases h
theorem u_36 (h : nS_36 a g = some r) : nU_36 a g = some r := by
  unfold nS_36 at h
  unfold nU_36
  replace h := zbind h
  obtain ⟨v1, hv1, h⟩ := h
  rw [hv1, Option.bind_some]
  replace h := zchk_some h
  obtain ⟨hq, h⟩ := h
  rw [zchk_t hq]
  replace h := zbind h
  obtain ⟨v2, hv2, h⟩ := h
  rw [hv2, Option.bind_some]
  replace h := zchk_some h
  obtain ⟨hq, h⟩ := h
  rw [zchk_t hq]
  replace h := zbind h
  obtain ⟨v3, hv3, h⟩ := h
  by_cases hc : v3 = v1.1
  · replace h := zif_t hc h
    by_cases hc : v1.1 = 0
    · replace h := zif_t hc h
      by_cases hc : (lg_cmp (v2.2.2.1 72 (0 : Int32).toNatClampNeg) v2.1.toInt64) = 0
      · replace h := zif_t hc h
        exact h
      · replace h := zif_f hc h
        cases h
    · replace h := zif_f hc h
      exact h
  · replace h := zif_f hc h
    cases h
theorem u_37 (h : nS_37 a g = some r) : nU_37 a g = some r := by
  unfold nS_37 at h
  unfold nU_37
  replace h := zbind h
  obtain ⟨v1, hv1, h⟩ := h
  rw [hv1, Option.bind_some]
  replace h := zchk_some h
  obtain ⟨hq, h⟩ := h
  rw [zchk_t hq]
  replace h := zbind h
  obtain ⟨v2, hv2, h⟩ := h
  rw [hv2, Option.bind_some]
  replace h := zchk_some h
  obtain ⟨hq, h⟩ := h
  rw [zchk_t hq]
  by_cases hc : v1.1 = v2.1
  · replace h := zif_t hc h
    exact h
  · replace h := zif_f hc h
    cases h
theorem u_38 (h : nS_38 a g = some r) : nU_38 a g = some r := by
  unfold nS_38 at h
  unfold nU_38
  by_cases hc : (a 2) = 0
  · replace h := zif_t hc h
    rw [if_pos hc]
    replace h := zbind h
    obtain ⟨v1, hv1, h⟩ := h
    rw [hv1, Option.bind_some]
    replace h := zchk_some h
    obtain ⟨hq, h⟩ := h
    rw [zchk_t hq]
    by_cases hc : (a 2) = 0
    · replace h := zif_t hc h
      rw [if_pos hc]
      replace h := zbind h
      obtain ⟨v2, hv2, h⟩ := h
      rw [hv2, Option.bind_some]
      replace h := zchk_some h
      obtain ⟨hq, h⟩ := h
      rw [zchk_t hq]
      replace h := zbind h
      obtain ⟨v3, hv3, h⟩ := h
      by_cases hc : v3 = v1.1
      · replace h := zif_t hc h
        by_cases hc : v1.1 = 0
        · replace h := zif_t hc h
          by_cases hc : (lg_cmp (v2.2.2.1 72 (0 : Int32).toNatClampNeg) v2.1.toInt64) = 0
          · replace h := zif_t hc h
            exact h
          · replace h := zif_f hc h
            cases h
        · replace h := zif_f hc h
          exact h
      · replace h := zif_f hc h
        cases h
    · replace h := zif_f hc h
      rw [if_neg hc]
      replace h := zbind h
      obtain ⟨v4, hv4, h⟩ := h
      rw [hv4, Option.bind_some]
      replace h := zchk_some h
      obtain ⟨hq, h⟩ := h
      rw [zchk_t hq]
      replace h := zbind h
      obtain ⟨v5, hv5, h⟩ := h
      by_cases hc : v5 = v1.1
      · replace h := zif_t hc h
        by_cases hc : v1.1 = 0
        · replace h := zif_t hc h
          by_cases hc : (lg_cmp (v4.2.2.1 72 (0 : Int32).toNatClampNeg) v4.1.toInt64) = 0
          · replace h := zif_t hc h
            exact h
          · replace h := zif_f hc h
            cases h
        · replace h := zif_f hc h
          exact h
      · replace h := zif_f hc h
        cases h
  · replace h := zif_f hc h
    rw [if_neg hc]
    replace h := zbind h
    obtain ⟨v6, hv6, h⟩ := h
    rw [hv6, Option.bind_some]
    replace h := zchk_some h
    obtain ⟨hq, h⟩ := h
    rw [zchk_t hq]
    by_cases hc : (a 2) = 0
    · replace h := zif_t hc h
      rw [if_pos hc]
      replace h := zbind h
      obtain ⟨v7, hv7, h⟩ := h
      rw [hv7, Option.bind_some]
      replace h := zchk_some h
      obtain ⟨hq, h⟩ := h
      rw [zchk_t hq]
      replace h := zbind h
      obtain ⟨v8, hv8, h⟩ := h
      by_cases hc : v8 = v6.1
      · replace h := zif_t hc h
        by_cases hc : v6.1 = 0
        · replace h := zif_t hc h
          by_cases hc : (lg_cmp (v7.2.2.1 72 (0 : Int32).toNatClampNeg) v7.1.toInt64) = 0
          · replace h := zif_t hc h
            exact h
          · replace h := zif_f hc h
            cases h
        · replace h := zif_f hc h
          exact h
      · replace h := zif_f hc h
        cases h
    · replace h := zif_f hc h
      rw [if_neg hc]
      replace h := zbind h
      obtain ⟨v9, hv9, h⟩ := h
      rw [hv9, Option.bind_some]
      replace h := zchk_some h
      obtain ⟨hq, h⟩ := h
      rw [zchk_t hq]
      replace h := zbind h
      obtain ⟨v10, hv10, h⟩ := h
      by_cases hc : v10 = v6.1
      · replace h := zif_t hc h
        by_cases hc : v6.1 = 0
        · replace h := zif_t hc h
          by_cases hc : (lg_cmp (v9.2.2.1 72 (0 : Int32).toNatClampNeg) v9.1.toInt64) = 0
          · replace h := zif_t hc h
            exact h
          · replace h := zif_f hc h
            cases h
        · replace h := zif_f hc h
          exact h
      · replace h := zif_f hc h
        cases h
theorem u_39 (h : nS_39 a g = some r) : nU_39 a g = some r := by
  unfold nS_39 at h
  unfold nU_39
  replace h := zbind h
  obtain ⟨v1, hv1, h⟩ := h
  rw [hv1, Option.bind_some]
  replace h := zchk_some h
  obtain ⟨hq, h⟩ := h
  rw [zchk_t hq]
  replace h := zbind h
  obtain ⟨v2, hv2, h⟩ := h
  rw [hv2, Option.bind_some]
  replace h := zchk_some h
  obtain ⟨hq, h⟩ := h
  rw [zchk_t hq]
  replace h := zbind h
  obtain ⟨v3, hv3, h⟩ := h
  by_cases hc : v3 = v1.1
  · replace h := zif_t hc h
    by_cases hc : v1.1 = 0
    · replace h := zif_t hc h
      by_cases hc : (lg_cmp (v2.2.2.1 72 (0 : Int32).toNatClampNeg) v2.1.toInt64) = 0
      · replace h := zif_t hc h
        exact h
      · replace h := zif_f hc h
        cases h
    · replace h := zif_f hc h
      exact h
  · replace h := zif_f hc h
    cases h
theorem u_40 (h : nS_40 a g = some r) : nU_40 a g = some r := by
  unfold nS_40 at h
  unfold nU_40
  replace h := zbind h
  obtain ⟨v1, hv1, h⟩ := h
  rw [hv1, Option.bind_some]
  replace h := zchk_some h
  obtain ⟨hq, h⟩ := h
  rw [zchk_t hq]
  replace h := zbind h
  obtain ⟨v2, hv2, h⟩ := h
  rw [hv2, Option.bind_some]
  replace h := zchk_some h
  obtain ⟨hq, h⟩ := h
  rw [zchk_t hq]
  replace h := zbind h
  obtain ⟨v3, hv3, h⟩ := h
  by_cases hc : v3 = v1.1
  · replace h := zif_t hc h
    by_cases hc : v1.1 = 0
    · replace h := zif_t hc h
      by_cases hc : (lg_cmp (v2.2.2.1 72 (0 : Int32).toNatClampNeg) v2.1.toInt64) = 0
      · replace h := zif_t hc h
        exact h
      · replace h := zif_f hc h
        cases h
    · replace h := zif_f hc h
      exact h
  · replace h := zif_f hc h
    cases h
theorem u_41 (h : nS_41 a g = some r) : nU_41 a g = some r := by
  unfold nS_41 at h
  unfold nU_41
  replace h := zbind h
  obtain ⟨v1, hv1, h⟩ := h
  rw [hv1, Option.bind_some]
  replace h := zchk_some h
  obtain ⟨hq, h⟩ := h
  rw [zchk_t hq]
  replace h := zbind h
  obtain ⟨v2, hv2, h⟩ := h
  rw [hv2, Option.bind_some]
  replace h := zchk_some h
  obtain ⟨hq, h⟩ := h
  rw [zchk_t hq]
  replace h := zbind h
  obtain ⟨v3, hv3, h⟩ := h
  by_cases hc : v3 = v1.1
  · replace h := zif_t hc h
    by_cases hc : v1.1 = 0
    · replace h := zif_t hc h
      by_cases hc : (lg_cmp (v2.2.2.1 72 (0 : Int32).toNatClampNeg) v2.1.toInt64) = 0
      · replace h := zif_t hc h
        exact h
      · replace h := zif_f hc h
        cases h
    · replace h := zif_f hc h
      exact h
  · replace h := zif_f hc h
    cases h
theorem u_42 (h : nS_42 a g = some r) : nU_42 a g = some r := by
  unfold nS_42 at h
  unfold nU_42
  replace h := zbind h
  obtain ⟨v1, hv1, h⟩ := h
  rw [hv1, Option.bind_some]
  replace h := zchk_some h
  obtain ⟨hq, h⟩ := h
  rw [zchk_t hq]
  replace h := zbind h
  obtain ⟨v2, hv2, h⟩ := h
  rw [hv2, Option.bind_some]
  replace h := zchk_some h
  obtain ⟨hq, h⟩ := h
  rw [zchk_t hq]
  by_cases hc : v1.1 = v2.1
  · replace h := zif_t hc h
    exact h
  · replace h := zif_f hc h
    cases h
theorem u_43 (h : nS_43 a g = some r) : nU_43 a g = some r := by
  unfold nS_43 at h
  unfold nU_43
  replace h := zbind h
  obtain ⟨v1, hv1, h⟩ := h
  rw [hv1, Option.bind_some]
  replace h := zchk_some h
  obtain ⟨hq, h⟩ := h
  rw [zchk_t hq]
  replace h := zbind h
  obtain ⟨v2, hv2, h⟩ := h
  rw [hv2, Option.bind_some]
  replace h := zchk_some h
  obtain ⟨hq, h⟩ := h
  rw [zchk_t hq]
  replace h := zbind h
  obtain ⟨v3, hv3, h⟩ := h
  by_cases hc : v3 = v1.1
  · replace h := zif_t hc h
    by_cases hc : v1.1 = 0
    · replace h := zif_t hc h
      by_cases hc : (lg_cmp (v2.2.2.1 72 (0 : Int32).toNatClampNeg) v2.1.toInt64) = 0
      · replace h := zif_t hc h
        exact h
      · replace h := zif_f hc h
        cases h
    · replace h := zif_f hc h
      exact h
  · replace h := zif_f hc h
    cases h
theorem u_44 (h : nS_44 a g = some r) : nU_44 a g = some r := by
  unfold nS_44 at h
  unfold nU_44
  replace h := zbind h
  obtain ⟨v1, hv1, h⟩ := h
  rw [hv1, Option.bind_some]
  replace h := zchk_some h
  obtain ⟨hq, h⟩ := h
  rw [zchk_t hq]
  replace h := zbind h
  obtain ⟨v2, hv2, h⟩ := h
  rw [hv2, Option.bind_some]
  replace h := zchk_some h
  obtain ⟨hq, h⟩ := h
  rw [zchk_t hq]
  replace h := zbind h
  obtain ⟨v3, hv3, h⟩ := h
  by_cases hc : v3 = v1.1
  · replace h := zif_t hc h
    by_cases hc : v1.1 = 0
    · replace h := zif_t hc h
      by_cases hc : (lg_cmp (v2.2.2.1 72 (0 : Int32).toNatClampNeg) v2.1.toInt64) = 0
      · replace h := zif_t hc h
        exact h
      · replace h := zif_f hc h
        cases h
    · replace h := zif_f hc h
      exact h
  · replace h := zif_f hc h
    cases h
theorem u_45 (h : nS_45 a g = some r) : nU_45 a g = some r := by
  unfold nS_45 at h
  unfold nU_45
  replace h := zbind h
  obtain ⟨v1, hv1, h⟩ := h
  rw [hv1, Option.bind_some]
  replace h := zchk_some h
  obtain ⟨hq, h⟩ := h
  rw [zchk_t hq]
  replace h := zbind h
  obtain ⟨v2, hv2, h⟩ := h
  rw [hv2, Option.bind_some]
  replace h := zchk_some h
  obtain ⟨hq, h⟩ := h
  rw [zchk_t hq]
  replace h := zbind h
  obtain ⟨v3, hv3, h⟩ := h
  by_cases hc : v3 = v1.1
  · replace h := zif_t hc h
    by_cases hc : v1.1 = 0
    · replace h := zif_t hc h
      by_cases hc : (lg_cmp (v2.2.2.1 72 (0 : Int32).toNatClampNeg) v2.1.toInt64) = 0
      · replace h := zif_t hc h
        exact h
      · replace h := zif_f hc h
        cases h
    · replace h := zif_f hc h
      exact h
  · replace h := zif_f hc h
    cases h
theorem u_46 (h : nS_46 a g = some r) : nU_46 a g = some r := by
  unfold nS_46 at h
  unfold nU_46
  replace h := zbind h
  obtain ⟨v1, hv1, h⟩ := h
  rw [hv1, Option.bind_some]
  replace h := zchk_some h
  obtain ⟨hq, h⟩ := h
  rw [zchk_t hq]
  replace h := zbind h
  obtain ⟨v2, hv2, h⟩ := h
  rw [hv2, Option.bind_some]
  replace h := zchk_some h
  obtain ⟨hq, h⟩ := h
  rw [zchk_t hq]
  replace h := zbind h
  obtain ⟨v3, hv3, h⟩ := h
  by_cases hc : v3 = v1.1
  · replace h := zif_t hc h
    by_cases hc : v1.1 = 0
    · replace h := zif_t hc h
      by_cases hc : (lg_cmp (v2.2.2.1 72 (0 : Int32).toNatClampNeg) v2.1.toInt64) = 0
      · replace h := zif_t hc h
        exact h
      · replace h := zif_f hc h
        cases h
    · replace h := zif_f hc h
      exact h
  · replace h := zif_f hc h
    cases h
theorem u_47 (h : nS_47 a g = some r) : nU_47 a g = some r := by
  unfold nS_47 at h
  unfold nU_47
  replace h := zbind h
  obtain ⟨v1, hv1, h⟩ := h
  rw [hv1, Option.bind_some]
  replace h := zbind h
  obtain ⟨v2, hv2, h⟩ := h
  rw [hv2, Option.bind_some]
  replace h := zchk_some h
  obtain ⟨hq, h⟩ := h
  rw [zchk_t hq]
  by_cases hc : v1 = v2.1
  · replace h := zif_t hc h
    exact h
  · replace h := zif_f hc h
    cases h
theorem u_48 (h : nS_48 a g = some r) : nU_48 a g = some r := by
  unfold nS_48 at h
  unfold nU_48
  replace h := zbind h
  obtain ⟨v1, hv1, h⟩ := h
  rw [hv1, Option.bind_some]
  replace h := zbind h
  obtain ⟨v2, hv2, h⟩ := h
  rw [hv2, Option.bind_some]
  replace h := zchk_some h
  obtain ⟨hq, h⟩ := h
  rw [zchk_t hq]
  by_cases hc : v1 = v2.1
  · replace h := zif_t hc h
    exact h
  · replace h := zif_f hc h
    cases h
/-- a call of both, whose answers nobody compares: its answer told by no code -/
theorem st_w {S : zSt} {L M : zS → Option (Int32 × zS)} (hm : rI S g) (q1 : ∃ h cd, L g = some (cd, h) ∧ fz kN g h ∧ cI S h) (q2 : mU M S) : ∃ r, ((L g).bind fun v1 => zchk (decide (g.2.2.2 ≤ v1.2.2.2.2)) ((M v1.2).bind fun v2 => zchk (decide (v2.2.2.2.2 = v1.2.2.2.2)) (some v2.2))) = some r ∧ Iv r := by
  obtain ⟨h, cd, w1, a1, hc1⟩ := q1
  have hm1 : rI S h := rI_fz (K := kN) (fun c h1 h2 => kN_R h1 h2) a1 hm
  obtain ⟨k, an', w2, b1, hm2⟩ := q2 h hm1
  refine ⟨k, ?_, S, cI_fr kQ_R b1 hc1, hm2⟩
  rw [w1, Option.bind_some, zchk_t (decide_eq_true a1.2.2)]
  dsimp only
  rw [w2, Option.bind_some, zchk_t (decide_eq_true b1.2.2)]
theorem cZ_w {S : zSt} {L : zS → Option (Int32 × zS)} (q : ∃ cd an, cZ L S g cd an) : ∃ h cd, L g = some (cd, h) ∧ fz kN g h ∧ cI S h := by
  obtain ⟨cd, an, h, w1, a1, hc1, a2⟩ := q
  exact ⟨h, cd, w1, a1, hc1⟩
theorem su_0 (a : Nat → Int32) (hv : Iv g) : ∃ r, nU_0 a g = some r ∧ Iv r := by
  obtain ⟨r, w, hr⟩ := s_0 a hv
  exact ⟨r, u_0 w, hr⟩
theorem su_1 (a : Nat → Int32) (hv : Iv g) : ∃ r, nU_1 a g = some r ∧ Iv r := by
  obtain ⟨r, w, hr⟩ := s_1 a hv
  exact ⟨r, u_1 w, hr⟩
theorem su_2 (a : Nat → Int32) (hv : Iv g) : ∃ r, nU_2 a g = some r ∧ Iv r := by
  obtain ⟨r, w, hr⟩ := s_2 a hv
  exact ⟨r, u_2 w, hr⟩
theorem su_3 (a : Nat → Int32) (hv : Iv g) : ∃ r, nU_3 a g = some r ∧ Iv r := by
  obtain ⟨r, w, hr⟩ := s_3 a hv
  exact ⟨r, u_3 w, hr⟩
theorem su_4 (a : Nat → Int32) (hv : Iv g) : ∃ r, nU_4 a g = some r ∧ Iv r := by
  obtain ⟨r, w, hr⟩ := s_4 a hv
  exact ⟨r, u_4 w, hr⟩
theorem su_5 (a : Nat → Int32) (hv : Iv g) : ∃ r, nU_5 a g = some r ∧ Iv r := by
  obtain ⟨r, w, hr⟩ := s_5 a hv
  exact ⟨r, u_5 w, hr⟩
theorem su_6 (a : Nat → Int32) (hv : Iv g) : ∃ r, nU_6 a g = some r ∧ Iv r := by
  obtain ⟨r, w, hr⟩ := s_6 a hv
  exact ⟨r, u_6 w, hr⟩
theorem su_7 (a : Nat → Int32) (hv : Iv g) : ∃ r, nU_7 a g = some r ∧ Iv r := by
  obtain ⟨S, hc, hm⟩ := hv
  exact st_w hm (cZ_w (cU_from hc (a 1))) (uU_from hc.1 (a 1))
theorem su_8 (a : Nat → Int32) (hv : Iv g) : ∃ r, nU_8 a g = some r ∧ Iv r := by
  obtain ⟨S, hc, hm⟩ := hv
  unfold nU_8
  by_cases c : a 2 = 0
  · obtain ⟨r, w, hr⟩ := st_w (L := nL_cover (a 1) (0 : Int32)) (M := nX11_cover (a 1) (0 : Int32)) hm (cZ_w (cU_cover hc (a 1) false)) (uU_cover hc.1 (a 1) 0)
    refine ⟨r, ?_, hr⟩
    rw [if_pos c, ← w]
    simp only [if_pos c]
  · obtain ⟨r, w, hr⟩ := st_w (L := nL_cover (a 1) (1 : Int32)) (M := nX11_cover (a 1) (1 : Int32)) hm (cZ_w (cU_cover hc (a 1) true)) (uU_cover hc.1 (a 1) 1)
    refine ⟨r, ?_, hr⟩
    rw [if_neg c, ← w]
    simp only [if_neg c]
theorem su_9 (a : Nat → Int32) (hv : Iv g) : ∃ r, nU_9 a g = some r ∧ Iv r := by
  obtain ⟨r, w, hr⟩ := s_9 a hv
  exact ⟨r, u_9 w, hr⟩
theorem su_10 (a : Nat → Int32) (hv : Iv g) : ∃ r, nU_10 a g = some r ∧ Iv r := by
  obtain ⟨S, hc, hm⟩ := hv
  obtain ⟨h, an, w, a1, hc1⟩ := cU_boxes hc
  exact st_w (L := nX10_boxes) hm ⟨h, an, w, a1, hc1⟩ (uU_boxes hc.1)
theorem su_11 (a : Nat → Int32) (hv : Iv g) : ∃ r, nU_11 a g = some r ∧ Iv r := by
  obtain ⟨S, hc, hm⟩ := hv
  exact st_w hm (cZ_w (cU_box hc (a 1) (a 2))) (uU_box hc.1 (a 1) (a 2))
theorem su_12 (a : Nat → Int32) (hv : Iv g) : ∃ r, nU_12 a g = some r ∧ Iv r := by
  obtain ⟨r, w, hr⟩ := s_12 a hv
  exact ⟨r, u_12 w, hr⟩
theorem su_13 (a : Nat → Int32) (hv : Iv g) : ∃ r, nU_13 a g = some r ∧ Iv r := by
  obtain ⟨r, w, hr⟩ := s_13 a hv
  exact ⟨r, u_13 w, hr⟩
theorem su_14 (a : Nat → Int32) (hv : Iv g) : ∃ r, nU_14 a g = some r ∧ Iv r := by
  obtain ⟨r, w, hr⟩ := s_14 a hv
  exact ⟨r, u_14 w, hr⟩
theorem su_15 (a : Nat → Int32) (hv : Iv g) : ∃ r, nU_15 a g = some r ∧ Iv r := by
  obtain ⟨r, w, hr⟩ := s_15 a hv
  exact ⟨r, u_15 w, hr⟩
theorem su_16 (a : Nat → Int32) (hv : Iv g) : ∃ r, nU_16 a g = some r ∧ Iv r := by
  obtain ⟨r, w, hr⟩ := s_16 a hv
  exact ⟨r, u_16 w, hr⟩
theorem su_17 (a : Nat → Int32) (hv : Iv g) : ∃ r, nU_17 a g = some r ∧ Iv r := by
  obtain ⟨r, w, hr⟩ := s_17 a hv
  exact ⟨r, u_17 w, hr⟩
theorem su_18 (a : Nat → Int32) (hv : Iv g) : ∃ r, nU_18 a g = some r ∧ Iv r := by
  obtain ⟨r, w, hr⟩ := s_18 a hv
  exact ⟨r, u_18 w, hr⟩
theorem su_19 (a : Nat → Int32) (hv : Iv g) : ∃ r, nU_19 a g = some r ∧ Iv r := by
  obtain ⟨S, hc, hm⟩ := hv
  exact st_w hm (cZ_w (cU_within hc (a 1) (a 2))) (uU_within hc.1 (a 1) (a 2))
theorem su_20 (a : Nat → Int32) (hv : Iv g) : ∃ r, nU_20 a g = some r ∧ Iv r := by
  obtain ⟨r, w, hr⟩ := s_20 a hv
  exact ⟨r, u_20 w, hr⟩
theorem su_21 (a : Nat → Int32) (hv : Iv g) : ∃ r, nU_21 a g = some r ∧ Iv r := by
  obtain ⟨r, w, hr⟩ := s_21 a hv
  exact ⟨r, u_21 w, hr⟩
theorem su_22 (a : Nat → Int32) (hv : Iv g) : ∃ r, nU_22 a g = some r ∧ Iv r := by
  obtain ⟨S, hc, hm⟩ := hv
  exact st_w hm (cZ_w (cU_blame hc (a 1))) (uU_blame hc.1 (a 1))
theorem su_23 (a : Nat → Int32) (hv : Iv g) : ∃ r, nU_23 a g = some r ∧ Iv r := by
  obtain ⟨r, w, hr⟩ := s_23 a hv
  exact ⟨r, u_23 w, hr⟩
theorem su_24 (a : Nat → Int32) (hv : Iv g) : ∃ r, nU_24 a g = some r ∧ Iv r := by
  obtain ⟨r, w, hr⟩ := s_24 a hv
  exact ⟨r, u_24 w, hr⟩
theorem su_25 (a : Nat → Int32) (hv : Iv g) : ∃ r, nU_25 a g = some r ∧ Iv r := by
  obtain ⟨r, w, hr⟩ := s_25 a hv
  exact ⟨r, u_25 w, hr⟩
theorem su_26 (a : Nat → Int32) (hv : Iv g) : ∃ r, nU_26 a g = some r ∧ Iv r := by
  obtain ⟨r, w, hr⟩ := s_26 a hv
  exact ⟨r, u_26 w, hr⟩
theorem su_27 (a : Nat → Int32) (hv : Iv g) : ∃ r, nU_27 a g = some r ∧ Iv r := by
  obtain ⟨r, w, hr⟩ := s_27 a hv
  exact ⟨r, u_27 w, hr⟩
theorem su_28 (a : Nat → Int32) (hv : Iv g) : ∃ r, nU_28 a g = some r ∧ Iv r := by
  obtain ⟨r, w, hr⟩ := s_28 a hv
  exact ⟨r, u_28 w, hr⟩
theorem su_29 (a : Nat → Int32) (hv : Iv g) : ∃ r, nU_29 a g = some r ∧ Iv r := by
  obtain ⟨r, w, hr⟩ := s_29 a hv
  exact ⟨r, u_29 w, hr⟩
theorem su_30 (a : Nat → Int32) (hv : Iv g) : ∃ r, nU_30 a g = some r ∧ Iv r := by
  obtain ⟨r, w, hr⟩ := s_30 a hv
  exact ⟨r, u_30 w, hr⟩
theorem su_31 (a : Nat → Int32) (hv : Iv g) : ∃ r, nU_31 a g = some r ∧ Iv r := by
  obtain ⟨r, w, hr⟩ := s_31 a hv
  exact ⟨r, u_31 w, hr⟩
theorem su_32 (a : Nat → Int32) (hv : Iv g) : ∃ r, nU_32 a g = some r ∧ Iv r := by
  obtain ⟨r, w, hr⟩ := s_32 a hv
  exact ⟨r, u_32 w, hr⟩
theorem su_33 (a : Nat → Int32) (hv : Iv g) : ∃ r, nU_33 a g = some r ∧ Iv r := by
  obtain ⟨r, w, hr⟩ := s_33 a hv
  exact ⟨r, u_33 w, hr⟩
theorem su_34 (a : Nat → Int32) (hv : Iv g) : ∃ r, nU_34 a g = some r ∧ Iv r := by
  obtain ⟨r, w, hr⟩ := s_34 a hv
  exact ⟨r, u_34 w, hr⟩
theorem su_36 (a : Nat → Int32) (hv : Iv g) : ∃ r, nU_36 a g = some r ∧ Iv r := by
  obtain ⟨r, w, hr⟩ := s_36 a hv
  exact ⟨r, u_36 w, hr⟩
theorem su_37 (a : Nat → Int32) (hv : Iv g) : ∃ r, nU_37 a g = some r ∧ Iv r := by
  obtain ⟨r, w, hr⟩ := s_37 a hv
  exact ⟨r, u_37 w, hr⟩
theorem su_38 (a : Nat → Int32) (hv : Iv g) : ∃ r, nU_38 a g = some r ∧ Iv r := by
  obtain ⟨r, w, hr⟩ := s_38 a hv
  exact ⟨r, u_38 w, hr⟩
theorem su_39 (a : Nat → Int32) (hv : Iv g) : ∃ r, nU_39 a g = some r ∧ Iv r := by
  obtain ⟨r, w, hr⟩ := s_39 a hv
  exact ⟨r, u_39 w, hr⟩
theorem su_40 (a : Nat → Int32) (hv : Iv g) : ∃ r, nU_40 a g = some r ∧ Iv r := by
  obtain ⟨r, w, hr⟩ := s_40 a hv
  exact ⟨r, u_40 w, hr⟩
theorem su_41 (a : Nat → Int32) (hv : Iv g) : ∃ r, nU_41 a g = some r ∧ Iv r := by
  obtain ⟨r, w, hr⟩ := s_41 a hv
  exact ⟨r, u_41 w, hr⟩
theorem su_42 (a : Nat → Int32) (hv : Iv g) : ∃ r, nU_42 a g = some r ∧ Iv r := by
  obtain ⟨r, w, hr⟩ := s_42 a hv
  exact ⟨r, u_42 w, hr⟩
theorem su_43 (a : Nat → Int32) (hv : Iv g) : ∃ r, nU_43 a g = some r ∧ Iv r := by
  obtain ⟨r, w, hr⟩ := s_43 a hv
  exact ⟨r, u_43 w, hr⟩
theorem su_44 (a : Nat → Int32) (hv : Iv g) : ∃ r, nU_44 a g = some r ∧ Iv r := by
  obtain ⟨r, w, hr⟩ := s_44 a hv
  exact ⟨r, u_44 w, hr⟩
theorem su_45 (a : Nat → Int32) (hv : Iv g) : ∃ r, nU_45 a g = some r ∧ Iv r := by
  obtain ⟨r, w, hr⟩ := s_45 a hv
  exact ⟨r, u_45 w, hr⟩
theorem su_46 (a : Nat → Int32) (hv : Iv g) : ∃ r, nU_46 a g = some r ∧ Iv r := by
  obtain ⟨r, w, hr⟩ := s_46 a hv
  exact ⟨r, u_46 w, hr⟩
theorem su_47 (a : Nat → Int32) (hv : Iv g) : ∃ r, nU_47 a g = some r ∧ Iv r := by
  obtain ⟨r, w, hr⟩ := s_47 a hv
  exact ⟨r, u_47 w, hr⟩
theorem su_48 (a : Nat → Int32) (hv : Iv g) : ∃ r, nU_48 a g = some r ∧ Iv r := by
  obtain ⟨r, w, hr⟩ := s_48 a hv
  exact ⟨r, u_48 w, hr⟩
end Dr
