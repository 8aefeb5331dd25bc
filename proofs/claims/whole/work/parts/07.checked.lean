theorem m_chk_0 : m_chk 0 = true := by decide +kernel
theorem m_chk_A : ((List.range 59).all fun j => m_chk (j + 1)) = true := by decide +kernel
theorem m_chk_B : ((List.range 57).all fun j => m_chk (j + 60)) = true := by decide +kernel
theorem m_chk_D : ((List.range 59).all fun j => m_chk (j + 117)) = true := by decide +kernel
theorem m_chk_all {y : Nat} (h : y < 176) : m_chk y = true := by
  by_cases h0 : y = 0
  · rw [h0]; exact m_chk_0
  by_cases h1 : y < 60
  · have := List.all_eq_true.mp m_chk_A (y - 1) (List.mem_range.mpr (by omega))
    rwa [show y - 1 + 1 = y by omega] at this
  by_cases h2 : y < 117
  · have := List.all_eq_true.mp m_chk_B (y - 60) (List.mem_range.mpr (by omega))
    rwa [show y - 60 + 60 = y by omega] at this
  · have := List.all_eq_true.mp m_chk_D (y - 117) (List.mem_range.mpr (by omega))
    rwa [show y - 117 + 117 = y by omega] at this
