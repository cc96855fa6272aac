/-! RAIN told by bits. -/
theorem m_rb_n : ∀ x, x < 512 → ∀ k, k < 61 → m_rb (nI x).toInt64 k = x.testBit k := by decide +kernel
