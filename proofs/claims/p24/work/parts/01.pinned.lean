/-! why the printed modules of this claim don't compile: the law's entry has an exception table (its try/catch), and the head's word for it says that it has none -/
theorem q24_pinned : ClassFile.Facts.File.hasCode classFile x code maxLocals ret = false := by decide +kernel
theorem q24_not : ¬ PinnedClaimed := by
  intro h
  have h1 : ClassFile.Facts.File.hasCode classFile x code maxLocals ret = true := h
  rw [q24_pinned] at h1
  cases h1
