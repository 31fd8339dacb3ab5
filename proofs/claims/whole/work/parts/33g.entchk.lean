theorem mm_lk361 : mm_lck 361 0 mm_c361 = true := by decide +kernel
theorem mm_lk362 : mm_lck 362 0 mm_c362 = true := by decide +kernel
