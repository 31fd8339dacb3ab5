theorem mm_lk361 : mm_lck 361 0 mm_c361 = true := by decide +kernel
