theorem mm_lck_app {k : Nat} : ∀ (l1 l2 : List (Option mm_E)) (p : Nat), mm_lck k p l1 = true → mm_lck k (p + l1.length) l2 = true → mm_lck k p (l1 ++ l2) = true
  | [], l2, p, _, h2 => h2
  | none :: t, l2, p, h1, h2 => mm_lck_app t l2 (p + 1) h1 (by rw [show p + 1 + t.length = p + (none :: t).length by simp only [List.length_cons]; omega]; exact h2)
  | some x :: t, l2, p, h1, h2 => by
    have h3 : (mm_eck k p x && mm_lck k (p + 1) t) = true := h1
    rw [Bool.and_eq_true] at h3
    show (mm_eck k p x && mm_lck k (p + 1) (t ++ l2)) = true
    rw [Bool.and_eq_true]
    exact ⟨h3.1, mm_lck_app t l2 (p + 1) h3.2 (by rw [show p + 1 + t.length = p + (some x :: t).length by simp only [List.length_cons]; omega]; exact h2)⟩
theorem mm_lck_step {k p n : Nat} {l : List (Option mm_E)} (h1 : mm_lck k p (l.take n) = true) (hn : n ≤ l.length) (h2 : mm_lck k (p + n) (l.drop n) = true) : mm_lck k p l = true := by
  have := mm_lck_app (l.take n) (l.drop n) p h1 (by rw [List.length_take, Nat.min_eq_left hn]; exact h2)
  rwa [List.take_append_drop] at this
theorem mm_lz191_0 : mm_lck 191 0 ((mm_c191.drop 0).take 80) = true := by decide +kernel
theorem mm_lz191_80 : mm_lck 191 80 ((mm_c191.drop 80).take 80) = true := by decide +kernel
theorem mm_lz191_160 : mm_lck 191 160 ((mm_c191.drop 160).take 80) = true := by decide +kernel
theorem mm_lz191_240 : mm_lck 191 240 ((mm_c191.drop 240).take 80) = true := by decide +kernel
theorem mm_lz191_320 : mm_lck 191 320 ((mm_c191.drop 320).take 80) = true := by decide +kernel
theorem mm_lz191_400 : mm_lck 191 400 ((mm_c191.drop 400).take 80) = true := by decide +kernel
theorem mm_lz191_480 : mm_lck 191 480 ((mm_c191.drop 480).take 80) = true := by decide +kernel
theorem mm_lz191_560 : mm_lck 191 560 ((mm_c191.drop 560).take 80) = true := by decide +kernel
theorem mm_lz191_640 : mm_lck 191 640 ((mm_c191.drop 640).take 80) = true := by decide +kernel
theorem mm_lz191_720 : mm_lck 191 720 ((mm_c191.drop 720).take 80) = true := by decide +kernel
theorem mm_lz191_800 : mm_lck 191 800 ((mm_c191.drop 800).take 80) = true := by decide +kernel
theorem mm_lz191_880 : mm_lck 191 880 ((mm_c191.drop 880).take 80) = true := by decide +kernel
theorem mm_lz191_960 : mm_lck 191 960 ((mm_c191.drop 960).take 80) = true := by decide +kernel
theorem mm_lz191_1040 : mm_lck 191 1040 ((mm_c191.drop 1040).take 80) = true := by decide +kernel
theorem mm_lz191_1120 : mm_lck 191 1120 ((mm_c191.drop 1120).take 80) = true := by decide +kernel
theorem mm_ly191_1120 : mm_lck 191 1120 (mm_c191.drop 1120) = true := by decide +kernel
theorem mm_ly191_1040 : mm_lck 191 1040 (mm_c191.drop 1040) = true := mm_lck_step (n := 80) mm_lz191_1040 (by decide +kernel) (by rw [List.drop_drop]; exact mm_ly191_1120)
theorem mm_ly191_960 : mm_lck 191 960 (mm_c191.drop 960) = true := mm_lck_step (n := 80) mm_lz191_960 (by decide +kernel) (by rw [List.drop_drop]; exact mm_ly191_1040)
theorem mm_ly191_880 : mm_lck 191 880 (mm_c191.drop 880) = true := mm_lck_step (n := 80) mm_lz191_880 (by decide +kernel) (by rw [List.drop_drop]; exact mm_ly191_960)
theorem mm_ly191_800 : mm_lck 191 800 (mm_c191.drop 800) = true := mm_lck_step (n := 80) mm_lz191_800 (by decide +kernel) (by rw [List.drop_drop]; exact mm_ly191_880)
theorem mm_ly191_720 : mm_lck 191 720 (mm_c191.drop 720) = true := mm_lck_step (n := 80) mm_lz191_720 (by decide +kernel) (by rw [List.drop_drop]; exact mm_ly191_800)
theorem mm_ly191_640 : mm_lck 191 640 (mm_c191.drop 640) = true := mm_lck_step (n := 80) mm_lz191_640 (by decide +kernel) (by rw [List.drop_drop]; exact mm_ly191_720)
theorem mm_ly191_560 : mm_lck 191 560 (mm_c191.drop 560) = true := mm_lck_step (n := 80) mm_lz191_560 (by decide +kernel) (by rw [List.drop_drop]; exact mm_ly191_640)
theorem mm_ly191_480 : mm_lck 191 480 (mm_c191.drop 480) = true := mm_lck_step (n := 80) mm_lz191_480 (by decide +kernel) (by rw [List.drop_drop]; exact mm_ly191_560)
theorem mm_ly191_400 : mm_lck 191 400 (mm_c191.drop 400) = true := mm_lck_step (n := 80) mm_lz191_400 (by decide +kernel) (by rw [List.drop_drop]; exact mm_ly191_480)
theorem mm_ly191_320 : mm_lck 191 320 (mm_c191.drop 320) = true := mm_lck_step (n := 80) mm_lz191_320 (by decide +kernel) (by rw [List.drop_drop]; exact mm_ly191_400)
theorem mm_ly191_240 : mm_lck 191 240 (mm_c191.drop 240) = true := mm_lck_step (n := 80) mm_lz191_240 (by decide +kernel) (by rw [List.drop_drop]; exact mm_ly191_320)
theorem mm_ly191_160 : mm_lck 191 160 (mm_c191.drop 160) = true := mm_lck_step (n := 80) mm_lz191_160 (by decide +kernel) (by rw [List.drop_drop]; exact mm_ly191_240)
theorem mm_ly191_80 : mm_lck 191 80 (mm_c191.drop 80) = true := mm_lck_step (n := 80) mm_lz191_80 (by decide +kernel) (by rw [List.drop_drop]; exact mm_ly191_160)
theorem mm_ly191_0 : mm_lck 191 0 (mm_c191.drop 0) = true := mm_lck_step (n := 80) mm_lz191_0 (by decide +kernel) (by rw [List.drop_drop]; exact mm_ly191_80)
theorem mm_lk191 : mm_lck 191 0 mm_c191 = true := mm_ly191_0
theorem mm_lz360_0 : mm_lck 360 0 ((mm_c360.drop 0).take 80) = true := by decide +kernel
theorem mm_lz360_80 : mm_lck 360 80 ((mm_c360.drop 80).take 80) = true := by decide +kernel
theorem mm_lz360_160 : mm_lck 360 160 ((mm_c360.drop 160).take 80) = true := by decide +kernel
theorem mm_lz360_240 : mm_lck 360 240 ((mm_c360.drop 240).take 80) = true := by decide +kernel
theorem mm_lz360_320 : mm_lck 360 320 ((mm_c360.drop 320).take 80) = true := by decide +kernel
theorem mm_lz360_400 : mm_lck 360 400 ((mm_c360.drop 400).take 80) = true := by decide +kernel
theorem mm_lz360_480 : mm_lck 360 480 ((mm_c360.drop 480).take 80) = true := by decide +kernel
theorem mm_lz360_560 : mm_lck 360 560 ((mm_c360.drop 560).take 80) = true := by decide +kernel
theorem mm_lz360_640 : mm_lck 360 640 ((mm_c360.drop 640).take 80) = true := by decide +kernel
theorem mm_lz360_720 : mm_lck 360 720 ((mm_c360.drop 720).take 80) = true := by decide +kernel
theorem mm_lz360_800 : mm_lck 360 800 ((mm_c360.drop 800).take 80) = true := by decide +kernel
theorem mm_lz360_880 : mm_lck 360 880 ((mm_c360.drop 880).take 80) = true := by decide +kernel
theorem mm_lz360_960 : mm_lck 360 960 ((mm_c360.drop 960).take 80) = true := by decide +kernel
theorem mm_lz360_1040 : mm_lck 360 1040 ((mm_c360.drop 1040).take 80) = true := by decide +kernel
theorem mm_lz360_1120 : mm_lck 360 1120 ((mm_c360.drop 1120).take 80) = true := by decide +kernel
theorem mm_lz360_1200 : mm_lck 360 1200 ((mm_c360.drop 1200).take 80) = true := by decide +kernel
theorem mm_lz360_1280 : mm_lck 360 1280 ((mm_c360.drop 1280).take 80) = true := by decide +kernel
theorem mm_lz360_1360 : mm_lck 360 1360 ((mm_c360.drop 1360).take 80) = true := by decide +kernel
theorem mm_lz360_1440 : mm_lck 360 1440 ((mm_c360.drop 1440).take 80) = true := by decide +kernel
theorem mm_lz360_1520 : mm_lck 360 1520 ((mm_c360.drop 1520).take 80) = true := by decide +kernel
theorem mm_lz360_1600 : mm_lck 360 1600 ((mm_c360.drop 1600).take 80) = true := by decide +kernel
theorem mm_ly360_1600 : mm_lck 360 1600 (mm_c360.drop 1600) = true := by decide +kernel
theorem mm_ly360_1520 : mm_lck 360 1520 (mm_c360.drop 1520) = true := mm_lck_step (n := 80) mm_lz360_1520 (by decide +kernel) (by rw [List.drop_drop]; exact mm_ly360_1600)
theorem mm_ly360_1440 : mm_lck 360 1440 (mm_c360.drop 1440) = true := mm_lck_step (n := 80) mm_lz360_1440 (by decide +kernel) (by rw [List.drop_drop]; exact mm_ly360_1520)
theorem mm_ly360_1360 : mm_lck 360 1360 (mm_c360.drop 1360) = true := mm_lck_step (n := 80) mm_lz360_1360 (by decide +kernel) (by rw [List.drop_drop]; exact mm_ly360_1440)
theorem mm_ly360_1280 : mm_lck 360 1280 (mm_c360.drop 1280) = true := mm_lck_step (n := 80) mm_lz360_1280 (by decide +kernel) (by rw [List.drop_drop]; exact mm_ly360_1360)
theorem mm_ly360_1200 : mm_lck 360 1200 (mm_c360.drop 1200) = true := mm_lck_step (n := 80) mm_lz360_1200 (by decide +kernel) (by rw [List.drop_drop]; exact mm_ly360_1280)
theorem mm_ly360_1120 : mm_lck 360 1120 (mm_c360.drop 1120) = true := mm_lck_step (n := 80) mm_lz360_1120 (by decide +kernel) (by rw [List.drop_drop]; exact mm_ly360_1200)
theorem mm_ly360_1040 : mm_lck 360 1040 (mm_c360.drop 1040) = true := mm_lck_step (n := 80) mm_lz360_1040 (by decide +kernel) (by rw [List.drop_drop]; exact mm_ly360_1120)
theorem mm_ly360_960 : mm_lck 360 960 (mm_c360.drop 960) = true := mm_lck_step (n := 80) mm_lz360_960 (by decide +kernel) (by rw [List.drop_drop]; exact mm_ly360_1040)
theorem mm_ly360_880 : mm_lck 360 880 (mm_c360.drop 880) = true := mm_lck_step (n := 80) mm_lz360_880 (by decide +kernel) (by rw [List.drop_drop]; exact mm_ly360_960)
theorem mm_ly360_800 : mm_lck 360 800 (mm_c360.drop 800) = true := mm_lck_step (n := 80) mm_lz360_800 (by decide +kernel) (by rw [List.drop_drop]; exact mm_ly360_880)
theorem mm_ly360_720 : mm_lck 360 720 (mm_c360.drop 720) = true := mm_lck_step (n := 80) mm_lz360_720 (by decide +kernel) (by rw [List.drop_drop]; exact mm_ly360_800)
theorem mm_ly360_640 : mm_lck 360 640 (mm_c360.drop 640) = true := mm_lck_step (n := 80) mm_lz360_640 (by decide +kernel) (by rw [List.drop_drop]; exact mm_ly360_720)
theorem mm_ly360_560 : mm_lck 360 560 (mm_c360.drop 560) = true := mm_lck_step (n := 80) mm_lz360_560 (by decide +kernel) (by rw [List.drop_drop]; exact mm_ly360_640)
theorem mm_ly360_480 : mm_lck 360 480 (mm_c360.drop 480) = true := mm_lck_step (n := 80) mm_lz360_480 (by decide +kernel) (by rw [List.drop_drop]; exact mm_ly360_560)
theorem mm_ly360_400 : mm_lck 360 400 (mm_c360.drop 400) = true := mm_lck_step (n := 80) mm_lz360_400 (by decide +kernel) (by rw [List.drop_drop]; exact mm_ly360_480)
theorem mm_ly360_320 : mm_lck 360 320 (mm_c360.drop 320) = true := mm_lck_step (n := 80) mm_lz360_320 (by decide +kernel) (by rw [List.drop_drop]; exact mm_ly360_400)
theorem mm_ly360_240 : mm_lck 360 240 (mm_c360.drop 240) = true := mm_lck_step (n := 80) mm_lz360_240 (by decide +kernel) (by rw [List.drop_drop]; exact mm_ly360_320)
theorem mm_ly360_160 : mm_lck 360 160 (mm_c360.drop 160) = true := mm_lck_step (n := 80) mm_lz360_160 (by decide +kernel) (by rw [List.drop_drop]; exact mm_ly360_240)
theorem mm_ly360_80 : mm_lck 360 80 (mm_c360.drop 80) = true := mm_lck_step (n := 80) mm_lz360_80 (by decide +kernel) (by rw [List.drop_drop]; exact mm_ly360_160)
theorem mm_ly360_0 : mm_lck 360 0 (mm_c360.drop 0) = true := mm_lck_step (n := 80) mm_lz360_0 (by decide +kernel) (by rw [List.drop_drop]; exact mm_ly360_80)
theorem mm_lk360 : mm_lck 360 0 mm_c360 = true := mm_ly360_0
