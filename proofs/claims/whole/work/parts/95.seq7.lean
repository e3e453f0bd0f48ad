/-! all rows of seven and eight numbers -/
theorem en7 : enum 7 7 0 [] 0 = true := by decide +kernel
theorem en8_0 : enum 8 7 0 [0] 1 = true := by decide +kernel
theorem en8_1 : enum 8 7 1 [1] 16 = true := by decide +kernel
theorem en8_2 : enum 8 7 2 [2] 256 = true := by decide +kernel
theorem en8_3 : enum 8 7 3 [3] 4096 = true := by decide +kernel
theorem en8_4 : enum 8 7 4 [4] 65536 = true := by decide +kernel
theorem en8_5 : enum 8 7 5 [5] 1048576 = true := by decide +kernel
theorem en8_6 : enum 8 7 6 [6] 16777216 = true := by decide +kernel
theorem en8_7 : enum 8 7 7 [7] 268435456 = true := by decide +kernel
theorem en8_8 : enum 8 7 8 [8] 4294967296 = true := by decide +kernel
