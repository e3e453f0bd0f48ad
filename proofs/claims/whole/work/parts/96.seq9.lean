/-! all rows of nine numbers -/
theorem en9_00 : enum 9 7 0 [0, 0] 2 = true := by decide +kernel
theorem en9_01 : enum 9 7 1 [1, 0] 17 = true := by decide +kernel
theorem en9_02 : enum 9 7 2 [2, 0] 257 = true := by decide +kernel
theorem en9_03 : enum 9 7 3 [3, 0] 4097 = true := by decide +kernel
theorem en9_04 : enum 9 7 4 [4, 0] 65537 = true := by decide +kernel
theorem en9_05 : enum 9 7 5 [5, 0] 1048577 = true := by decide +kernel
theorem en9_06 : enum 9 7 6 [6, 0] 16777217 = true := by decide +kernel
theorem en9_07 : enum 9 7 7 [7, 0] 268435457 = true := by decide +kernel
theorem en9_08 : enum 9 7 8 [8, 0] 4294967297 = true := by decide +kernel
theorem en9_1 : enum 9 8 1 [1] 16 = true := by decide +kernel
theorem en9_2 : enum 9 8 2 [2] 256 = true := by decide +kernel
theorem en9_3 : enum 9 8 3 [3] 4096 = true := by decide +kernel
theorem en9_4 : enum 9 8 4 [4] 65536 = true := by decide +kernel
theorem en9_5 : enum 9 8 5 [5] 1048576 = true := by decide +kernel
theorem en9_6 : enum 9 8 6 [6] 16777216 = true := by decide +kernel
theorem en9_7 : enum 9 8 7 [7] 268435456 = true := by decide +kernel
theorem en9_8 : enum 9 8 8 [8] 4294967296 = true := by decide +kernel
