theorem zz_last : plainName yJ0_coder_7d493.cls = true := by decide
theorem zz_last2 : plainName yJ6_bitCount_0f7a4.cls = true := by decide
theorem zz_3 : plainName yJ9_min_7cf53.cls = true := by decide
