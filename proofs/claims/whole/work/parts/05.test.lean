
theorem zzt : hb_fe 110 0 (.iload_n 0, 1, 0, 0, 0, 0, 0) = true := by decide +kernel
