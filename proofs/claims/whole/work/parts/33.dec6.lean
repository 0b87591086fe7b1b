/-! the law's decode rows -/
theorem dl_1110 : decode code 1110 = .ok (.iconst 1, 1) := by decide +kernel
theorem dl_1111 : decode code 1111 = .ok (.ireturn, 1) := by decide +kernel
