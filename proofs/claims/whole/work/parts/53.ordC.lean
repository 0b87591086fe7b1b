/-! the parts together -/
theorem good_all : ∀ c ∈ allOrd, goodO c = true := by
  intro c hc
  rw [split1] at hc
  simp only [List.mem_append, List.not_mem_nil, or_false] at hc
  rcases hc with hc | hc | hc | hc | hc | hc | hc
  · rw [split2_0] at hc
    simp only [List.mem_append, List.not_mem_nil, or_false, false_or] at hc
    rcases hc with hc | hc | hc | hc | hc | hc
    · exact List.all_eq_true.mp gA_0_1 c hc
    · exact List.all_eq_true.mp gA_0_2 c hc
    · exact List.all_eq_true.mp gA_0_3 c hc
    · exact List.all_eq_true.mp gA_0_4 c hc
    · exact List.all_eq_true.mp gA_0_5 c hc
    · exact List.all_eq_true.mp gA_0_6 c hc
  · rw [split2_1] at hc
    simp only [List.mem_append, List.not_mem_nil, or_false, false_or] at hc
    rcases hc with hc | hc | hc | hc | hc | hc
    · exact List.all_eq_true.mp gA_1_0 c hc
    · exact List.all_eq_true.mp gA_1_2 c hc
    · exact List.all_eq_true.mp gA_1_3 c hc
    · exact List.all_eq_true.mp gA_1_4 c hc
    · exact List.all_eq_true.mp gA_1_5 c hc
    · exact List.all_eq_true.mp gA_1_6 c hc
  · rw [split2_2] at hc
    simp only [List.mem_append, List.not_mem_nil, or_false, false_or] at hc
    rcases hc with hc | hc | hc | hc | hc | hc
    · exact List.all_eq_true.mp gA_2_0 c hc
    · exact List.all_eq_true.mp gA_2_1 c hc
    · exact List.all_eq_true.mp gA_2_3 c hc
    · exact List.all_eq_true.mp gA_2_4 c hc
    · exact List.all_eq_true.mp gA_2_5 c hc
    · exact List.all_eq_true.mp gA_2_6 c hc
  · rw [split2_3] at hc
    simp only [List.mem_append, List.not_mem_nil, or_false, false_or] at hc
    rcases hc with hc | hc | hc | hc | hc | hc
    · exact List.all_eq_true.mp gA_3_0 c hc
    · exact List.all_eq_true.mp gA_3_1 c hc
    · exact List.all_eq_true.mp gA_3_2 c hc
    · exact List.all_eq_true.mp gA_3_4 c hc
    · exact List.all_eq_true.mp gA_3_5 c hc
    · exact List.all_eq_true.mp gA_3_6 c hc
  · rw [split2_4] at hc
    simp only [List.mem_append, List.not_mem_nil, or_false, false_or] at hc
    rcases hc with hc | hc | hc | hc | hc | hc
    · exact List.all_eq_true.mp gA_4_0 c hc
    · exact List.all_eq_true.mp gA_4_1 c hc
    · exact List.all_eq_true.mp gA_4_2 c hc
    · exact List.all_eq_true.mp gA_4_3 c hc
    · exact List.all_eq_true.mp gA_4_5 c hc
    · exact List.all_eq_true.mp gA_4_6 c hc
  · rw [split2_5] at hc
    simp only [List.mem_append, List.not_mem_nil, or_false, false_or] at hc
    rcases hc with hc | hc | hc | hc | hc | hc
    · exact List.all_eq_true.mp gA_5_0 c hc
    · exact List.all_eq_true.mp gA_5_1 c hc
    · exact List.all_eq_true.mp gA_5_2 c hc
    · exact List.all_eq_true.mp gA_5_3 c hc
    · exact List.all_eq_true.mp gA_5_4 c hc
    · exact List.all_eq_true.mp gA_5_6 c hc
  · rw [split2_6] at hc
    simp only [List.mem_append, List.not_mem_nil, or_false, false_or] at hc
    rcases hc with hc | hc | hc | hc | hc | hc
    · exact List.all_eq_true.mp gA_6_0 c hc
    · exact List.all_eq_true.mp gA_6_1 c hc
    · exact List.all_eq_true.mp gA_6_2 c hc
    · exact List.all_eq_true.mp gA_6_3 c hc
    · exact List.all_eq_true.mp gA_6_4 c hc
    · exact List.all_eq_true.mp gA_6_5 c hc
