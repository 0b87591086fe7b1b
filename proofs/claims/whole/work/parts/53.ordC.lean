/-! the parts together -/
theorem good_all : ∀ c ∈ allOrd, goodO c = true := by
  intro c hc
  rw [split1] at hc
  simp only [List.mem_append, List.not_mem_nil, or_false] at hc
  rcases hc with hc | hc | hc | hc | hc | hc | hc
  · rw [split2_0] at hc
    simp only [List.mem_append, List.not_mem_nil, or_false, false_or] at hc
    rcases hc with hc | hc | hc | hc | hc | hc
    · exact List.all_eq_true.mp gA_0_1 c hc
    · exact List.all_eq_true.mp gA_0_2 c hc
    · exact List.all_eq_true.mp gA_0_3 c hc
    · exact List.all_eq_true.mp gA_0_4 c hc
    · exact List.all_eq_true.mp gA_0_5 c hc
    · exact List.all_eq_true.mp gA_0_6 c hc
  · rw [split2_1] at hc
    simp only [List.mem_append, List.not_mem_nil, or_false, false_or] at hc
    rcases hc with hc | hc | hc | hc | hc | hc
    · exact List.all_eq_true.mp gA_1_0 c hc
    · exact List.all_eq_true.mp gA_1_2 c hc
    · exact List.all_eq_true.mp gA_1_3 c hc
    · exact List.all_eq_true.mp gA_1_4 c hc
    · exact List.all_eq_true.mp gA_1_5 c hc
    · exact List.all_eq_true.mp gA_1_6 c hc
  · rw [split2_2] at hc
    simp only [List.mem_append, List.not_mem_nil, or_false, false_or] at hc
    rcases hc with hc | hc | hc | hc | hc | hc
    · exact List.all_eq_true.mp gA_2_0 c hc
    · exact List.all_eq_true.mp gA_2_1 c hc
    · exact List.all_eq_true.mp gA_2_3 c hc
    · exact List.all_eq_true.mp gA_2_4 c hc
    · exact List.all_eq_true.mp gA_2_5 c hc
    · exact List.all_eq_true.mp gA_2_6 c hc
  · rw [split2_3] at hc
    simp only [List.mem_append, List.not_mem_nil, or_false, false_or] at hc
    rcases hc with hc | hc | hc | hc | hc | hc
    · exact List.all_eq_true.mp gA_3_0 c hc
    · exact List.all_eq_true.mp gA_3_1 c hc
    · exact List.all_eq_true.mp gA_3_2 c hc
    · exact List.all_eq_true.mp gA_3_4 c hc
    · exact List.all_eq_true.mp gA_3_5 c hc
    · exact List.all_eq_true.mp gA_3_6 c hc
  · rw [split2_4] at hc
    simp only [List.mem_append, List.not_mem_nil, or_false, false_or] at hc
    rcases hc with hc | hc | hc | hc | hc | hc
    · exact List.all_eq_true.mp gA_4_0 c hc
    · exact List.all_eq_true.mp gA_4_1 c hc
    · exact List.all_eq_true.mp gA_4_2 c hc
    · exact List.all_eq_true.mp gA_4_3 c hc
    · exact List.all_eq_true.mp gA_4_5 c hc
    · exact List.all_eq_true.mp gA_4_6 c hc
  · rw [split2_5] at hc
    simp only [List.mem_append, List.not_mem_nil, or_false, false_or] at hc
    rcases hc with hc | hc | hc | hc | hc | hc
    · exact List.all_eq_true.mp gA_5_0 c hc
    · exact List.all_eq_true.mp gA_5_1 c hc
    · exact List.all_eq_true.mp gA_5_2 c hc
    · exact List.all_eq_true.mp gA_5_3 c hc
    · exact List.all_eq_true.mp gA_5_4 c hc
    · exact List.all_eq_true.mp gA_5_6 c hc
  · rw [split2_6] at hc
    simp only [List.mem_append, List.not_mem_nil, or_false, false_or] at hc
    rcases hc with hc | hc | hc | hc | hc | hc
    · exact List.all_eq_true.mp gA_6_0 c hc
    · exact List.all_eq_true.mp gA_6_1 c hc
    · exact List.all_eq_true.mp gA_6_2 c hc
    · exact List.all_eq_true.mp gA_6_3 c hc
    · exact List.all_eq_true.mp gA_6_4 c hc
    · exact List.all_eq_true.mp gA_6_5 c hc
theorem ordO_all : (List.range' 0 5040).map ordO = allOrd.map some := by
  rw [split1, split2_0, split2_1, split2_2, split2_3, split2_4, split2_5, split2_6]
  simp only [List.nil_append, List.append_nil, List.map_append, ← oA_0_1, ← oA_0_2, ← oA_0_3, ← oA_0_4, ← oA_0_5, ← oA_0_6, ← oA_1_0, ← oA_1_2, ← oA_1_3, ← oA_1_4, ← oA_1_5, ← oA_1_6, ← oA_2_0, ← oA_2_1, ← oA_2_3, ← oA_2_4, ← oA_2_5, ← oA_2_6, ← oA_3_0, ← oA_3_1, ← oA_3_2, ← oA_3_4, ← oA_3_5, ← oA_3_6, ← oA_4_0, ← oA_4_1, ← oA_4_2, ← oA_4_3, ← oA_4_5, ← oA_4_6, ← oA_5_0, ← oA_5_1, ← oA_5_2, ← oA_5_3, ← oA_5_4, ← oA_5_6, ← oA_6_0, ← oA_6_1, ← oA_6_2, ← oA_6_3, ← oA_6_4, ← oA_6_5]
  simp only [← List.map_append, List.range'_append, List.append_assoc]
  have e : ∀ (s m n : Nat), List.range' s m ++ List.range' (s + m) n = List.range' s (m + n) := fun s m n => by simpa using List.range'_append (s := s) (m := m) (n := n) (step := 1)
  congr 1
