/-! the parts together -/
theorem sp_0 : dfsN 6 1 0 = dfsN 5 3 1 ++ (dfsN 5 5 2 ++ (dfsN 5 9 3 ++ (dfsN 5 17 4 ++ (dfsN 5 33 5 ++ (dfsN 5 65 6))))) := by rw [split2_0, List.append_nil, List.nil_append]
theorem rg_0 : List.range' 0 720 = List.range' 0 120 ++ (List.range' 120 120 ++ (List.range' 240 120 ++ (List.range' 360 120 ++ (List.range' 480 120 ++ (List.range' 600 120))))) := by decide +kernel
theorem oB_0 : (List.range' 0 720).map ordO = (dfsN 6 1 0).map some := by
  rw [rg_0, List.map_append, List.map_append, List.map_append, List.map_append, List.map_append, oA_0_1, oA_0_2, oA_0_3, oA_0_4, oA_0_5, oA_0_6, ← List.map_append, ← List.map_append, ← List.map_append, ← List.map_append, ← List.map_append, ← sp_0]
theorem sp_1 : dfsN 6 2 1 = dfsN 5 3 8 ++ (dfsN 5 6 10 ++ (dfsN 5 10 11 ++ (dfsN 5 18 12 ++ (dfsN 5 34 13 ++ (dfsN 5 66 14))))) := by rw [split2_1, List.append_nil, List.nil_append]
theorem rg_1 : List.range' 720 720 = List.range' 720 120 ++ (List.range' 840 120 ++ (List.range' 960 120 ++ (List.range' 1080 120 ++ (List.range' 1200 120 ++ (List.range' 1320 120))))) := by decide +kernel
theorem oB_1 : (List.range' 720 720).map ordO = (dfsN 6 2 1).map some := by
  rw [rg_1, List.map_append, List.map_append, List.map_append, List.map_append, List.map_append, oA_1_0, oA_1_2, oA_1_3, oA_1_4, oA_1_5, oA_1_6, ← List.map_append, ← List.map_append, ← List.map_append, ← List.map_append, ← List.map_append, ← sp_1]
theorem sp_2 : dfsN 6 4 2 = dfsN 5 5 16 ++ (dfsN 5 6 17 ++ (dfsN 5 12 19 ++ (dfsN 5 20 20 ++ (dfsN 5 36 21 ++ (dfsN 5 68 22))))) := by rw [split2_2, List.append_nil, List.nil_append]
theorem rg_2 : List.range' 1440 720 = List.range' 1440 120 ++ (List.range' 1560 120 ++ (List.range' 1680 120 ++ (List.range' 1800 120 ++ (List.range' 1920 120 ++ (List.range' 2040 120))))) := by decide +kernel
theorem oB_2 : (List.range' 1440 720).map ordO = (dfsN 6 4 2).map some := by
  rw [rg_2, List.map_append, List.map_append, List.map_append, List.map_append, List.map_append, oA_2_0, oA_2_1, oA_2_3, oA_2_4, oA_2_5, oA_2_6, ← List.map_append, ← List.map_append, ← List.map_append, ← List.map_append, ← List.map_append, ← sp_2]
theorem sp_3 : dfsN 6 8 3 = dfsN 5 9 24 ++ (dfsN 5 10 25 ++ (dfsN 5 12 26 ++ (dfsN 5 24 28 ++ (dfsN 5 40 29 ++ (dfsN 5 72 30))))) := by rw [split2_3, List.append_nil, List.nil_append]
theorem rg_3 : List.range' 2160 720 = List.range' 2160 120 ++ (List.range' 2280 120 ++ (List.range' 2400 120 ++ (List.range' 2520 120 ++ (List.range' 2640 120 ++ (List.range' 2760 120))))) := by decide +kernel
theorem oB_3 : (List.range' 2160 720).map ordO = (dfsN 6 8 3).map some := by
  rw [rg_3, List.map_append, List.map_append, List.map_append, List.map_append, List.map_append, oA_3_0, oA_3_1, oA_3_2, oA_3_4, oA_3_5, oA_3_6, ← List.map_append, ← List.map_append, ← List.map_append, ← List.map_append, ← List.map_append, ← sp_3]
theorem sp_4 : dfsN 6 16 4 = dfsN 5 17 32 ++ (dfsN 5 18 33 ++ (dfsN 5 20 34 ++ (dfsN 5 24 35 ++ (dfsN 5 48 37 ++ (dfsN 5 80 38))))) := by rw [split2_4, List.append_nil, List.nil_append]
theorem rg_4 : List.range' 2880 720 = List.range' 2880 120 ++ (List.range' 3000 120 ++ (List.range' 3120 120 ++ (List.range' 3240 120 ++ (List.range' 3360 120 ++ (List.range' 3480 120))))) := by decide +kernel
theorem oB_4 : (List.range' 2880 720).map ordO = (dfsN 6 16 4).map some := by
  rw [rg_4, List.map_append, List.map_append, List.map_append, List.map_append, List.map_append, oA_4_0, oA_4_1, oA_4_2, oA_4_3, oA_4_5, oA_4_6, ← List.map_append, ← List.map_append, ← List.map_append, ← List.map_append, ← List.map_append, ← sp_4]
theorem sp_5 : dfsN 6 32 5 = dfsN 5 33 40 ++ (dfsN 5 34 41 ++ (dfsN 5 36 42 ++ (dfsN 5 40 43 ++ (dfsN 5 48 44 ++ (dfsN 5 96 46))))) := by rw [split2_5, List.append_nil, List.nil_append]
theorem rg_5 : List.range' 3600 720 = List.range' 3600 120 ++ (List.range' 3720 120 ++ (List.range' 3840 120 ++ (List.range' 3960 120 ++ (List.range' 4080 120 ++ (List.range' 4200 120))))) := by decide +kernel
theorem oB_5 : (List.range' 3600 720).map ordO = (dfsN 6 32 5).map some := by
  rw [rg_5, List.map_append, List.map_append, List.map_append, List.map_append, List.map_append, oA_5_0, oA_5_1, oA_5_2, oA_5_3, oA_5_4, oA_5_6, ← List.map_append, ← List.map_append, ← List.map_append, ← List.map_append, ← List.map_append, ← sp_5]
theorem sp_6 : dfsN 6 64 6 = dfsN 5 65 48 ++ (dfsN 5 66 49 ++ (dfsN 5 68 50 ++ (dfsN 5 72 51 ++ (dfsN 5 80 52 ++ (dfsN 5 96 53))))) := by rw [split2_6, List.append_nil, List.append_nil]
theorem rg_6 : List.range' 4320 720 = List.range' 4320 120 ++ (List.range' 4440 120 ++ (List.range' 4560 120 ++ (List.range' 4680 120 ++ (List.range' 4800 120 ++ (List.range' 4920 120))))) := by decide +kernel
theorem oB_6 : (List.range' 4320 720).map ordO = (dfsN 6 64 6).map some := by
  rw [rg_6, List.map_append, List.map_append, List.map_append, List.map_append, List.map_append, oA_6_0, oA_6_1, oA_6_2, oA_6_3, oA_6_4, oA_6_5, ← List.map_append, ← List.map_append, ← List.map_append, ← List.map_append, ← List.map_append, ← sp_6]

theorem sp_a : allOrd = dfsN 6 1 0 ++ (dfsN 6 2 1 ++ (dfsN 6 4 2 ++ (dfsN 6 8 3 ++ (dfsN 6 16 4 ++ (dfsN 6 32 5 ++ (dfsN 6 64 6)))))) := by rw [split1, List.append_nil]
theorem rg_a : List.range' 0 5040 = List.range' 0 720 ++ (List.range' 720 720 ++ (List.range' 1440 720 ++ (List.range' 2160 720 ++ (List.range' 2880 720 ++ (List.range' 3600 720 ++ (List.range' 4320 720)))))) := by
  have e5 : List.range' 3600 720 ++ List.range' 4320 720 = List.range' 3600 1440 := @List.range'_append_1 3600 720 720
  have e4 : List.range' 2880 720 ++ List.range' 3600 1440 = List.range' 2880 2160 := @List.range'_append_1 2880 720 1440
  have e3 : List.range' 2160 720 ++ List.range' 2880 2160 = List.range' 2160 2880 := @List.range'_append_1 2160 720 2160
  have e2 : List.range' 1440 720 ++ List.range' 2160 2880 = List.range' 1440 3600 := @List.range'_append_1 1440 720 2880
  have e1 : List.range' 720 720 ++ List.range' 1440 3600 = List.range' 720 4320 := @List.range'_append_1 720 720 3600
  have e0 : List.range' 0 720 ++ List.range' 720 4320 = List.range' 0 5040 := @List.range'_append_1 0 720 4320
  rw [e5, e4, e3, e2, e1, e0]
theorem ordO_all : (List.range' 0 5040).map ordO = allOrd.map some := by
  rw [rg_a, List.map_append, List.map_append, List.map_append, List.map_append, List.map_append, List.map_append, oB_0, oB_1, oB_2, oB_3, oB_4, oB_5, oB_6, ← List.map_append, ← List.map_append, ← List.map_append, ← List.map_append, ← List.map_append, ← List.map_append, ← sp_a]
theorem map_range_at {α : Type} (f : Nat → α) (n v : Nat) (hv : v < n) : ((List.range' 0 n).map f)[v]? = some (f v) := by
  rw [List.getElem?_map, List.getElem?_range' hv]
  simp
theorem map_some_at (l : List Nat) (v : Nat) (hv : v < l.length) : (l.map some)[v]? = some (some (l.getD v 0)) := by
  rw [List.getElem?_map, List.getD_eq_getElem?_getD, List.getElem?_eq_getElem hv]
  rfl
theorem ordO_at (v : Nat) (hv : v < 5040) : ordO v = some (allOrd.getD v 0) := by
  have h1 := map_range_at ordO 5040 v hv
  rw [ordO_all, map_some_at allOrd v (by rw [allOrd_len]; exact hv)] at h1
  exact (Option.some.inj h1).symm
