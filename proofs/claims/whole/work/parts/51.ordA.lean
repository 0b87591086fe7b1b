/-! all rows are rows of seven days: in 42 parts -/
theorem split1 : allOrd = dfsN 6 1 0 ++ (dfsN 6 2 1 ++ (dfsN 6 4 2 ++ (dfsN 6 8 3 ++ (dfsN 6 16 4 ++ (dfsN 6 32 5 ++ (dfsN 6 64 6 ++ [])))))) := rfl
theorem split2_0 : dfsN 6 1 0 = [] ++ (dfsN 5 3 1 ++ (dfsN 5 5 2 ++ (dfsN 5 9 3 ++ (dfsN 5 17 4 ++ (dfsN 5 33 5 ++ (dfsN 5 65 6 ++ [])))))) := rfl
theorem split2_1 : dfsN 6 2 1 = dfsN 5 3 8 ++ ([] ++ (dfsN 5 6 10 ++ (dfsN 5 10 11 ++ (dfsN 5 18 12 ++ (dfsN 5 34 13 ++ (dfsN 5 66 14 ++ [])))))) := rfl
theorem split2_2 : dfsN 6 4 2 = dfsN 5 5 16 ++ (dfsN 5 6 17 ++ ([] ++ (dfsN 5 12 19 ++ (dfsN 5 20 20 ++ (dfsN 5 36 21 ++ (dfsN 5 68 22 ++ [])))))) := rfl
theorem split2_3 : dfsN 6 8 3 = dfsN 5 9 24 ++ (dfsN 5 10 25 ++ (dfsN 5 12 26 ++ ([] ++ (dfsN 5 24 28 ++ (dfsN 5 40 29 ++ (dfsN 5 72 30 ++ [])))))) := rfl
theorem split2_4 : dfsN 6 16 4 = dfsN 5 17 32 ++ (dfsN 5 18 33 ++ (dfsN 5 20 34 ++ (dfsN 5 24 35 ++ ([] ++ (dfsN 5 48 37 ++ (dfsN 5 80 38 ++ [])))))) := rfl
theorem split2_5 : dfsN 6 32 5 = dfsN 5 33 40 ++ (dfsN 5 34 41 ++ (dfsN 5 36 42 ++ (dfsN 5 40 43 ++ (dfsN 5 48 44 ++ ([] ++ (dfsN 5 96 46 ++ [])))))) := rfl
theorem split2_6 : dfsN 6 64 6 = dfsN 5 65 48 ++ (dfsN 5 66 49 ++ (dfsN 5 68 50 ++ (dfsN 5 72 51 ++ (dfsN 5 80 52 ++ (dfsN 5 96 53 ++ ([] ++ [])))))) := rfl
theorem gA_0_1 : (dfsN 5 3 1).all goodO = true := by decide +kernel
theorem gA_0_2 : (dfsN 5 5 2).all goodO = true := by decide +kernel
theorem gA_0_3 : (dfsN 5 9 3).all goodO = true := by decide +kernel
theorem gA_0_4 : (dfsN 5 17 4).all goodO = true := by decide +kernel
theorem gA_0_5 : (dfsN 5 33 5).all goodO = true := by decide +kernel
theorem gA_0_6 : (dfsN 5 65 6).all goodO = true := by decide +kernel
theorem gA_1_0 : (dfsN 5 3 8).all goodO = true := by decide +kernel
theorem gA_1_2 : (dfsN 5 6 10).all goodO = true := by decide +kernel
theorem gA_1_3 : (dfsN 5 10 11).all goodO = true := by decide +kernel
theorem gA_1_4 : (dfsN 5 18 12).all goodO = true := by decide +kernel
theorem gA_1_5 : (dfsN 5 34 13).all goodO = true := by decide +kernel
theorem gA_1_6 : (dfsN 5 66 14).all goodO = true := by decide +kernel
theorem gA_2_0 : (dfsN 5 5 16).all goodO = true := by decide +kernel
theorem gA_2_1 : (dfsN 5 6 17).all goodO = true := by decide +kernel
theorem gA_2_3 : (dfsN 5 12 19).all goodO = true := by decide +kernel
theorem gA_2_4 : (dfsN 5 20 20).all goodO = true := by decide +kernel
theorem gA_2_5 : (dfsN 5 36 21).all goodO = true := by decide +kernel
theorem gA_2_6 : (dfsN 5 68 22).all goodO = true := by decide +kernel
theorem gA_3_0 : (dfsN 5 9 24).all goodO = true := by decide +kernel
theorem gA_3_1 : (dfsN 5 10 25).all goodO = true := by decide +kernel
theorem gA_3_2 : (dfsN 5 12 26).all goodO = true := by decide +kernel
theorem gA_3_4 : (dfsN 5 24 28).all goodO = true := by decide +kernel
theorem gA_3_5 : (dfsN 5 40 29).all goodO = true := by decide +kernel
theorem gA_3_6 : (dfsN 5 72 30).all goodO = true := by decide +kernel
theorem gA_4_0 : (dfsN 5 17 32).all goodO = true := by decide +kernel
theorem gA_4_1 : (dfsN 5 18 33).all goodO = true := by decide +kernel
theorem gA_4_2 : (dfsN 5 20 34).all goodO = true := by decide +kernel
theorem gA_4_3 : (dfsN 5 24 35).all goodO = true := by decide +kernel
theorem gA_4_5 : (dfsN 5 48 37).all goodO = true := by decide +kernel
theorem gA_4_6 : (dfsN 5 80 38).all goodO = true := by decide +kernel
theorem gA_5_0 : (dfsN 5 33 40).all goodO = true := by decide +kernel
theorem gA_5_1 : (dfsN 5 34 41).all goodO = true := by decide +kernel
theorem gA_5_2 : (dfsN 5 36 42).all goodO = true := by decide +kernel
theorem gA_5_3 : (dfsN 5 40 43).all goodO = true := by decide +kernel
theorem gA_5_4 : (dfsN 5 48 44).all goodO = true := by decide +kernel
theorem gA_5_6 : (dfsN 5 96 46).all goodO = true := by decide +kernel
theorem gA_6_0 : (dfsN 5 65 48).all goodO = true := by decide +kernel
theorem gA_6_1 : (dfsN 5 66 49).all goodO = true := by decide +kernel
theorem gA_6_2 : (dfsN 5 68 50).all goodO = true := by decide +kernel
theorem gA_6_3 : (dfsN 5 72 51).all goodO = true := by decide +kernel
theorem gA_6_4 : (dfsN 5 80 52).all goodO = true := by decide +kernel
theorem gA_6_5 : (dfsN 5 96 53).all goodO = true := by decide +kernel
