/-! WORDS OF METHODS AND LINKS -/
theorem inT1 {w : Cond} (h : w ∈ tables_1_1) (hg : goodWord w = true) : w ∈ gT := gT_of (List.mem_append_left _ h) hg
theorem inT2 {w : Cond} (h : w ∈ tables_1_2) (hg : goodWord w = true) : w ∈ gT := gT_of (List.mem_append_right _ (List.mem_append_left _ h)) hg
theorem inT3 {w : Cond} (h : w ∈ tables_1_3) (hg : goodWord w = true) : w ∈ gT := gT_of (List.mem_append_right _ (List.mem_append_right _ (List.mem_append_left _ h))) hg
theorem inT4 {w : Cond} (h : w ∈ tables_1_4) (hg : goodWord w = true) : w ∈ gT := gT_of (List.mem_append_right _ (List.mem_append_right _ (List.mem_append_right _ (List.mem_append_left _ h)))) hg
theorem inT5 {w : Cond} (h : w ∈ tables_1_5) (hg : goodWord w = true) : w ∈ gT := gT_of (List.mem_append_right _ (List.mem_append_right _ (List.mem_append_right _ (List.mem_append_right _ (List.mem_append_left _ h))))) hg
theorem inT6 {w : Cond} (h : w ∈ tables_1_6) (hg : goodWord w = true) : w ∈ gT := gT_of (List.mem_append_right _ (List.mem_append_right _ (List.mem_append_right _ (List.mem_append_right _ (List.mem_append_right _ (List.mem_append_left _ h)))))) hg
theorem inT7 {w : Cond} (h : w ∈ tables_1_7) (hg : goodWord w = true) : w ∈ gT := gT_of (List.mem_append_right _ (List.mem_append_right _ (List.mem_append_right _ (List.mem_append_right _ (List.mem_append_right _ (List.mem_append_right _ (List.mem_append_left _ h))))))) hg
theorem inT8 {w : Cond} (h : w ∈ tables_1_8) (hg : goodWord w = true) : w ∈ gT := gT_of (List.mem_append_right _ (List.mem_append_right _ (List.mem_append_right _ (List.mem_append_right _ (List.mem_append_right _ (List.mem_append_right _ (List.mem_append_right _ (List.mem_append_left _ h)))))))) hg
theorem inT9 {w : Cond} (h : w ∈ tables_1_9) (hg : goodWord w = true) : w ∈ gT := gT_of (List.mem_append_right _ (List.mem_append_right _ (List.mem_append_right _ (List.mem_append_right _ (List.mem_append_right _ (List.mem_append_right _ (List.mem_append_right _ (List.mem_append_right _ (h))))))))) hg
theorem inP1 {q : MethodName × Nat} (h : q ∈ lw_privs_1) : Cond.selects q.1.cls q.1 q.1 ∈ gT := List.mem_filter.mpr ⟨List.mem_append_left _ (List.mem_map.mpr ⟨q, List.mem_append_left _ h, rfl⟩), rfl⟩
theorem inP2 {q : MethodName × Nat} (h : q ∈ lw_privs_2) : Cond.selects q.1.cls q.1 q.1 ∈ gT := List.mem_filter.mpr ⟨List.mem_append_left _ (List.mem_map.mpr ⟨q, List.mem_append_right _ (List.mem_append_left _ h), rfl⟩), rfl⟩
theorem inP3 {q : MethodName × Nat} (h : q ∈ lw_privs_3) : Cond.selects q.1.cls q.1 q.1 ∈ gT := List.mem_filter.mpr ⟨List.mem_append_left _ (List.mem_map.mpr ⟨q, List.mem_append_right _ (List.mem_append_right _ (List.mem_append_left _ h)), rfl⟩), rfl⟩
theorem inP4 {q : MethodName × Nat} (h : q ∈ lw_privs_4) : Cond.selects q.1.cls q.1 q.1 ∈ gT := List.mem_filter.mpr ⟨List.mem_append_left _ (List.mem_map.mpr ⟨q, List.mem_append_right _ (List.mem_append_right _ (List.mem_append_right _ (List.mem_append_left _ h))), rfl⟩), rfl⟩
theorem inP5 {q : MethodName × Nat} (h : q ∈ lw_privs_5) : Cond.selects q.1.cls q.1 q.1 ∈ gT := List.mem_filter.mpr ⟨List.mem_append_left _ (List.mem_map.mpr ⟨q, List.mem_append_right _ (List.mem_append_right _ (List.mem_append_right _ (List.mem_append_right _ (List.mem_append_left _ h)))), rfl⟩), rfl⟩
theorem inP6 {q : MethodName × Nat} (h : q ∈ lw_privs_6) : Cond.selects q.1.cls q.1 q.1 ∈ gT := List.mem_filter.mpr ⟨List.mem_append_left _ (List.mem_map.mpr ⟨q, List.mem_append_right _ (List.mem_append_right _ (List.mem_append_right _ (List.mem_append_right _ (List.mem_append_right _ (List.mem_append_left _ h))))), rfl⟩), rfl⟩
theorem inP7 {q : MethodName × Nat} (h : q ∈ lw_privs_7) : Cond.selects q.1.cls q.1 q.1 ∈ gT := List.mem_filter.mpr ⟨List.mem_append_left _ (List.mem_map.mpr ⟨q, List.mem_append_right _ (List.mem_append_right _ (List.mem_append_right _ (List.mem_append_right _ (List.mem_append_right _ (List.mem_append_right _ (List.mem_append_left _ h)))))), rfl⟩), rfl⟩
theorem inP8 {q : MethodName × Nat} (h : q ∈ lw_privs_8) : Cond.selects q.1.cls q.1 q.1 ∈ gT := List.mem_filter.mpr ⟨List.mem_append_left _ (List.mem_map.mpr ⟨q, List.mem_append_right _ (List.mem_append_right _ (List.mem_append_right _ (List.mem_append_right _ (List.mem_append_right _ (List.mem_append_right _ (List.mem_append_right _ (h))))))), rfl⟩), rfl⟩
theorem iniX10 : Cond.initialized RX10 ∈ gT := (inT1 (List.mem_of_getElem? (i := 1) rfl) rfl)
theorem nmhX10 : RX10 ≠ "java/lang/invoke/MethodHandle" ∧ RX10 ≠ "java/lang/invoke/VarHandle" := by decide
theorem iniX0 : Cond.initialized RX0 ∈ gT := (inT1 (List.mem_of_getElem? (i := 5) rfl) rfl)
theorem nmhX0 : RX0 ≠ "java/lang/invoke/MethodHandle" ∧ RX0 ≠ "java/lang/invoke/VarHandle" := by decide
theorem iniX1 : Cond.initialized RX1 ∈ gT := (inT1 (List.mem_of_getElem? (i := 7) rfl) rfl)
theorem nmhX1 : RX1 ≠ "java/lang/invoke/MethodHandle" ∧ RX1 ≠ "java/lang/invoke/VarHandle" := by decide
theorem iniX2 : Cond.initialized RX2 ∈ gT := (inT1 (List.mem_of_getElem? (i := 9) rfl) rfl)
theorem nmhX2 : RX2 ≠ "java/lang/invoke/MethodHandle" ∧ RX2 ≠ "java/lang/invoke/VarHandle" := by decide
theorem iniX3 : Cond.initialized RX3 ∈ gT := (inT1 (List.mem_of_getElem? (i := 8) rfl) rfl)
theorem nmhX3 : RX3 ≠ "java/lang/invoke/MethodHandle" ∧ RX3 ≠ "java/lang/invoke/VarHandle" := by decide
theorem iniX4 : Cond.initialized RX4 ∈ gT := (inT1 (List.mem_of_getElem? (i := 4) rfl) rfl)
theorem nmhX4 : RX4 ≠ "java/lang/invoke/MethodHandle" ∧ RX4 ≠ "java/lang/invoke/VarHandle" := by decide
theorem iniX5 : Cond.initialized RX5 ∈ gT := (inT1 (List.mem_of_getElem? (i := 10) rfl) rfl)
theorem nmhX5 : RX5 ≠ "java/lang/invoke/MethodHandle" ∧ RX5 ≠ "java/lang/invoke/VarHandle" := by decide
theorem iniX6 : Cond.initialized RX6 ∈ gT := (inT1 (List.mem_of_getElem? (i := 11) rfl) rfl)
theorem nmhX6 : RX6 ≠ "java/lang/invoke/MethodHandle" ∧ RX6 ≠ "java/lang/invoke/VarHandle" := by decide
theorem iniX7 : Cond.initialized RX7 ∈ gT := (inT1 (List.mem_of_getElem? (i := 12) rfl) rfl)
theorem nmhX7 : RX7 ≠ "java/lang/invoke/MethodHandle" ∧ RX7 ≠ "java/lang/invoke/VarHandle" := by decide
theorem iniX8 : Cond.initialized RX8 ∈ gT := (inT1 (List.mem_of_getElem? (i := 2) rfl) rfl)
theorem nmhX8 : RX8 ≠ "java/lang/invoke/MethodHandle" ∧ RX8 ≠ "java/lang/invoke/VarHandle" := by decide
theorem iniX9 : Cond.initialized RX9 ∈ gT := (inT1 (List.mem_of_getElem? (i := 6) rfl) rfl)
theorem nmhX9 : RX9 ≠ "java/lang/invoke/MethodHandle" ∧ RX9 ≠ "java/lang/invoke/VarHandle" := by decide
theorem iniX11 : Cond.initialized RX11 ∈ gT := (inT1 (List.mem_of_getElem? (i := 13) rfl) rfl)
theorem nmhX11 : RX11 ≠ "java/lang/invoke/MethodHandle" ∧ RX11 ≠ "java/lang/invoke/VarHandle" := by decide
theorem iniJ6 : Cond.initialized RJ6 ∈ gT := (inT1 (List.mem_of_getElem? (i := 20) rfl) rfl)
theorem nmhJ6 : RJ6 ≠ "java/lang/invoke/MethodHandle" ∧ RJ6 ≠ "java/lang/invoke/VarHandle" := by decide
theorem iniJ9 : Cond.initialized RJ9 ∈ gT := (inT1 (List.mem_of_getElem? (i := 16) rfl) rfl)
theorem nmhJ9 : RJ9 ≠ "java/lang/invoke/MethodHandle" ∧ RJ9 ≠ "java/lang/invoke/VarHandle" := by decide
theorem iniJ0 : Cond.initialized RJ0 ∈ gT := (inT1 (List.mem_of_getElem? (i := 14) rfl) rfl)
theorem nmhJ0 : RJ0 ≠ "java/lang/invoke/MethodHandle" ∧ RJ0 ≠ "java/lang/invoke/VarHandle" := by decide
theorem iniJ1 : Cond.initialized RJ1 ∈ gT := (inT1 (List.mem_of_getElem? (i := 15) rfl) rfl)
theorem nmhJ1 : RJ1 ≠ "java/lang/invoke/MethodHandle" ∧ RJ1 ≠ "java/lang/invoke/VarHandle" := by decide
theorem iniJ7 : Cond.initialized RJ7 ∈ gT := (inT1 (List.mem_of_getElem? (i := 3) rfl) rfl)
theorem nmhJ7 : RJ7 ≠ "java/lang/invoke/MethodHandle" ∧ RJ7 ≠ "java/lang/invoke/VarHandle" := by decide
theorem iniJ3 : Cond.initialized RJ3 ∈ gT := (inT1 (List.mem_of_getElem? (i := 18) rfl) rfl)
theorem nmhJ3 : RJ3 ≠ "java/lang/invoke/MethodHandle" ∧ RJ3 ≠ "java/lang/invoke/VarHandle" := by decide
theorem oX0_init : MOK mX0_init 0 := ⟨(inT1 (List.mem_of_getElem? (i := 95) rfl) rfl), iniX0, nmhX0, by decide +kernel, by decide⟩
theorem jX0_init : Cond.instanceMethod mX0_init.1 ∈ gT := (inT1 (List.mem_of_getElem? (i := 94) rfl) rfl)
theorem oX0_find : MOK mX0_find 1 := ⟨(inT5 (List.mem_of_getElem? (i := 118) rfl) rfl), iniX0, nmhX0, by decide +kernel, by decide⟩
theorem jX0_find : IOK mX0_find := ⟨(inT5 (List.mem_of_getElem? (i := 116) rfl) rfl), (inT5 (List.mem_of_getElem? (i := 117) rfl) rfl)⟩
theorem oX0_takeUpTo : MOK mX0_takeUpTo 4 := ⟨(inT5 (List.mem_of_getElem? (i := 131) rfl) rfl), iniX0, nmhX0, by decide +kernel, by decide⟩
theorem jX0_takeUpTo : IOK mX0_takeUpTo := ⟨(inT5 (List.mem_of_getElem? (i := 130) rfl) rfl), inP3 (List.mem_of_getElem? (i := 13) rfl)⟩
theorem oX0_offer : MOK mX0_offer 3 := ⟨(inT5 (List.mem_of_getElem? (i := 136) rfl) rfl), iniX0, nmhX0, by decide +kernel, by decide⟩
theorem jX0_offer : IOK mX0_offer := ⟨(inT5 (List.mem_of_getElem? (i := 135) rfl) rfl), inP3 (List.mem_of_getElem? (i := 14) rfl)⟩
theorem oX1_init : MOK mX1_init 0 := ⟨(inT1 (List.mem_of_getElem? (i := 138) rfl) rfl), iniX1, nmhX1, by decide +kernel, by decide⟩
theorem jX1_init : Cond.instanceMethod mX1_init.1 ∈ gT := (inT1 (List.mem_of_getElem? (i := 137) rfl) rfl)
theorem oX1_build : MOK mX1_build 2 := ⟨(inT6 (List.mem_of_getElem? (i := 8) rfl) rfl), iniX1, nmhX1, by decide +kernel, by decide⟩
theorem jX1_build : IOK mX1_build := ⟨(inT6 (List.mem_of_getElem? (i := 6) rfl) rfl), (inT6 (List.mem_of_getElem? (i := 7) rfl) rfl)⟩
theorem oX1_refusal : MOK mX1_refusal 1 := ⟨(inT6 (List.mem_of_getElem? (i := 17) rfl) rfl), iniX1, nmhX1, by decide +kernel, by decide⟩
theorem jX1_refusal : IOK mX1_refusal := ⟨(inT6 (List.mem_of_getElem? (i := 15) rfl) rfl), (inT6 (List.mem_of_getElem? (i := 16) rfl) rfl)⟩
theorem oX2_init : MOK mX2_init 0 := ⟨(inT1 (List.mem_of_getElem? (i := 167) rfl) rfl), iniX2, nmhX2, by decide +kernel, by decide⟩
theorem jX2_init : Cond.instanceMethod mX2_init.1 ∈ gT := (inT1 (List.mem_of_getElem? (i := 166) rfl) rfl)
theorem oX2_add : MOK mX2_add 1 := ⟨(inT3 (List.mem_of_getElem? (i := 214) rfl) rfl), iniX2, nmhX2, by decide +kernel, by decide⟩
theorem jX2_add : IOK mX2_add := ⟨(inT3 (List.mem_of_getElem? (i := 212) rfl) rfl), (inT3 (List.mem_of_getElem? (i := 213) rfl) rfl)⟩
theorem oX2_tell : MOK mX2_tell 4 := ⟨(inT4 (List.mem_of_getElem? (i := 59) rfl) rfl), iniX2, nmhX2, by decide +kernel, by decide⟩
theorem jX2_tell : IOK mX2_tell := ⟨(inT4 (List.mem_of_getElem? (i := 57) rfl) rfl), (inT4 (List.mem_of_getElem? (i := 58) rfl) rfl)⟩
theorem oX2_work : MOK mX2_work 2 := ⟨(inT4 (List.mem_of_getElem? (i := 63) rfl) rfl), iniX2, nmhX2, by decide +kernel, by decide⟩
theorem jX2_work : IOK mX2_work := ⟨(inT4 (List.mem_of_getElem? (i := 62) rfl) rfl), inP2 (List.mem_of_getElem? (i := 11) rfl)⟩
theorem oX2_within : MOK mX2_within 3 := ⟨(inT4 (List.mem_of_getElem? (i := 74) rfl) rfl), iniX2, nmhX2, by decide +kernel, by decide⟩
theorem jX2_within : Cond.static mX2_within.1 ∈ gT := (inT4 (List.mem_of_getElem? (i := 73) rfl) rfl)
theorem oX3_init : MOK mX3_init 0 := ⟨(inT1 (List.mem_of_getElem? (i := 159) rfl) rfl), iniX3, nmhX3, by decide +kernel, by decide⟩
theorem jX3_init : Cond.instanceMethod mX3_init.1 ∈ gT := (inT1 (List.mem_of_getElem? (i := 158) rfl) rfl)
theorem oX3_clear : MOK mX3_clear 0 := ⟨(inT1 (List.mem_of_getElem? (i := 187) rfl) rfl), iniX3, nmhX3, by decide +kernel, by decide⟩
theorem jX3_clear : IOK mX3_clear := ⟨(inT1 (List.mem_of_getElem? (i := 185) rfl) rfl), (inT1 (List.mem_of_getElem? (i := 186) rfl) rfl)⟩
theorem oX3_learnWides : MOK mX3_learnWides 1 := ⟨(inT4 (List.mem_of_getElem? (i := 55) rfl) rfl), iniX3, nmhX3, by decide +kernel, by decide⟩
theorem jX3_learnWides : IOK mX3_learnWides := ⟨(inT4 (List.mem_of_getElem? (i := 53) rfl) rfl), (inT4 (List.mem_of_getElem? (i := 54) rfl) rfl)⟩
theorem oX3_learnGaps : MOK mX3_learnGaps 1 := ⟨(inT4 (List.mem_of_getElem? (i := 80) rfl) rfl), iniX3, nmhX3, by decide +kernel, by decide⟩
theorem jX3_learnGaps : IOK mX3_learnGaps := ⟨(inT4 (List.mem_of_getElem? (i := 78) rfl) rfl), (inT4 (List.mem_of_getElem? (i := 79) rfl) rfl)⟩
theorem oX3_wideOf : MOK mX3_wideOf 2 := ⟨(inT4 (List.mem_of_getElem? (i := 143) rfl) rfl), iniX3, nmhX3, by decide +kernel, by decide⟩
theorem jX3_wideOf : IOK mX3_wideOf := ⟨(inT4 (List.mem_of_getElem? (i := 141) rfl) rfl), (inT4 (List.mem_of_getElem? (i := 142) rfl) rfl)⟩
theorem oX3_gapOf : MOK mX3_gapOf 3 := ⟨(inT4 (List.mem_of_getElem? (i := 113) rfl) rfl), iniX3, nmhX3, by decide +kernel, by decide⟩
theorem jX3_gapOf : IOK mX3_gapOf := ⟨(inT4 (List.mem_of_getElem? (i := 111) rfl) rfl), (inT4 (List.mem_of_getElem? (i := 112) rfl) rfl)⟩
theorem oX3_inksBy : MOK mX3_inksBy 2 := ⟨(inT5 (List.mem_of_getElem? (i := 199) rfl) rfl), iniX3, nmhX3, by decide +kernel, by decide⟩
theorem jX3_inksBy : IOK mX3_inksBy := ⟨(inT5 (List.mem_of_getElem? (i := 197) rfl) rfl), (inT5 (List.mem_of_getElem? (i := 198) rfl) rfl)⟩
theorem oX3_mostAlike : MOK mX3_mostAlike 2 := ⟨(inT5 (List.mem_of_getElem? (i := 208) rfl) rfl), iniX3, nmhX3, by decide +kernel, by decide⟩
theorem jX3_mostAlike : IOK mX3_mostAlike := ⟨(inT5 (List.mem_of_getElem? (i := 206) rfl) rfl), (inT5 (List.mem_of_getElem? (i := 207) rfl) rfl)⟩
theorem oX3_reach : MOK mX3_reach 3 := ⟨(inT4 (List.mem_of_getElem? (i := 101) rfl) rfl), iniX3, nmhX3, by decide +kernel, by decide⟩
theorem jX3_reach : IOK mX3_reach := ⟨(inT4 (List.mem_of_getElem? (i := 99) rfl) rfl), (inT4 (List.mem_of_getElem? (i := 100) rfl) rfl)⟩
theorem oX3_rootUp : MOK mX3_rootUp 1 := ⟨(inT4 (List.mem_of_getElem? (i := 104) rfl) rfl), iniX3, nmhX3, by decide +kernel, by decide⟩
theorem jX3_rootUp : Cond.static mX3_rootUp.1 ∈ gT := (inT4 (List.mem_of_getElem? (i := 103) rfl) rfl)
theorem oX4_init : MOK mX4_init 0 := ⟨(inT1 (List.mem_of_getElem? (i := 75) rfl) rfl), iniX4, nmhX4, by decide +kernel, by decide⟩
theorem jX4_init : Cond.instanceMethod mX4_init.1 ∈ gT := (inT1 (List.mem_of_getElem? (i := 74) rfl) rfl)
theorem oX4_forget : MOK mX4_forget 0 := ⟨(inT4 (List.mem_of_getElem? (i := 23) rfl) rfl), iniX4, nmhX4, by decide +kernel, by decide⟩
theorem jX4_forget : IOK mX4_forget := ⟨(inT4 (List.mem_of_getElem? (i := 21) rfl) rfl), (inT4 (List.mem_of_getElem? (i := 22) rfl) rfl)⟩
theorem oX4_push : MOK mX4_push 1 := ⟨(inT4 (List.mem_of_getElem? (i := 227) rfl) rfl), iniX4, nmhX4, by decide +kernel, by decide⟩
theorem jX4_push : IOK mX4_push := ⟨(inT4 (List.mem_of_getElem? (i := 225) rfl) rfl), (inT4 (List.mem_of_getElem? (i := 226) rfl) rfl)⟩
theorem oX4_bringBack : MOK mX4_bringBack 2 := ⟨(inT5 (List.mem_of_getElem? (i := 21) rfl) rfl), iniX4, nmhX4, by decide +kernel, by decide⟩
theorem jX4_bringBack : IOK mX4_bringBack := ⟨(inT5 (List.mem_of_getElem? (i := 19) rfl) rfl), (inT5 (List.mem_of_getElem? (i := 20) rfl) rfl)⟩
theorem oX5_init : MOK mX5_init 2 := ⟨(inT2 (List.mem_of_getElem? (i := 47) rfl) rfl), iniX5, nmhX5, by decide +kernel, by decide⟩
theorem jX5_init : Cond.instanceMethod mX5_init.1 ∈ gT := (inT2 (List.mem_of_getElem? (i := 46) rfl) rfl)
theorem oX5_read : MOK mX5_read 2 := ⟨(inT3 (List.mem_of_getElem? (i := 24) rfl) rfl), iniX5, nmhX5, by decide +kernel, by decide⟩
theorem jX5_read : IOK mX5_read := ⟨(inT3 (List.mem_of_getElem? (i := 22) rfl) rfl), (inT3 (List.mem_of_getElem? (i := 23) rfl) rfl)⟩
theorem oX5_fail : MOK mX5_fail 1 := ⟨(inT3 (List.mem_of_getElem? (i := 39) rfl) rfl), iniX5, nmhX5, by decide +kernel, by decide⟩
theorem jX5_fail : IOK mX5_fail := ⟨(inT3 (List.mem_of_getElem? (i := 38) rfl) rfl), inP1 (List.mem_of_getElem? (i := 3) rfl)⟩
theorem oX5_isLetter : MOK mX5_isLetter 1 := ⟨(inT3 (List.mem_of_getElem? (i := 32) rfl) rfl), iniX5, nmhX5, by decide +kernel, by decide⟩
theorem jX5_isLetter : Cond.static mX5_isLetter.1 ∈ gT := (inT3 (List.mem_of_getElem? (i := 31) rfl) rfl)
theorem oX5_isDigit : MOK mX5_isDigit 1 := ⟨(inT3 (List.mem_of_getElem? (i := 35) rfl) rfl), iniX5, nmhX5, by decide +kernel, by decide⟩
theorem jX5_isDigit : Cond.static mX5_isDigit.1 ∈ gT := (inT3 (List.mem_of_getElem? (i := 34) rfl) rfl)
theorem oX5_next : MOK mX5_next 0 := ⟨(inT3 (List.mem_of_getElem? (i := 29) rfl) rfl), iniX5, nmhX5, by decide +kernel, by decide⟩
theorem jX5_next : IOK mX5_next := ⟨(inT3 (List.mem_of_getElem? (i := 28) rfl) rfl), inP1 (List.mem_of_getElem? (i := 2) rfl)⟩
theorem oX5_isWord : MOK mX5_isWord 1 := ⟨(inT3 (List.mem_of_getElem? (i := 139) rfl) rfl), iniX5, nmhX5, by decide +kernel, by decide⟩
theorem jX5_isWord : IOK mX5_isWord := ⟨(inT3 (List.mem_of_getElem? (i := 138) rfl) rfl), inP1 (List.mem_of_getElem? (i := 6) rfl)⟩
theorem oX5_sign : MOK mX5_sign 1 := ⟨(inT3 (List.mem_of_getElem? (i := 173) rfl) rfl), iniX5, nmhX5, by decide +kernel, by decide⟩
theorem jX5_sign : IOK mX5_sign := ⟨(inT3 (List.mem_of_getElem? (i := 172) rfl) rfl), inP1 (List.mem_of_getElem? (i := 8) rfl)⟩
theorem oX5_name : MOK mX5_name 1 := ⟨(inT3 (List.mem_of_getElem? (i := 135) rfl) rfl), iniX5, nmhX5, by decide +kernel, by decide⟩
theorem jX5_name : IOK mX5_name := ⟨(inT3 (List.mem_of_getElem? (i := 134) rfl) rfl), inP1 (List.mem_of_getElem? (i := 5) rfl)⟩
theorem oX5_number : MOK mX5_number 2 := ⟨(inT3 (List.mem_of_getElem? (i := 165) rfl) rfl), iniX5, nmhX5, by decide +kernel, by decide⟩
theorem jX5_number : IOK mX5_number := ⟨(inT3 (List.mem_of_getElem? (i := 164) rfl) rfl), inP1 (List.mem_of_getElem? (i := 7) rfl)⟩
theorem oX5_head : MOK mX5_head 0 := ⟨(inT3 (List.mem_of_getElem? (i := 130) rfl) rfl), iniX5, nmhX5, by decide +kernel, by decide⟩
theorem jX5_head : IOK mX5_head := ⟨(inT3 (List.mem_of_getElem? (i := 129) rfl) rfl), inP1 (List.mem_of_getElem? (i := 4) rfl)⟩
theorem oX5_line : MOK mX5_line 0 := ⟨(inT3 (List.mem_of_getElem? (i := 177) rfl) rfl), iniX5, nmhX5, by decide +kernel, by decide⟩
theorem jX5_line : IOK mX5_line := ⟨(inT3 (List.mem_of_getElem? (i := 176) rfl) rfl), inP1 (List.mem_of_getElem? (i := 9) rfl)⟩
theorem oX5_outline : MOK mX5_outline 1 := ⟨(inT3 (List.mem_of_getElem? (i := 182) rfl) rfl), iniX5, nmhX5, by decide +kernel, by decide⟩
theorem jX5_outline : IOK mX5_outline := ⟨(inT3 (List.mem_of_getElem? (i := 181) rfl) rfl), inP1 (List.mem_of_getElem? (i := 10) rfl)⟩
theorem oX5_tieLine : MOK mX5_tieLine 0 := ⟨(inT3 (List.mem_of_getElem? (i := 189) rfl) rfl), iniX5, nmhX5, by decide +kernel, by decide⟩
theorem jX5_tieLine : IOK mX5_tieLine := ⟨(inT3 (List.mem_of_getElem? (i := 188) rfl) rfl), inP1 (List.mem_of_getElem? (i := 11) rfl)⟩
theorem oX5_wordsLine : MOK mX5_wordsLine 0 := ⟨(inT3 (List.mem_of_getElem? (i := 194) rfl) rfl), iniX5, nmhX5, by decide +kernel, by decide⟩
theorem jX5_wordsLine : IOK mX5_wordsLine := ⟨(inT3 (List.mem_of_getElem? (i := 193) rfl) rfl), inP1 (List.mem_of_getElem? (i := 12) rfl)⟩
theorem oX5_lawLine : MOK mX5_lawLine 1 := ⟨(inT3 (List.mem_of_getElem? (i := 198) rfl) rfl), iniX5, nmhX5, by decide +kernel, by decide⟩
theorem jX5_lawLine : IOK mX5_lawLine := ⟨(inT3 (List.mem_of_getElem? (i := 197) rfl) rfl), inP1 (List.mem_of_getElem? (i := 13) rfl)⟩
theorem oX5_sum : MOK mX5_sum 1 := ⟨(inT3 (List.mem_of_getElem? (i := 202) rfl) rfl), iniX5, nmhX5, by decide +kernel, by decide⟩
theorem jX5_sum : IOK mX5_sum := ⟨(inT3 (List.mem_of_getElem? (i := 201) rfl) rfl), inP1 (List.mem_of_getElem? (i := 14) rfl)⟩
theorem oX5_term : MOK mX5_term 1 := ⟨(inT3 (List.mem_of_getElem? (i := 206) rfl) rfl), iniX5, nmhX5, by decide +kernel, by decide⟩
theorem jX5_term : IOK mX5_term := ⟨(inT3 (List.mem_of_getElem? (i := 205) rfl) rfl), inP1 (List.mem_of_getElem? (i := 15) rfl)⟩
theorem oX5_atom : MOK mX5_atom 1 := ⟨(inT3 (List.mem_of_getElem? (i := 210) rfl) rfl), iniX5, nmhX5, by decide +kernel, by decide⟩
theorem jX5_atom : IOK mX5_atom := ⟨(inT3 (List.mem_of_getElem? (i := 209) rfl) rfl), inP2 (List.mem_of_getElem? (i := 0) rfl)⟩
theorem oX5_goesIn : MOK mX5_goesIn 1 := ⟨(inT3 (List.mem_of_getElem? (i := 218) rfl) rfl), iniX5, nmhX5, by decide +kernel, by decide⟩
theorem jX5_goesIn : IOK mX5_goesIn := ⟨(inT3 (List.mem_of_getElem? (i := 217) rfl) rfl), inP2 (List.mem_of_getElem? (i := 1) rfl)⟩
theorem oX5_choice : MOK mX5_choice 1 := ⟨(inT3 (List.mem_of_getElem? (i := 223) rfl) rfl), iniX5, nmhX5, by decide +kernel, by decide⟩
theorem jX5_choice : IOK mX5_choice := ⟨(inT3 (List.mem_of_getElem? (i := 222) rfl) rfl), inP2 (List.mem_of_getElem? (i := 2) rfl)⟩
theorem oX5_about : MOK mX5_about 0 := ⟨(inT4 (List.mem_of_getElem? (i := 5) rfl) rfl), iniX5, nmhX5, by decide +kernel, by decide⟩
theorem jX5_about : IOK mX5_about := ⟨(inT4 (List.mem_of_getElem? (i := 4) rfl) rfl), inP2 (List.mem_of_getElem? (i := 6) rfl)⟩
theorem oX5_truth : MOK mX5_truth 1 := ⟨(inT3 (List.mem_of_getElem? (i := 227) rfl) rfl), iniX5, nmhX5, by decide +kernel, by decide⟩
theorem jX5_truth : IOK mX5_truth := ⟨(inT3 (List.mem_of_getElem? (i := 226) rfl) rfl), inP2 (List.mem_of_getElem? (i := 3) rfl)⟩
theorem oX5_both : MOK mX5_both 1 := ⟨(inT3 (List.mem_of_getElem? (i := 231) rfl) rfl), iniX5, nmhX5, by decide +kernel, by decide⟩
theorem jX5_both : IOK mX5_both := ⟨(inT3 (List.mem_of_getElem? (i := 230) rfl) rfl), inP2 (List.mem_of_getElem? (i := 4) rfl)⟩
theorem oX5_unit : MOK mX5_unit 1 := ⟨(inT3 (List.mem_of_getElem? (i := 235) rfl) rfl), iniX5, nmhX5, by decide +kernel, by decide⟩
theorem jX5_unit : IOK mX5_unit := ⟨(inT3 (List.mem_of_getElem? (i := 234) rfl) rfl), inP2 (List.mem_of_getElem? (i := 5) rfl)⟩
theorem oX6_init : MOK mX6_init 2 := ⟨(inT2 (List.mem_of_getElem? (i := 86) rfl) rfl), iniX6, nmhX6, by decide +kernel, by decide⟩
theorem jX6_init : Cond.instanceMethod mX6_init.1 ∈ gT := (inT2 (List.mem_of_getElem? (i := 85) rfl) rfl)
theorem oX6_settle : MOK mX6_settle 4 := ⟨(inT4 (List.mem_of_getElem? (i := 51) rfl) rfl), iniX6, nmhX6, by decide +kernel, by decide⟩
theorem jX6_settle : IOK mX6_settle := ⟨(inT4 (List.mem_of_getElem? (i := 49) rfl) rfl), (inT4 (List.mem_of_getElem? (i := 50) rfl) rfl)⟩
theorem oX6_cutRest : MOK mX6_cutRest 0 := ⟨(inT4 (List.mem_of_getElem? (i := 167) rfl) rfl), iniX6, nmhX6, by decide +kernel, by decide⟩
theorem jX6_cutRest : IOK mX6_cutRest := ⟨(inT4 (List.mem_of_getElem? (i := 165) rfl) rfl), (inT4 (List.mem_of_getElem? (i := 166) rfl) rfl)⟩
theorem oX6_setFreeShapes : MOK mX6_setFreeShapes 1 := ⟨(inT4 (List.mem_of_getElem? (i := 84) rfl) rfl), iniX6, nmhX6, by decide +kernel, by decide⟩
theorem jX6_setFreeShapes : IOK mX6_setFreeShapes := ⟨(inT4 (List.mem_of_getElem? (i := 83) rfl) rfl), inP2 (List.mem_of_getElem? (i := 12) rfl)⟩
theorem oX6_setTiedShapes : MOK mX6_setTiedShapes 0 := ⟨(inT4 (List.mem_of_getElem? (i := 155) rfl) rfl), iniX6, nmhX6, by decide +kernel, by decide⟩
theorem jX6_setTiedShapes : IOK mX6_setTiedShapes := ⟨(inT4 (List.mem_of_getElem? (i := 154) rfl) rfl), inP3 (List.mem_of_getElem? (i := 2) rfl)⟩
theorem oX6_mark : MOK mX6_mark 0 := ⟨(inT4 (List.mem_of_getElem? (i := 147) rfl) rfl), iniX6, nmhX6, by decide +kernel, by decide⟩
theorem jX6_mark : IOK mX6_mark := ⟨(inT4 (List.mem_of_getElem? (i := 146) rfl) rfl), inP3 (List.mem_of_getElem? (i := 1) rfl)⟩
theorem oX6_weigh : MOK mX6_weigh 0 := ⟨(inT4 (List.mem_of_getElem? (i := 159) rfl) rfl), iniX6, nmhX6, by decide +kernel, by decide⟩
theorem jX6_weigh : IOK mX6_weigh := ⟨(inT4 (List.mem_of_getElem? (i := 158) rfl) rfl), inP3 (List.mem_of_getElem? (i := 3) rfl)⟩
theorem oX6_isAsIn : MOK mX6_isAsIn 1 := ⟨(inT4 (List.mem_of_getElem? (i := 163) rfl) rfl), iniX6, nmhX6, by decide +kernel, by decide⟩
theorem jX6_isAsIn : IOK mX6_isAsIn := ⟨(inT4 (List.mem_of_getElem? (i := 162) rfl) rfl), inP3 (List.mem_of_getElem? (i := 4) rfl)⟩
theorem oX6_pour : MOK mX6_pour 0 := ⟨(inT4 (List.mem_of_getElem? (i := 88) rfl) rfl), iniX6, nmhX6, by decide +kernel, by decide⟩
theorem jX6_pour : IOK mX6_pour := ⟨(inT4 (List.mem_of_getElem? (i := 87) rfl) rfl), inP2 (List.mem_of_getElem? (i := 13) rfl)⟩
theorem oX6_fill : MOK mX6_fill 2 := ⟨(inT4 (List.mem_of_getElem? (i := 135) rfl) rfl), iniX6, nmhX6, by decide +kernel, by decide⟩
theorem jX6_fill : IOK mX6_fill := ⟨(inT4 (List.mem_of_getElem? (i := 134) rfl) rfl), inP3 (List.mem_of_getElem? (i := 0) rfl)⟩
theorem oX6_cut : MOK mX6_cut 1 := ⟨(inT4 (List.mem_of_getElem? (i := 97) rfl) rfl), iniX6, nmhX6, by decide +kernel, by decide⟩
theorem jX6_cut : IOK mX6_cut := ⟨(inT4 (List.mem_of_getElem? (i := 96) rfl) rfl), inP2 (List.mem_of_getElem? (i := 14) rfl)⟩
theorem oX6_spanLeft : MOK mX6_spanLeft 3 := ⟨(inT4 (List.mem_of_getElem? (i := 109) rfl) rfl), iniX6, nmhX6, by decide +kernel, by decide⟩
theorem jX6_spanLeft : IOK mX6_spanLeft := ⟨(inT4 (List.mem_of_getElem? (i := 107) rfl) rfl), (inT4 (List.mem_of_getElem? (i := 108) rfl) rfl)⟩
theorem oX6_spanRight : MOK mX6_spanRight 3 := ⟨(inT4 (List.mem_of_getElem? (i := 117) rfl) rfl), iniX6, nmhX6, by decide +kernel, by decide⟩
theorem jX6_spanRight : IOK mX6_spanRight := ⟨(inT4 (List.mem_of_getElem? (i := 115) rfl) rfl), (inT4 (List.mem_of_getElem? (i := 116) rfl) rfl)⟩
theorem oX6_lineOf : MOK mX6_lineOf 1 := ⟨(inT4 (List.mem_of_getElem? (i := 151) rfl) rfl), iniX6, nmhX6, by decide +kernel, by decide⟩
theorem jX6_lineOf : IOK mX6_lineOf := ⟨(inT4 (List.mem_of_getElem? (i := 149) rfl) rfl), (inT4 (List.mem_of_getElem? (i := 150) rfl) rfl)⟩
theorem oX6_lastLine : MOK mX6_lastLine 0 := ⟨(inT5 (List.mem_of_getElem? (i := 58) rfl) rfl), iniX6, nmhX6, by decide +kernel, by decide⟩
theorem jX6_lastLine : IOK mX6_lastLine := ⟨(inT5 (List.mem_of_getElem? (i := 56) rfl) rfl), (inT5 (List.mem_of_getElem? (i := 57) rfl) rfl)⟩
theorem oX6_isBetter : MOK mX6_isBetter 2 := ⟨(inT5 (List.mem_of_getElem? (i := 177) rfl) rfl), iniX6, nmhX6, by decide +kernel, by decide⟩
theorem jX6_isBetter : IOK mX6_isBetter := ⟨(inT5 (List.mem_of_getElem? (i := 175) rfl) rfl), (inT5 (List.mem_of_getElem? (i := 176) rfl) rfl)⟩
theorem oX6_raggedness : MOK mX6_raggedness 0 := ⟨(inT5 (List.mem_of_getElem? (i := 106) rfl) rfl), iniX6, nmhX6, by decide +kernel, by decide⟩
theorem jX6_raggedness : IOK mX6_raggedness := ⟨(inT5 (List.mem_of_getElem? (i := 104) rfl) rfl), (inT5 (List.mem_of_getElem? (i := 105) rfl) rfl)⟩
theorem oX6_clashing : MOK mX6_clashing 0 := ⟨(inT5 (List.mem_of_getElem? (i := 159) rfl) rfl), iniX6, nmhX6, by decide +kernel, by decide⟩
theorem jX6_clashing : IOK mX6_clashing := ⟨(inT5 (List.mem_of_getElem? (i := 157) rfl) rfl), (inT5 (List.mem_of_getElem? (i := 158) rfl) rfl)⟩
theorem oX6_placedWides : MOK mX6_placedWides 1 := ⟨(inT5 (List.mem_of_getElem? (i := 122) rfl) rfl), iniX6, nmhX6, by decide +kernel, by decide⟩
theorem jX6_placedWides : IOK mX6_placedWides := ⟨(inT5 (List.mem_of_getElem? (i := 120) rfl) rfl), (inT5 (List.mem_of_getElem? (i := 121) rfl) rfl)⟩
theorem oX7_init : MOK mX7_init 0 := ⟨(inT2 (List.mem_of_getElem? (i := 92) rfl) rfl), iniX7, nmhX7, by decide +kernel, by decide⟩
theorem jX7_init : Cond.instanceMethod mX7_init.1 ∈ gT := (inT2 (List.mem_of_getElem? (i := 91) rfl) rfl)
theorem oX7_clear : MOK mX7_clear 0 := ⟨(inT4 (List.mem_of_getElem? (i := 93) rfl) rfl), iniX7, nmhX7, by decide +kernel, by decide⟩
theorem jX7_clear : IOK mX7_clear := ⟨(inT4 (List.mem_of_getElem? (i := 91) rfl) rfl), (inT4 (List.mem_of_getElem? (i := 92) rfl) rfl)⟩
theorem oX7_addSpan : MOK mX7_addSpan 2 := ⟨(inT4 (List.mem_of_getElem? (i := 121) rfl) rfl), iniX7, nmhX7, by decide +kernel, by decide⟩
theorem jX7_addSpan : IOK mX7_addSpan := ⟨(inT4 (List.mem_of_getElem? (i := 119) rfl) rfl), (inT4 (List.mem_of_getElem? (i := 120) rfl) rfl)⟩
theorem oX7_cutLine : MOK mX7_cutLine 2 := ⟨(inT4 (List.mem_of_getElem? (i := 125) rfl) rfl), iniX7, nmhX7, by decide +kernel, by decide⟩
theorem jX7_cutLine : IOK mX7_cutLine := ⟨(inT4 (List.mem_of_getElem? (i := 123) rfl) rfl), (inT4 (List.mem_of_getElem? (i := 124) rfl) rfl)⟩
theorem oX7_addSlot : MOK mX7_addSlot 3 := ⟨(inT4 (List.mem_of_getElem? (i := 130) rfl) rfl), iniX7, nmhX7, by decide +kernel, by decide⟩
theorem jX7_addSlot : IOK mX7_addSlot := ⟨(inT4 (List.mem_of_getElem? (i := 129) rfl) rfl), inP2 (List.mem_of_getElem? (i := 15) rfl)⟩
theorem oX7_inOne : MOK mX7_inOne 1 := ⟨(inT4 (List.mem_of_getElem? (i := 203) rfl) rfl), iniX7, nmhX7, by decide +kernel, by decide⟩
theorem jX7_inOne : IOK mX7_inOne := ⟨(inT4 (List.mem_of_getElem? (i := 201) rfl) rfl), (inT4 (List.mem_of_getElem? (i := 202) rfl) rfl)⟩
theorem oX7_leftOver : MOK mX7_leftOver 3 := ⟨(inT5 (List.mem_of_getElem? (i := 110) rfl) rfl), iniX7, nmhX7, by decide +kernel, by decide⟩
theorem jX7_leftOver : IOK mX7_leftOver := ⟨(inT5 (List.mem_of_getElem? (i := 108) rfl) rfl), (inT5 (List.mem_of_getElem? (i := 109) rfl) rfl)⟩
theorem oX8_init : MOK mX8_init 0 := ⟨(inT1 (List.mem_of_getElem? (i := 35) rfl) rfl), iniX8, nmhX8, by decide +kernel, by decide⟩
theorem jX8_init : Cond.instanceMethod mX8_init.1 ∈ gT := (inT1 (List.mem_of_getElem? (i := 34) rfl) rfl)
theorem oX8_clear : MOK mX8_clear 0 := ⟨(inT1 (List.mem_of_getElem? (i := 191) rfl) rfl), iniX8, nmhX8, by decide +kernel, by decide⟩
theorem jX8_clear : IOK mX8_clear := ⟨(inT1 (List.mem_of_getElem? (i := 189) rfl) rfl), (inT1 (List.mem_of_getElem? (i := 190) rfl) rfl)⟩
theorem oX8_copyFrom : MOK mX8_copyFrom 1 := ⟨(inT4 (List.mem_of_getElem? (i := 19) rfl) rfl), iniX8, nmhX8, by decide +kernel, by decide⟩
theorem jX8_copyFrom : IOK mX8_copyFrom := ⟨(inT4 (List.mem_of_getElem? (i := 17) rfl) rfl), (inT4 (List.mem_of_getElem? (i := 18) rfl) rfl)⟩
theorem oX8_hides : MOK mX8_hides 1 := ⟨(inT4 (List.mem_of_getElem? (i := 139) rfl) rfl), iniX8, nmhX8, by decide +kernel, by decide⟩
theorem jX8_hides : IOK mX8_hides := ⟨(inT4 (List.mem_of_getElem? (i := 137) rfl) rfl), (inT4 (List.mem_of_getElem? (i := 138) rfl) rfl)⟩
theorem oX8_tiedShapes : MOK mX8_tiedShapes 0 := ⟨(inT6 (List.mem_of_getElem? (i := 59) rfl) rfl), iniX8, nmhX8, by decide +kernel, by decide⟩
theorem jX8_tiedShapes : IOK mX8_tiedShapes := ⟨(inT6 (List.mem_of_getElem? (i := 57) rfl) rfl), (inT6 (List.mem_of_getElem? (i := 58) rfl) rfl)⟩
theorem oX8_shift : MOK mX8_shift 4 := ⟨(inT4 (List.mem_of_getElem? (i := 219) rfl) rfl), iniX8, nmhX8, by decide +kernel, by decide⟩
theorem jX8_shift : IOK mX8_shift := ⟨(inT4 (List.mem_of_getElem? (i := 217) rfl) rfl), (inT4 (List.mem_of_getElem? (i := 218) rfl) rfl)⟩
theorem oX8_bind : MOK mX8_bind 3 := ⟨(inT4 (List.mem_of_getElem? (i := 237) rfl) rfl), iniX8, nmhX8, by decide +kernel, by decide⟩
theorem jX8_bind : IOK mX8_bind := ⟨(inT4 (List.mem_of_getElem? (i := 235) rfl) rfl), (inT4 (List.mem_of_getElem? (i := 236) rfl) rfl)⟩
theorem oX8_flip : MOK mX8_flip 2 := ⟨(inT5 (List.mem_of_getElem? (i := 5) rfl) rfl), iniX8, nmhX8, by decide +kernel, by decide⟩
theorem jX8_flip : IOK mX8_flip := ⟨(inT5 (List.mem_of_getElem? (i := 3) rfl) rfl), (inT5 (List.mem_of_getElem? (i := 4) rfl) rfl)⟩
theorem oX8_dye : MOK mX8_dye 1 := ⟨(inT5 (List.mem_of_getElem? (i := 13) rfl) rfl), iniX8, nmhX8, by decide +kernel, by decide⟩
theorem jX8_dye : IOK mX8_dye := ⟨(inT5 (List.mem_of_getElem? (i := 11) rfl) rfl), (inT5 (List.mem_of_getElem? (i := 12) rfl) rfl)⟩
theorem oX8_deed : MOK mX8_deed 2 := ⟨(inT5 (List.mem_of_getElem? (i := 44) rfl) rfl), iniX8, nmhX8, by decide +kernel, by decide⟩
theorem jX8_deed : IOK mX8_deed := ⟨(inT5 (List.mem_of_getElem? (i := 42) rfl) rfl), (inT5 (List.mem_of_getElem? (i := 43) rfl) rfl)⟩
theorem oX9_init : MOK mX9_init 0 := ⟨(inT1 (List.mem_of_getElem? (i := 120) rfl) rfl), iniX9, nmhX9, by decide +kernel, by decide⟩
theorem jX9_init : Cond.instanceMethod mX9_init.1 ∈ gT := (inT1 (List.mem_of_getElem? (i := 119) rfl) rfl)
theorem oX9_isTray : MOK mX9_isTray 1 := ⟨(inT5 (List.mem_of_getElem? (i := 32) rfl) rfl), iniX9, nmhX9, by decide +kernel, by decide⟩
theorem jX9_isTray : IOK mX9_isTray := ⟨(inT5 (List.mem_of_getElem? (i := 30) rfl) rfl), (inT5 (List.mem_of_getElem? (i := 31) rfl) rfl)⟩
theorem oX9_refusal : MOK mX9_refusal 1 := ⟨(inT5 (List.mem_of_getElem? (i := 67) rfl) rfl), iniX9, nmhX9, by decide +kernel, by decide⟩
theorem jX9_refusal : IOK mX9_refusal := ⟨(inT5 (List.mem_of_getElem? (i := 65) rfl) rfl), (inT5 (List.mem_of_getElem? (i := 66) rfl) rfl)⟩
theorem oX9_build : MOK mX9_build 3 := ⟨(inT6 (List.mem_of_getElem? (i := 29) rfl) rfl), iniX9, nmhX9, by decide +kernel, by decide⟩
theorem jX9_build : IOK mX9_build := ⟨(inT6 (List.mem_of_getElem? (i := 27) rfl) rfl), (inT6 (List.mem_of_getElem? (i := 28) rfl) rfl)⟩
theorem oX9_get : MOK mX9_get 2 := ⟨(inT5 (List.mem_of_getElem? (i := 40) rfl) rfl), iniX9, nmhX9, by decide +kernel, by decide⟩
theorem jX9_get : IOK mX9_get := ⟨(inT5 (List.mem_of_getElem? (i := 38) rfl) rfl), (inT5 (List.mem_of_getElem? (i := 39) rfl) rfl)⟩
theorem oX9_put : MOK mX9_put 3 := ⟨(inT6 (List.mem_of_getElem? (i := 38) rfl) rfl), iniX9, nmhX9, by decide +kernel, by decide⟩
theorem jX9_put : IOK mX9_put := ⟨(inT6 (List.mem_of_getElem? (i := 36) rfl) rfl), (inT6 (List.mem_of_getElem? (i := 37) rfl) rfl)⟩
theorem oX10_init : MOK mX10_init 0 := ⟨(inT1 (List.mem_of_getElem? (i := 25) rfl) rfl), iniX10, nmhX10, by decide +kernel, by decide⟩
theorem jX10_init : Cond.instanceMethod mX10_init.1 ∈ gT := (inT1 (List.mem_of_getElem? (i := 24) rfl) rfl)
theorem oX10_feed : MOK mX10_feed 5 := ⟨(inT3 (List.mem_of_getElem? (i := 8) rfl) rfl), iniX10, nmhX10, by decide +kernel, by decide⟩
theorem jX10_feed : IOK mX10_feed := ⟨(inT3 (List.mem_of_getElem? (i := 6) rfl) rfl), (inT3 (List.mem_of_getElem? (i := 7) rfl) rfl)⟩
theorem oX10_page : MOK mX10_page 1 := ⟨(inT3 (List.mem_of_getElem? (i := 16) rfl) rfl), iniX10, nmhX10, by decide +kernel, by decide⟩
theorem jX10_page : IOK mX10_page := ⟨(inT3 (List.mem_of_getElem? (i := 14) rfl) rfl), (inT3 (List.mem_of_getElem? (i := 15) rfl) rfl)⟩
theorem oX10_fault : MOK mX10_fault 1 := ⟨(inT4 (List.mem_of_getElem? (i := 27) rfl) rfl), iniX10, nmhX10, by decide +kernel, by decide⟩
theorem jX10_fault : IOK mX10_fault := ⟨(inT4 (List.mem_of_getElem? (i := 25) rfl) rfl), (inT4 (List.mem_of_getElem? (i := 26) rfl) rfl)⟩
theorem oX10_set : MOK mX10_set 1 := ⟨(inT4 (List.mem_of_getElem? (i := 31) rfl) rfl), iniX10, nmhX10, by decide +kernel, by decide⟩
theorem jX10_set : IOK mX10_set := ⟨(inT4 (List.mem_of_getElem? (i := 29) rfl) rfl), (inT4 (List.mem_of_getElem? (i := 30) rfl) rfl)⟩
theorem oX10_shape : MOK mX10_shape 2 := ⟨(inT4 (List.mem_of_getElem? (i := 39) rfl) rfl), iniX10, nmhX10, by decide +kernel, by decide⟩
theorem jX10_shape : IOK mX10_shape := ⟨(inT4 (List.mem_of_getElem? (i := 37) rfl) rfl), (inT4 (List.mem_of_getElem? (i := 38) rfl) rfl)⟩
theorem oX10_word : MOK mX10_word 2 := ⟨(inT4 (List.mem_of_getElem? (i := 171) rfl) rfl), iniX10, nmhX10, by decide +kernel, by decide⟩
theorem jX10_word : IOK mX10_word := ⟨(inT4 (List.mem_of_getElem? (i := 169) rfl) rfl), (inT4 (List.mem_of_getElem? (i := 170) rfl) rfl)⟩
theorem oX10_span : MOK mX10_span 3 := ⟨(inT4 (List.mem_of_getElem? (i := 186) rfl) rfl), iniX10, nmhX10, by decide +kernel, by decide⟩
theorem jX10_span : IOK mX10_span := ⟨(inT4 (List.mem_of_getElem? (i := 184) rfl) rfl), (inT4 (List.mem_of_getElem? (i := 185) rfl) rfl)⟩
theorem oX10_slots : MOK mX10_slots 1 := ⟨(inT4 (List.mem_of_getElem? (i := 199) rfl) rfl), iniX10, nmhX10, by decide +kernel, by decide⟩
theorem jX10_slots : IOK mX10_slots := ⟨(inT4 (List.mem_of_getElem? (i := 197) rfl) rfl), (inT4 (List.mem_of_getElem? (i := 198) rfl) rfl)⟩
theorem oX10_slot : MOK mX10_slot 3 := ⟨(inT4 (List.mem_of_getElem? (i := 207) rfl) rfl), iniX10, nmhX10, by decide +kernel, by decide⟩
theorem jX10_slot : IOK mX10_slot := ⟨(inT4 (List.mem_of_getElem? (i := 205) rfl) rfl), (inT4 (List.mem_of_getElem? (i := 206) rfl) rfl)⟩
theorem oX10_lies : MOK mX10_lies 2 := ⟨(inT4 (List.mem_of_getElem? (i := 211) rfl) rfl), iniX10, nmhX10, by decide +kernel, by decide⟩
theorem jX10_lies : IOK mX10_lies := ⟨(inT4 (List.mem_of_getElem? (i := 209) rfl) rfl), (inT4 (List.mem_of_getElem? (i := 210) rfl) rfl)⟩
theorem oX10_move : MOK mX10_move 3 := ⟨(inT4 (List.mem_of_getElem? (i := 215) rfl) rfl), iniX10, nmhX10, by decide +kernel, by decide⟩
theorem jX10_move : IOK mX10_move := ⟨(inT4 (List.mem_of_getElem? (i := 213) rfl) rfl), (inT4 (List.mem_of_getElem? (i := 214) rfl) rfl)⟩
theorem oX10_tie : MOK mX10_tie 2 := ⟨(inT4 (List.mem_of_getElem? (i := 233) rfl) rfl), iniX10, nmhX10, by decide +kernel, by decide⟩
theorem jX10_tie : IOK mX10_tie := ⟨(inT4 (List.mem_of_getElem? (i := 231) rfl) rfl), (inT4 (List.mem_of_getElem? (i := 232) rfl) rfl)⟩
theorem oX10_hide : MOK mX10_hide 1 := ⟨(inT5 (List.mem_of_getElem? (i := 1) rfl) rfl), iniX10, nmhX10, by decide +kernel, by decide⟩
theorem jX10_hide : IOK mX10_hide := ⟨(inT4 (List.mem_of_getElem? (i := 239) rfl) rfl), (inT5 (List.mem_of_getElem? (i := 0) rfl) rfl)⟩
theorem oX10_ink : MOK mX10_ink 1 := ⟨(inT5 (List.mem_of_getElem? (i := 9) rfl) rfl), iniX10, nmhX10, by decide +kernel, by decide⟩
theorem jX10_ink : IOK mX10_ink := ⟨(inT5 (List.mem_of_getElem? (i := 7) rfl) rfl), (inT5 (List.mem_of_getElem? (i := 8) rfl) rfl)⟩
theorem oX10_undo : MOK mX10_undo 1 := ⟨(inT5 (List.mem_of_getElem? (i := 17) rfl) rfl), iniX10, nmhX10, by decide +kernel, by decide⟩
theorem jX10_undo : IOK mX10_undo := ⟨(inT5 (List.mem_of_getElem? (i := 15) rfl) rfl), (inT5 (List.mem_of_getElem? (i := 16) rfl) rfl)⟩
theorem oX10_judge : MOK mX10_judge 2 := ⟨(inT5 (List.mem_of_getElem? (i := 28) rfl) rfl), iniX10, nmhX10, by decide +kernel, by decide⟩
theorem jX10_judge : IOK mX10_judge := ⟨(inT5 (List.mem_of_getElem? (i := 26) rfl) rfl), (inT5 (List.mem_of_getElem? (i := 27) rfl) rfl)⟩
theorem oX10_perform : MOK mX10_perform 1 := ⟨(inT5 (List.mem_of_getElem? (i := 63) rfl) rfl), iniX10, nmhX10, by decide +kernel, by decide⟩
theorem jX10_perform : IOK mX10_perform := ⟨(inT5 (List.mem_of_getElem? (i := 61) rfl) rfl), (inT5 (List.mem_of_getElem? (i := 62) rfl) rfl)⟩
theorem oX10_day : MOK mX10_day 2 := ⟨(inT5 (List.mem_of_getElem? (i := 72) rfl) rfl), iniX10, nmhX10, by decide +kernel, by decide⟩
theorem jX10_day : IOK mX10_day := ⟨(inT5 (List.mem_of_getElem? (i := 70) rfl) rfl), (inT5 (List.mem_of_getElem? (i := 71) rfl) rfl)⟩
theorem oX10_placed : MOK mX10_placed 0 := ⟨(inT5 (List.mem_of_getElem? (i := 85) rfl) rfl), iniX10, nmhX10, by decide +kernel, by decide⟩
theorem jX10_placed : IOK mX10_placed := ⟨(inT5 (List.mem_of_getElem? (i := 83) rfl) rfl), (inT5 (List.mem_of_getElem? (i := 84) rfl) rfl)⟩
theorem oX10_last : MOK mX10_last 0 := ⟨(inT5 (List.mem_of_getElem? (i := 89) rfl) rfl), iniX10, nmhX10, by decide +kernel, by decide⟩
theorem jX10_last : IOK mX10_last := ⟨(inT5 (List.mem_of_getElem? (i := 87) rfl) rfl), (inT5 (List.mem_of_getElem? (i := 88) rfl) rfl)⟩
theorem oX10_inLine : MOK mX10_inLine 1 := ⟨(inT5 (List.mem_of_getElem? (i := 93) rfl) rfl), iniX10, nmhX10, by decide +kernel, by decide⟩
theorem jX10_inLine : IOK mX10_inLine := ⟨(inT5 (List.mem_of_getElem? (i := 91) rfl) rfl), (inT5 (List.mem_of_getElem? (i := 92) rfl) rfl)⟩
theorem oX10_full : MOK mX10_full 1 := ⟨(inT5 (List.mem_of_getElem? (i := 98) rfl) rfl), iniX10, nmhX10, by decide +kernel, by decide⟩
theorem jX10_full : IOK mX10_full := ⟨(inT5 (List.mem_of_getElem? (i := 96) rfl) rfl), (inT5 (List.mem_of_getElem? (i := 97) rfl) rfl)⟩
theorem oX10_ragged : MOK mX10_ragged 0 := ⟨(inT5 (List.mem_of_getElem? (i := 102) rfl) rfl), iniX10, nmhX10, by decide +kernel, by decide⟩
theorem jX10_ragged : IOK mX10_ragged := ⟨(inT5 (List.mem_of_getElem? (i := 100) rfl) rfl), (inT5 (List.mem_of_getElem? (i := 101) rfl) rfl)⟩
theorem oX10_tight : MOK mX10_tight 0 := ⟨(inT5 (List.mem_of_getElem? (i := 114) rfl) rfl), iniX10, nmhX10, by decide +kernel, by decide⟩
theorem jX10_tight : IOK mX10_tight := ⟨(inT5 (List.mem_of_getElem? (i := 112) rfl) rfl), (inT5 (List.mem_of_getElem? (i := 113) rfl) rfl)⟩
theorem oX10_tightWays : MOK mX10_tightWays 0 := ⟨(inT5 (List.mem_of_getElem? (i := 142) rfl) rfl), iniX10, nmhX10, by decide +kernel, by decide⟩
theorem jX10_tightWays : IOK mX10_tightWays := ⟨(inT5 (List.mem_of_getElem? (i := 140) rfl) rfl), (inT5 (List.mem_of_getElem? (i := 141) rfl) rfl)⟩
theorem oX10_rounds : MOK mX10_rounds 0 := ⟨(inT5 (List.mem_of_getElem? (i := 147) rfl) rfl), iniX10, nmhX10, by decide +kernel, by decide⟩
theorem jX10_rounds : IOK mX10_rounds := ⟨(inT5 (List.mem_of_getElem? (i := 145) rfl) rfl), (inT5 (List.mem_of_getElem? (i := 146) rfl) rfl)⟩
theorem oX10_still : MOK mX10_still 0 := ⟨(inT5 (List.mem_of_getElem? (i := 151) rfl) rfl), iniX10, nmhX10, by decide +kernel, by decide⟩
theorem jX10_still : IOK mX10_still := ⟨(inT5 (List.mem_of_getElem? (i := 149) rfl) rfl), (inT5 (List.mem_of_getElem? (i := 150) rfl) rfl)⟩
theorem oX10_clash : MOK mX10_clash 0 := ⟨(inT5 (List.mem_of_getElem? (i := 155) rfl) rfl), iniX10, nmhX10, by decide +kernel, by decide⟩
theorem jX10_clash : IOK mX10_clash := ⟨(inT5 (List.mem_of_getElem? (i := 153) rfl) rfl), (inT5 (List.mem_of_getElem? (i := 154) rfl) rfl)⟩
theorem oX10_leastWide : MOK mX10_leastWide 0 := ⟨(inT5 (List.mem_of_getElem? (i := 163) rfl) rfl), iniX10, nmhX10, by decide +kernel, by decide⟩
theorem jX10_leastWide : IOK mX10_leastWide := ⟨(inT5 (List.mem_of_getElem? (i := 161) rfl) rfl), (inT5 (List.mem_of_getElem? (i := 162) rfl) rfl)⟩
theorem oX10_bestX : MOK mX10_bestX 1 := ⟨(inT5 (List.mem_of_getElem? (i := 173) rfl) rfl), iniX10, nmhX10, by decide +kernel, by decide⟩
theorem jX10_bestX : IOK mX10_bestX := ⟨(inT5 (List.mem_of_getElem? (i := 171) rfl) rfl), (inT5 (List.mem_of_getElem? (i := 172) rfl) rfl)⟩
theorem oX10_costs : MOK mX10_costs 0 := ⟨(inT5 (List.mem_of_getElem? (i := 182) rfl) rfl), iniX10, nmhX10, by decide +kernel, by decide⟩
theorem jX10_costs : IOK mX10_costs := ⟨(inT5 (List.mem_of_getElem? (i := 180) rfl) rfl), (inT5 (List.mem_of_getElem? (i := 181) rfl) rfl)⟩
theorem oX10_pushes : MOK mX10_pushes 1 := ⟨(inT5 (List.mem_of_getElem? (i := 186) rfl) rfl), iniX10, nmhX10, by decide +kernel, by decide⟩
theorem jX10_pushes : IOK mX10_pushes := ⟨(inT5 (List.mem_of_getElem? (i := 184) rfl) rfl), (inT5 (List.mem_of_getElem? (i := 185) rfl) rfl)⟩
theorem oX10_inks : MOK mX10_inks 1 := ⟨(inT5 (List.mem_of_getElem? (i := 190) rfl) rfl), iniX10, nmhX10, by decide +kernel, by decide⟩
theorem jX10_inks : IOK mX10_inks := ⟨(inT5 (List.mem_of_getElem? (i := 188) rfl) rfl), (inT5 (List.mem_of_getElem? (i := 189) rfl) rfl)⟩
theorem oX10_measure : MOK mX10_measure 1 := ⟨(inT5 (List.mem_of_getElem? (i := 204) rfl) rfl), iniX10, nmhX10, by decide +kernel, by decide⟩
theorem jX10_measure : IOK mX10_measure := ⟨(inT5 (List.mem_of_getElem? (i := 202) rfl) rfl), (inT5 (List.mem_of_getElem? (i := 203) rfl) rfl)⟩
theorem oX10_chance : MOK mX10_chance 2 := ⟨(inT5 (List.mem_of_getElem? (i := 215) rfl) rfl), iniX10, nmhX10, by decide +kernel, by decide⟩
theorem jX10_chance : IOK mX10_chance := ⟨(inT5 (List.mem_of_getElem? (i := 213) rfl) rfl), (inT5 (List.mem_of_getElem? (i := 214) rfl) rfl)⟩
theorem oX10_mean : MOK mX10_mean 2 := ⟨(inT6 (List.mem_of_getElem? (i := 0) rfl) rfl), iniX10, nmhX10, by decide +kernel, by decide⟩
theorem jX10_mean : IOK mX10_mean := ⟨(inT5 (List.mem_of_getElem? (i := 238) rfl) rfl), (inT5 (List.mem_of_getElem? (i := 239) rfl) rfl)⟩
theorem oX10_drawer : MOK mX10_drawer 2 := ⟨(inT6 (List.mem_of_getElem? (i := 4) rfl) rfl), iniX10, nmhX10, by decide +kernel, by decide⟩
theorem jX10_drawer : IOK mX10_drawer := ⟨(inT6 (List.mem_of_getElem? (i := 2) rfl) rfl), (inT6 (List.mem_of_getElem? (i := 3) rfl) rfl)⟩
theorem oX10_keep : MOK mX10_keep 2 := ⟨(inT6 (List.mem_of_getElem? (i := 13) rfl) rfl), iniX10, nmhX10, by decide +kernel, by decide⟩
theorem jX10_keep : IOK mX10_keep := ⟨(inT6 (List.mem_of_getElem? (i := 11) rfl) rfl), (inT6 (List.mem_of_getElem? (i := 12) rfl) rfl)⟩
theorem oX10_kept : MOK mX10_kept 2 := ⟨(inT6 (List.mem_of_getElem? (i := 21) rfl) rfl), iniX10, nmhX10, by decide +kernel, by decide⟩
theorem jX10_kept : IOK mX10_kept := ⟨(inT6 (List.mem_of_getElem? (i := 19) rfl) rfl), (inT6 (List.mem_of_getElem? (i := 20) rfl) rfl)⟩
theorem oX10_numbers : MOK mX10_numbers 3 := ⟨(inT6 (List.mem_of_getElem? (i := 25) rfl) rfl), iniX10, nmhX10, by decide +kernel, by decide⟩
theorem jX10_numbers : IOK mX10_numbers := ⟨(inT6 (List.mem_of_getElem? (i := 23) rfl) rfl), (inT6 (List.mem_of_getElem? (i := 24) rfl) rfl)⟩
theorem oX10_write : MOK mX10_write 3 := ⟨(inT6 (List.mem_of_getElem? (i := 33) rfl) rfl), iniX10, nmhX10, by decide +kernel, by decide⟩
theorem jX10_write : IOK mX10_write := ⟨(inT6 (List.mem_of_getElem? (i := 31) rfl) rfl), (inT6 (List.mem_of_getElem? (i := 32) rfl) rfl)⟩
theorem oX10_lists : MOK mX10_lists 1 := ⟨(inT6 (List.mem_of_getElem? (i := 42) rfl) rfl), iniX10, nmhX10, by decide +kernel, by decide⟩
theorem jX10_lists : IOK mX10_lists := ⟨(inT6 (List.mem_of_getElem? (i := 40) rfl) rfl), (inT6 (List.mem_of_getElem? (i := 41) rfl) rfl)⟩
theorem oX10_image : MOK mX10_image 1 := ⟨(inT6 (List.mem_of_getElem? (i := 47) rfl) rfl), iniX10, nmhX10, by decide +kernel, by decide⟩
theorem jX10_image : IOK mX10_image := ⟨(inT6 (List.mem_of_getElem? (i := 45) rfl) rfl), (inT6 (List.mem_of_getElem? (i := 46) rfl) rfl)⟩
theorem oX10_restore : MOK mX10_restore 1 := ⟨(inT6 (List.mem_of_getElem? (i := 51) rfl) rfl), iniX10, nmhX10, by decide +kernel, by decide⟩
theorem jX10_restore : IOK mX10_restore := ⟨(inT6 (List.mem_of_getElem? (i := 49) rfl) rfl), (inT6 (List.mem_of_getElem? (i := 50) rfl) rfl)⟩
theorem oX10_count : MOK mX10_count 1 := ⟨(inT6 (List.mem_of_getElem? (i := 55) rfl) rfl), iniX10, nmhX10, by decide +kernel, by decide⟩
theorem jX10_count : IOK mX10_count := ⟨(inT6 (List.mem_of_getElem? (i := 53) rfl) rfl), (inT6 (List.mem_of_getElem? (i := 54) rfl) rfl)⟩
theorem oX10_putBytes : MOK mX10_putBytes 1 := ⟨(inT3 (List.mem_of_getElem? (i := 12) rfl) rfl), iniX10, nmhX10, by decide +kernel, by decide⟩
theorem jX10_putBytes : IOK mX10_putBytes := ⟨(inT3 (List.mem_of_getElem? (i := 11) rfl) rfl), inP1 (List.mem_of_getElem? (i := 0) rfl)⟩
theorem oX10_current : MOK mX10_current 0 := ⟨(inT4 (List.mem_of_getElem? (i := 35) rfl) rfl), iniX10, nmhX10, by decide +kernel, by decide⟩
theorem jX10_current : IOK mX10_current := ⟨(inT4 (List.mem_of_getElem? (i := 34) rfl) rfl), inP2 (List.mem_of_getElem? (i := 8) rfl)⟩
theorem oX10_isShape : MOK mX10_isShape 1 := ⟨(inT4 (List.mem_of_getElem? (i := 43) rfl) rfl), iniX10, nmhX10, by decide +kernel, by decide⟩
theorem jX10_isShape : IOK mX10_isShape := ⟨(inT4 (List.mem_of_getElem? (i := 42) rfl) rfl), inP2 (List.mem_of_getElem? (i := 9) rfl)⟩
theorem oX10_isWord : MOK mX10_isWord 1 := ⟨(inT4 (List.mem_of_getElem? (i := 175) rfl) rfl), iniX10, nmhX10, by decide +kernel, by decide⟩
theorem jX10_isWord : IOK mX10_isWord := ⟨(inT4 (List.mem_of_getElem? (i := 174) rfl) rfl), inP3 (List.mem_of_getElem? (i := 5) rfl)⟩
theorem oX10_isLine : MOK mX10_isLine 1 := ⟨(inT4 (List.mem_of_getElem? (i := 190) rfl) rfl), iniX10, nmhX10, by decide +kernel, by decide⟩
theorem jX10_isLine : IOK mX10_isLine := ⟨(inT4 (List.mem_of_getElem? (i := 189) rfl) rfl), inP3 (List.mem_of_getElem? (i := 7) rfl)⟩
theorem oX10_wideNow : MOK mX10_wideNow 1 := ⟨(inT4 (List.mem_of_getElem? (i := 179) rfl) rfl), iniX10, nmhX10, by decide +kernel, by decide⟩
theorem jX10_wideNow : IOK mX10_wideNow := ⟨(inT4 (List.mem_of_getElem? (i := 178) rfl) rfl), inP3 (List.mem_of_getElem? (i := 6) rfl)⟩
theorem oX10_sparePage : MOK mX10_sparePage 0 := ⟨(inT3 (List.mem_of_getElem? (i := 20) rfl) rfl), iniX10, nmhX10, by decide +kernel, by decide⟩
theorem jX10_sparePage : IOK mX10_sparePage := ⟨(inT3 (List.mem_of_getElem? (i := 19) rfl) rfl), inP1 (List.mem_of_getElem? (i := 1) rfl)⟩
theorem oX10_goOnFrom : MOK mX10_goOnFrom 2 := ⟨(inT4 (List.mem_of_getElem? (i := 15) rfl) rfl), iniX10, nmhX10, by decide +kernel, by decide⟩
theorem jX10_goOnFrom : IOK mX10_goOnFrom := ⟨(inT4 (List.mem_of_getElem? (i := 14) rfl) rfl), inP2 (List.mem_of_getElem? (i := 7) rfl)⟩
theorem oX10_takeDraft : MOK mX10_takeDraft 0 := ⟨(inT4 (List.mem_of_getElem? (i := 223) rfl) rfl), iniX10, nmhX10, by decide +kernel, by decide⟩
theorem jX10_takeDraft : IOK mX10_takeDraft := ⟨(inT4 (List.mem_of_getElem? (i := 222) rfl) rfl), inP3 (List.mem_of_getElem? (i := 8) rfl)⟩
theorem oX10_setting : MOK mX10_setting 0 := ⟨(inT4 (List.mem_of_getElem? (i := 47) rfl) rfl), iniX10, nmhX10, by decide +kernel, by decide⟩
theorem jX10_setting : IOK mX10_setting := ⟨(inT4 (List.mem_of_getElem? (i := 46) rfl) rfl), inP2 (List.mem_of_getElem? (i := 10) rfl)⟩
theorem oX10_tryDraft : MOK mX10_tryDraft 1 := ⟨(inT5 (List.mem_of_getElem? (i := 54) rfl) rfl), iniX10, nmhX10, by decide +kernel, by decide⟩
theorem jX10_tryDraft : IOK mX10_tryDraft := ⟨(inT5 (List.mem_of_getElem? (i := 53) rfl) rfl), inP3 (List.mem_of_getElem? (i := 10) rfl)⟩
theorem oX10_draftDeeds : MOK mX10_draftDeeds 1 := ⟨(inT5 (List.mem_of_getElem? (i := 36) rfl) rfl), iniX10, nmhX10, by decide +kernel, by decide⟩
theorem jX10_draftDeeds : IOK mX10_draftDeeds := ⟨(inT5 (List.mem_of_getElem? (i := 35) rfl) rfl), inP3 (List.mem_of_getElem? (i := 9) rfl)⟩
theorem oX10_draw : MOK mX10_draw 0 := ⟨(inT5 (List.mem_of_getElem? (i := 80) rfl) rfl), iniX10, nmhX10, by decide +kernel, by decide⟩
theorem jX10_draw : IOK mX10_draw := ⟨(inT5 (List.mem_of_getElem? (i := 79) rfl) rfl), inP3 (List.mem_of_getElem? (i := 12) rfl)⟩
theorem oX10_drawnDeed : MOK mX10_drawnDeed 0 := ⟨(inT5 (List.mem_of_getElem? (i := 76) rfl) rfl), iniX10, nmhX10, by decide +kernel, by decide⟩
theorem jX10_drawnDeed : IOK mX10_drawnDeed := ⟨(inT5 (List.mem_of_getElem? (i := 75) rfl) rfl), inP3 (List.mem_of_getElem? (i := 11) rfl)⟩
theorem oX10_seenBy : MOK mX10_seenBy 1 := ⟨(inT5 (List.mem_of_getElem? (i := 194) rfl) rfl), iniX10, nmhX10, by decide +kernel, by decide⟩
theorem jX10_seenBy : IOK mX10_seenBy := ⟨(inT5 (List.mem_of_getElem? (i := 193) rfl) rfl), inP3 (List.mem_of_getElem? (i := 15) rfl)⟩
theorem oX10_refusedLots : MOK mX10_refusedLots 2 := ⟨(inT5 (List.mem_of_getElem? (i := 218) rfl) rfl), iniX10, nmhX10, by decide +kernel, by decide⟩
theorem jX10_refusedLots : Cond.static mX10_refusedLots.1 ∈ gT := (inT5 (List.mem_of_getElem? (i := 217) rfl) rfl)
theorem oX10_lotsIn : MOK mX10_lotsIn 1 := ⟨(inT5 (List.mem_of_getElem? (i := 233) rfl) rfl), iniX10, nmhX10, by decide +kernel, by decide⟩
theorem jX10_lotsIn : Cond.static mX10_lotsIn.1 ∈ gT := (inT5 (List.mem_of_getElem? (i := 232) rfl) rfl)
theorem oX10_drawLots : MOK mX10_drawLots 1 := ⟨(inT5 (List.mem_of_getElem? (i := 222) rfl) rfl), iniX10, nmhX10, by decide +kernel, by decide⟩
theorem jX10_drawLots : IOK mX10_drawLots := ⟨(inT5 (List.mem_of_getElem? (i := 221) rfl) rfl), inP4 (List.mem_of_getElem? (i := 0) rfl)⟩
theorem oX10_lotBit : MOK mX10_lotBit 1 := ⟨(inT5 (List.mem_of_getElem? (i := 230) rfl) rfl), iniX10, nmhX10, by decide +kernel, by decide⟩
theorem jX10_lotBit : IOK mX10_lotBit := ⟨(inT5 (List.mem_of_getElem? (i := 229) rfl) rfl), inP4 (List.mem_of_getElem? (i := 2) rfl)⟩
theorem oX10_addDraw : MOK mX10_addDraw 1 := ⟨(inT5 (List.mem_of_getElem? (i := 226) rfl) rfl), iniX10, nmhX10, by decide +kernel, by decide⟩
theorem jX10_addDraw : IOK mX10_addDraw := ⟨(inT5 (List.mem_of_getElem? (i := 225) rfl) rfl), inP4 (List.mem_of_getElem? (i := 1) rfl)⟩
theorem oX10_lowest : MOK mX10_lowest 3 := ⟨(inT5 (List.mem_of_getElem? (i := 236) rfl) rfl), iniX10, nmhX10, by decide +kernel, by decide⟩
theorem jX10_lowest : Cond.static mX10_lowest.1 ∈ gT := (inT5 (List.mem_of_getElem? (i := 235) rfl) rfl)
theorem oX11_within : MOK mX11_within 3 := ⟨(inT7 (List.mem_of_getElem? (i := 18) rfl) rfl), iniX11, nmhX11, by decide +kernel, by decide⟩
theorem jX11_within : Cond.static mX11_within.1 ∈ gT := (inT7 (List.mem_of_getElem? (i := 17) rfl) rfl)
theorem oX11_init : MOK mX11_init 0 := ⟨(inT6 (List.mem_of_getElem? (i := 64) rfl) rfl), iniX11, nmhX11, by decide +kernel, by decide⟩
theorem jX11_init : Cond.instanceMethod mX11_init.1 ∈ gT := (inT6 (List.mem_of_getElem? (i := 63) rfl) rfl)
theorem oX11_plain : MOK mX11_plain 1 := ⟨(inT6 (List.mem_of_getElem? (i := 68) rfl) rfl), iniX11, nmhX11, by decide +kernel, by decide⟩
theorem jX11_plain : Cond.static mX11_plain.1 ∈ gT := (inT6 (List.mem_of_getElem? (i := 67) rfl) rfl)
theorem oX11_feed : MOK mX11_feed 5 := ⟨(inT7 (List.mem_of_getElem? (i := 11) rfl) rfl), iniX11, nmhX11, by decide +kernel, by decide⟩
theorem jX11_feed : IOK mX11_feed := ⟨(inT7 (List.mem_of_getElem? (i := 9) rfl) rfl), (inT7 (List.mem_of_getElem? (i := 10) rfl) rfl)⟩
theorem oX11_see : MOK mX11_see 1 := ⟨(inT7 (List.mem_of_getElem? (i := 26) rfl) rfl), iniX11, nmhX11, by decide +kernel, by decide⟩
theorem jX11_see : IOK mX11_see := ⟨(inT7 (List.mem_of_getElem? (i := 25) rfl) rfl), inP4 (List.mem_of_getElem? (i := 4) rfl)⟩
theorem oX11_isSmall : MOK mX11_isSmall 1 := ⟨(inT7 (List.mem_of_getElem? (i := 29) rfl) rfl), iniX11, nmhX11, by decide +kernel, by decide⟩
theorem jX11_isSmall : Cond.static mX11_isSmall.1 ∈ gT := (inT7 (List.mem_of_getElem? (i := 28) rfl) rfl)
theorem oX11_isDigit : MOK mX11_isDigit 1 := ⟨(inT7 (List.mem_of_getElem? (i := 39) rfl) rfl), iniX11, nmhX11, by decide +kernel, by decide⟩
theorem jX11_isDigit : Cond.static mX11_isDigit.1 ∈ gT := (inT7 (List.mem_of_getElem? (i := 38) rfl) rfl)
theorem oX11_keyAt : MOK mX11_keyAt 0 := ⟨(inT7 (List.mem_of_getElem? (i := 33) rfl) rfl), iniX11, nmhX11, by decide +kernel, by decide⟩
theorem jX11_keyAt : IOK mX11_keyAt := ⟨(inT7 (List.mem_of_getElem? (i := 32) rfl) rfl), inP4 (List.mem_of_getElem? (i := 5) rfl)⟩
theorem oX11_next : MOK mX11_next 0 := ⟨(inT7 (List.mem_of_getElem? (i := 22) rfl) rfl), iniX11, nmhX11, by decide +kernel, by decide⟩
theorem jX11_next : IOK mX11_next := ⟨(inT7 (List.mem_of_getElem? (i := 21) rfl) rfl), inP4 (List.mem_of_getElem? (i := 3) rfl)⟩
theorem oX11_fails : MOK mX11_fails 1 := ⟨(inT7 (List.mem_of_getElem? (i := 56) rfl) rfl), iniX11, nmhX11, by decide +kernel, by decide⟩
theorem jX11_fails : IOK mX11_fails := ⟨(inT7 (List.mem_of_getElem? (i := 55) rfl) rfl), inP4 (List.mem_of_getElem? (i := 9) rfl)⟩
theorem oX11_is : MOK mX11_is 1 := ⟨(inT7 (List.mem_of_getElem? (i := 52) rfl) rfl), iniX11, nmhX11, by decide +kernel, by decide⟩
theorem jX11_is : IOK mX11_is := ⟨(inT7 (List.mem_of_getElem? (i := 51) rfl) rfl), inP4 (List.mem_of_getElem? (i := 8) rfl)⟩
theorem oX11_eats : MOK mX11_eats 1 := ⟨(inT7 (List.mem_of_getElem? (i := 48) rfl) rfl), iniX11, nmhX11, by decide +kernel, by decide⟩
theorem jX11_eats : IOK mX11_eats := ⟨(inT7 (List.mem_of_getElem? (i := 47) rfl) rfl), inP4 (List.mem_of_getElem? (i := 7) rfl)⟩
theorem oX11_takes : MOK mX11_takes 2 := ⟨(inT7 (List.mem_of_getElem? (i := 60) rfl) rfl), iniX11, nmhX11, by decide +kernel, by decide⟩
theorem jX11_takes : IOK mX11_takes := ⟨(inT7 (List.mem_of_getElem? (i := 59) rfl) rfl), inP4 (List.mem_of_getElem? (i := 10) rfl)⟩
theorem oX11_isIn : MOK mX11_isIn 2 := ⟨(inT7 (List.mem_of_getElem? (i := 160) rfl) rfl), iniX11, nmhX11, by decide +kernel, by decide⟩
theorem jX11_isIn : Cond.static mX11_isIn.1 ∈ gT := (inT7 (List.mem_of_getElem? (i := 159) rfl) rfl)
theorem oX11_wordOf : MOK mX11_wordOf 1 := ⟨(inT7 (List.mem_of_getElem? (i := 104) rfl) rfl), iniX11, nmhX11, by decide +kernel, by decide⟩
theorem jX11_wordOf : IOK mX11_wordOf := ⟨(inT7 (List.mem_of_getElem? (i := 103) rfl) rfl), inP5 (List.mem_of_getElem? (i := 5) rfl)⟩
theorem oX11_codes : MOK mX11_codes 1 := ⟨(inT7 (List.mem_of_getElem? (i := 100) rfl) rfl), iniX11, nmhX11, by decide +kernel, by decide⟩
theorem jX11_codes : IOK mX11_codes := ⟨(inT7 (List.mem_of_getElem? (i := 99) rfl) rfl), inP5 (List.mem_of_getElem? (i := 4) rfl)⟩
theorem oX11_goesIn : MOK mX11_goesIn 1 := ⟨(inT7 (List.mem_of_getElem? (i := 108) rfl) rfl), iniX11, nmhX11, by decide +kernel, by decide⟩
theorem jX11_goesIn : IOK mX11_goesIn := ⟨(inT7 (List.mem_of_getElem? (i := 107) rfl) rfl), inP5 (List.mem_of_getElem? (i := 6) rfl)⟩
theorem oX11_readAtom : MOK mX11_readAtom 1 := ⟨(inT7 (List.mem_of_getElem? (i := 96) rfl) rfl), iniX11, nmhX11, by decide +kernel, by decide⟩
theorem jX11_readAtom : IOK mX11_readAtom := ⟨(inT7 (List.mem_of_getElem? (i := 95) rfl) rfl), inP5 (List.mem_of_getElem? (i := 3) rfl)⟩
theorem oX11_readIf : MOK mX11_readIf 1 := ⟨(inT7 (List.mem_of_getElem? (i := 112) rfl) rfl), iniX11, nmhX11, by decide +kernel, by decide⟩
theorem jX11_readIf : IOK mX11_readIf := ⟨(inT7 (List.mem_of_getElem? (i := 111) rfl) rfl), inP5 (List.mem_of_getElem? (i := 7) rfl)⟩
theorem oX11_readTerm : MOK mX11_readTerm 1 := ⟨(inT7 (List.mem_of_getElem? (i := 92) rfl) rfl), iniX11, nmhX11, by decide +kernel, by decide⟩
theorem jX11_readTerm : IOK mX11_readTerm := ⟨(inT7 (List.mem_of_getElem? (i := 91) rfl) rfl), inP5 (List.mem_of_getElem? (i := 2) rfl)⟩
theorem oX11_readSum : MOK mX11_readSum 1 := ⟨(inT7 (List.mem_of_getElem? (i := 88) rfl) rfl), iniX11, nmhX11, by decide +kernel, by decide⟩
theorem jX11_readSum : IOK mX11_readSum := ⟨(inT7 (List.mem_of_getElem? (i := 87) rfl) rfl), inP5 (List.mem_of_getElem? (i := 1) rfl)⟩
theorem oX11_readUnit : MOK mX11_readUnit 1 := ⟨(inT7 (List.mem_of_getElem? (i := 124) rfl) rfl), iniX11, nmhX11, by decide +kernel, by decide⟩
theorem jX11_readUnit : IOK mX11_readUnit := ⟨(inT7 (List.mem_of_getElem? (i := 123) rfl) rfl), inP5 (List.mem_of_getElem? (i := 10) rfl)⟩
theorem oX11_readBoth : MOK mX11_readBoth 1 := ⟨(inT7 (List.mem_of_getElem? (i := 120) rfl) rfl), iniX11, nmhX11, by decide +kernel, by decide⟩
theorem jX11_readBoth : IOK mX11_readBoth := ⟨(inT7 (List.mem_of_getElem? (i := 119) rfl) rfl), inP5 (List.mem_of_getElem? (i := 9) rfl)⟩
theorem oX11_readTruth : MOK mX11_readTruth 1 := ⟨(inT7 (List.mem_of_getElem? (i := 116) rfl) rfl), iniX11, nmhX11, by decide +kernel, by decide⟩
theorem jX11_readTruth : IOK mX11_readTruth := ⟨(inT7 (List.mem_of_getElem? (i := 115) rfl) rfl), inP5 (List.mem_of_getElem? (i := 8) rfl)⟩
theorem oX11_readPage : MOK mX11_readPage 0 := ⟨(inT7 (List.mem_of_getElem? (i := 44) rfl) rfl), iniX11, nmhX11, by decide +kernel, by decide⟩
theorem jX11_readPage : IOK mX11_readPage := ⟨(inT7 (List.mem_of_getElem? (i := 43) rfl) rfl), inP4 (List.mem_of_getElem? (i := 6) rfl)⟩
theorem oX11_readShape : MOK mX11_readShape 0 := ⟨(inT7 (List.mem_of_getElem? (i := 72) rfl) rfl), iniX11, nmhX11, by decide +kernel, by decide⟩
theorem jX11_readShape : IOK mX11_readShape := ⟨(inT7 (List.mem_of_getElem? (i := 71) rfl) rfl), inP4 (List.mem_of_getElem? (i := 13) rfl)⟩
theorem oX11_readTie : MOK mX11_readTie 0 := ⟨(inT7 (List.mem_of_getElem? (i := 76) rfl) rfl), iniX11, nmhX11, by decide +kernel, by decide⟩
theorem jX11_readTie : IOK mX11_readTie := ⟨(inT7 (List.mem_of_getElem? (i := 75) rfl) rfl), inP4 (List.mem_of_getElem? (i := 14) rfl)⟩
theorem oX11_readWords : MOK mX11_readWords 0 := ⟨(inT7 (List.mem_of_getElem? (i := 80) rfl) rfl), iniX11, nmhX11, by decide +kernel, by decide⟩
theorem jX11_readWords : IOK mX11_readWords := ⟨(inT7 (List.mem_of_getElem? (i := 79) rfl) rfl), inP4 (List.mem_of_getElem? (i := 15) rfl)⟩
theorem oX11_readLaw : MOK mX11_readLaw 1 := ⟨(inT7 (List.mem_of_getElem? (i := 84) rfl) rfl), iniX11, nmhX11, by decide +kernel, by decide⟩
theorem jX11_readLaw : IOK mX11_readLaw := ⟨(inT7 (List.mem_of_getElem? (i := 83) rfl) rfl), inP5 (List.mem_of_getElem? (i := 0) rfl)⟩
theorem oX11_readLine : MOK mX11_readLine 0 := ⟨(inT7 (List.mem_of_getElem? (i := 68) rfl) rfl), iniX11, nmhX11, by decide +kernel, by decide⟩
theorem jX11_readLine : IOK mX11_readLine := ⟨(inT7 (List.mem_of_getElem? (i := 67) rfl) rfl), inP4 (List.mem_of_getElem? (i := 12) rfl)⟩
theorem oX11_closes : MOK mX11_closes 0 := ⟨(inT7 (List.mem_of_getElem? (i := 64) rfl) rfl), iniX11, nmhX11, by decide +kernel, by decide⟩
theorem jX11_closes : IOK mX11_closes := ⟨(inT7 (List.mem_of_getElem? (i := 63) rfl) rfl), inP4 (List.mem_of_getElem? (i := 11) rfl)⟩
theorem oX11_page : MOK mX11_page 1 := ⟨(inT7 (List.mem_of_getElem? (i := 15) rfl) rfl), iniX11, nmhX11, by decide +kernel, by decide⟩
theorem jX11_page : IOK mX11_page := ⟨(inT7 (List.mem_of_getElem? (i := 13) rfl) rfl), (inT7 (List.mem_of_getElem? (i := 14) rfl) rfl)⟩
theorem oX11_fault : MOK mX11_fault 1 := ⟨(inT7 (List.mem_of_getElem? (i := 128) rfl) rfl), iniX11, nmhX11, by decide +kernel, by decide⟩
theorem jX11_fault : IOK mX11_fault := ⟨(inT7 (List.mem_of_getElem? (i := 126) rfl) rfl), (inT7 (List.mem_of_getElem? (i := 127) rfl) rfl)⟩
theorem oX11_isShape : MOK mX11_isShape 1 := ⟨(inT7 (List.mem_of_getElem? (i := 141) rfl) rfl), iniX11, nmhX11, by decide +kernel, by decide⟩
theorem jX11_isShape : IOK mX11_isShape := ⟨(inT7 (List.mem_of_getElem? (i := 140) rfl) rfl), inP5 (List.mem_of_getElem? (i := 11) rfl)⟩
theorem oX11_isWord : MOK mX11_isWord 1 := ⟨(inT7 (List.mem_of_getElem? (i := 235) rfl) rfl), iniX11, nmhX11, by decide +kernel, by decide⟩
theorem jX11_isWord : IOK mX11_isWord := ⟨(inT7 (List.mem_of_getElem? (i := 234) rfl) rfl), inP6 (List.mem_of_getElem? (i := 13) rfl)⟩
theorem oX11_isRow : MOK mX11_isRow 1 := ⟨(inT8 (List.mem_of_getElem? (i := 3) rfl) rfl), iniX11, nmhX11, by decide +kernel, by decide⟩
theorem jX11_isRow : IOK mX11_isRow := ⟨(inT8 (List.mem_of_getElem? (i := 2) rfl) rfl), inP6 (List.mem_of_getElem? (i := 14) rfl)⟩
theorem oX11_between : MOK mX11_between 3 := ⟨(inT7 (List.mem_of_getElem? (i := 209) rfl) rfl), iniX11, nmhX11, by decide +kernel, by decide⟩
theorem jX11_between : Cond.static mX11_between.1 ∈ gT := (inT7 (List.mem_of_getElem? (i := 208) rfl) rfl)
theorem oX11_reckons : MOK mX11_reckons 1 := ⟨(inT7 (List.mem_of_getElem? (i := 206) rfl) rfl), iniX11, nmhX11, by decide +kernel, by decide⟩
theorem jX11_reckons : IOK mX11_reckons := ⟨(inT7 (List.mem_of_getElem? (i := 205) rfl) rfl), inP6 (List.mem_of_getElem? (i := 8) rfl)⟩
theorem oX11_widthOf : MOK mX11_widthOf 2 := ⟨(inT7 (List.mem_of_getElem? (i := 215) rfl) rfl), iniX11, nmhX11, by decide +kernel, by decide⟩
theorem jX11_widthOf : IOK mX11_widthOf := ⟨(inT7 (List.mem_of_getElem? (i := 214) rfl) rfl), inP6 (List.mem_of_getElem? (i := 9) rfl)⟩
theorem oX11_gapOf : MOK mX11_gapOf 2 := ⟨(inT7 (List.mem_of_getElem? (i := 202) rfl) rfl), iniX11, nmhX11, by decide +kernel, by decide⟩
theorem jX11_gapOf : IOK mX11_gapOf := ⟨(inT7 (List.mem_of_getElem? (i := 201) rfl) rfl), inP6 (List.mem_of_getElem? (i := 7) rfl)⟩
theorem oX11_rootOf : MOK mX11_rootOf 1 := ⟨(inT7 (List.mem_of_getElem? (i := 187) rfl) rfl), iniX11, nmhX11, by decide +kernel, by decide⟩
theorem jX11_rootOf : Cond.static mX11_rootOf.1 ∈ gT := (inT7 (List.mem_of_getElem? (i := 186) rfl) rfl)
theorem oX11_floorOf : MOK mX11_floorOf 1 := ⟨(inT7 (List.mem_of_getElem? (i := 195) rfl) rfl), iniX11, nmhX11, by decide +kernel, by decide⟩
theorem jX11_floorOf : Cond.static mX11_floorOf.1 ∈ gT := (inT7 (List.mem_of_getElem? (i := 194) rfl) rfl)
theorem oX11_ceilOf : MOK mX11_ceilOf 1 := ⟨(inT7 (List.mem_of_getElem? (i := 198) rfl) rfl), iniX11, nmhX11, by decide +kernel, by decide⟩
theorem jX11_ceilOf : Cond.static mX11_ceilOf.1 ∈ gT := (inT7 (List.mem_of_getElem? (i := 197) rfl) rfl)
theorem oX11_spansBy : MOK mX11_spansBy 2 := ⟨(inT7 (List.mem_of_getElem? (i := 192) rfl) rfl), iniX11, nmhX11, by decide +kernel, by decide⟩
theorem jX11_spansBy : IOK mX11_spansBy := ⟨(inT7 (List.mem_of_getElem? (i := 191) rfl) rfl), inP6 (List.mem_of_getElem? (i := 6) rfl)⟩
theorem oX11_isSpanned : MOK mX11_isSpanned 3 := ⟨(inT7 (List.mem_of_getElem? (i := 184) rfl) rfl), iniX11, nmhX11, by decide +kernel, by decide⟩
theorem jX11_isSpanned : IOK mX11_isSpanned := ⟨(inT7 (List.mem_of_getElem? (i := 183) rfl) rfl), inP6 (List.mem_of_getElem? (i := 5) rfl)⟩
theorem oX11_asks : MOK mX11_asks 0 := ⟨(inT7 (List.mem_of_getElem? (i := 149) rfl) rfl), iniX11, nmhX11, by decide +kernel, by decide⟩
theorem jX11_asks : IOK mX11_asks := ⟨(inT7 (List.mem_of_getElem? (i := 148) rfl) rfl), inP5 (List.mem_of_getElem? (i := 13) rfl)⟩
theorem oX11_laysLine : MOK mX11_laysLine 1 := ⟨(inT7 (List.mem_of_getElem? (i := 180) rfl) rfl), iniX11, nmhX11, by decide +kernel, by decide⟩
theorem jX11_laysLine : IOK mX11_laysLine := ⟨(inT7 (List.mem_of_getElem? (i := 179) rfl) rfl), inP6 (List.mem_of_getElem? (i := 4) rfl)⟩
theorem oX11_laysSlots : MOK mX11_laysSlots 0 := ⟨(inT7 (List.mem_of_getElem? (i := 176) rfl) rfl), iniX11, nmhX11, by decide +kernel, by decide⟩
theorem jX11_laysSlots : IOK mX11_laysSlots := ⟨(inT7 (List.mem_of_getElem? (i := 175) rfl) rfl), inP6 (List.mem_of_getElem? (i := 3) rfl)⟩
theorem oX11_isShown : MOK mX11_isShown 1 := ⟨(inT7 (List.mem_of_getElem? (i := 219) rfl) rfl), iniX11, nmhX11, by decide +kernel, by decide⟩
theorem jX11_isShown : IOK mX11_isShown := ⟨(inT7 (List.mem_of_getElem? (i := 218) rfl) rfl), inP6 (List.mem_of_getElem? (i := 10) rfl)⟩
theorem oX11_pours : MOK mX11_pours 0 := ⟨(inT7 (List.mem_of_getElem? (i := 172) rfl) rfl), iniX11, nmhX11, by decide +kernel, by decide⟩
theorem jX11_pours : IOK mX11_pours := ⟨(inT7 (List.mem_of_getElem? (i := 171) rfl) rfl), inP6 (List.mem_of_getElem? (i := 2) rfl)⟩
theorem oX11_lineOf : MOK mX11_lineOf 1 := ⟨(inT7 (List.mem_of_getElem? (i := 223) rfl) rfl), iniX11, nmhX11, by decide +kernel, by decide⟩
theorem jX11_lineOf : IOK mX11_lineOf := ⟨(inT7 (List.mem_of_getElem? (i := 222) rfl) rfl), inP6 (List.mem_of_getElem? (i := 11) rfl)⟩
theorem oX11_isTied : MOK mX11_isTied 1 := ⟨(inT7 (List.mem_of_getElem? (i := 157) rfl) rfl), iniX11, nmhX11, by decide +kernel, by decide⟩
theorem jX11_isTied : IOK mX11_isTied := ⟨(inT7 (List.mem_of_getElem? (i := 156) rfl) rfl), inP5 (List.mem_of_getElem? (i := 15) rfl)⟩
theorem oX11_areAlike : MOK mX11_areAlike 2 := ⟨(inT7 (List.mem_of_getElem? (i := 227) rfl) rfl), iniX11, nmhX11, by decide +kernel, by decide⟩
theorem jX11_areAlike : IOK mX11_areAlike := ⟨(inT7 (List.mem_of_getElem? (i := 226) rfl) rfl), inP6 (List.mem_of_getElem? (i := 12) rfl)⟩
theorem oX11_heightIn : MOK mX11_heightIn 2 := ⟨(inT7 (List.mem_of_getElem? (i := 168) rfl) rfl), iniX11, nmhX11, by decide +kernel, by decide⟩
theorem jX11_heightIn : IOK mX11_heightIn := ⟨(inT7 (List.mem_of_getElem? (i := 167) rfl) rfl), inP6 (List.mem_of_getElem? (i := 1) rfl)⟩
theorem oX11_goesRound : MOK mX11_goesRound 0 := ⟨(inT7 (List.mem_of_getElem? (i := 164) rfl) rfl), iniX11, nmhX11, by decide +kernel, by decide⟩
theorem jX11_goesRound : IOK mX11_goesRound := ⟨(inT7 (List.mem_of_getElem? (i := 163) rfl) rfl), inP6 (List.mem_of_getElem? (i := 0) rfl)⟩
theorem oX11_sets : MOK mX11_sets 0 := ⟨(inT7 (List.mem_of_getElem? (i := 153) rfl) rfl), iniX11, nmhX11, by decide +kernel, by decide⟩
theorem jX11_sets : IOK mX11_sets := ⟨(inT7 (List.mem_of_getElem? (i := 152) rfl) rfl), inP5 (List.mem_of_getElem? (i := 14) rfl)⟩
theorem oX11_setsNow : MOK mX11_setsNow 0 := ⟨(inT7 (List.mem_of_getElem? (i := 145) rfl) rfl), iniX11, nmhX11, by decide +kernel, by decide⟩
theorem jX11_setsNow : IOK mX11_setsNow := ⟨(inT7 (List.mem_of_getElem? (i := 144) rfl) rfl), inP5 (List.mem_of_getElem? (i := 12) rfl)⟩
theorem oX11_placedNow : MOK mX11_placedNow 0 := ⟨(inT8 (List.mem_of_getElem? (i := 100) rfl) rfl), iniX11, nmhX11, by decide +kernel, by decide⟩
theorem jX11_placedNow : IOK mX11_placedNow := ⟨(inT8 (List.mem_of_getElem? (i := 99) rfl) rfl), inP7 (List.mem_of_getElem? (i := 8) rfl)⟩
theorem oX11_lastNow : MOK mX11_lastNow 0 := ⟨(inT8 (List.mem_of_getElem? (i := 104) rfl) rfl), iniX11, nmhX11, by decide +kernel, by decide⟩
theorem jX11_lastNow : IOK mX11_lastNow := ⟨(inT8 (List.mem_of_getElem? (i := 103) rfl) rfl), inP7 (List.mem_of_getElem? (i := 9) rfl)⟩
theorem oX11_shownNow : MOK mX11_shownNow 0 := ⟨(inT8 (List.mem_of_getElem? (i := 192) rfl) rfl), iniX11, nmhX11, by decide +kernel, by decide⟩
theorem jX11_shownNow : IOK mX11_shownNow := ⟨(inT8 (List.mem_of_getElem? (i := 191) rfl) rfl), inP8 (List.mem_of_getElem? (i := 1) rfl)⟩
theorem oX11_set : MOK mX11_set 1 := ⟨(inT7 (List.mem_of_getElem? (i := 132) rfl) rfl), iniX11, nmhX11, by decide +kernel, by decide⟩
theorem jX11_set : IOK mX11_set := ⟨(inT7 (List.mem_of_getElem? (i := 130) rfl) rfl), (inT7 (List.mem_of_getElem? (i := 131) rfl) rfl)⟩
theorem oX11_shape : MOK mX11_shape 2 := ⟨(inT7 (List.mem_of_getElem? (i := 137) rfl) rfl), iniX11, nmhX11, by decide +kernel, by decide⟩
theorem jX11_shape : IOK mX11_shape := ⟨(inT7 (List.mem_of_getElem? (i := 135) rfl) rfl), (inT7 (List.mem_of_getElem? (i := 136) rfl) rfl)⟩
theorem oX11_word : MOK mX11_word 2 := ⟨(inT7 (List.mem_of_getElem? (i := 231) rfl) rfl), iniX11, nmhX11, by decide +kernel, by decide⟩
theorem jX11_word : IOK mX11_word := ⟨(inT7 (List.mem_of_getElem? (i := 229) rfl) rfl), (inT7 (List.mem_of_getElem? (i := 230) rfl) rfl)⟩
theorem oX11_span : MOK mX11_span 3 := ⟨(inT7 (List.mem_of_getElem? (i := 239) rfl) rfl), iniX11, nmhX11, by decide +kernel, by decide⟩
theorem jX11_span : IOK mX11_span := ⟨(inT7 (List.mem_of_getElem? (i := 237) rfl) rfl), (inT7 (List.mem_of_getElem? (i := 238) rfl) rfl)⟩
theorem oX11_slots : MOK mX11_slots 1 := ⟨(inT8 (List.mem_of_getElem? (i := 9) rfl) rfl), iniX11, nmhX11, by decide +kernel, by decide⟩
theorem jX11_slots : IOK mX11_slots := ⟨(inT8 (List.mem_of_getElem? (i := 7) rfl) rfl), (inT8 (List.mem_of_getElem? (i := 8) rfl) rfl)⟩
theorem oX11_firstSlot : MOK mX11_firstSlot 1 := ⟨(inT8 (List.mem_of_getElem? (i := 18) rfl) rfl), iniX11, nmhX11, by decide +kernel, by decide⟩
theorem jX11_firstSlot : IOK mX11_firstSlot := ⟨(inT8 (List.mem_of_getElem? (i := 17) rfl) rfl), inP6 (List.mem_of_getElem? (i := 15) rfl)⟩
theorem oX11_slot : MOK mX11_slot 3 := ⟨(inT8 (List.mem_of_getElem? (i := 13) rfl) rfl), iniX11, nmhX11, by decide +kernel, by decide⟩
theorem jX11_slot : IOK mX11_slot := ⟨(inT8 (List.mem_of_getElem? (i := 11) rfl) rfl), (inT8 (List.mem_of_getElem? (i := 12) rfl) rfl)⟩
theorem oX11_lies : MOK mX11_lies 2 := ⟨(inT8 (List.mem_of_getElem? (i := 22) rfl) rfl), iniX11, nmhX11, by decide +kernel, by decide⟩
theorem jX11_lies : IOK mX11_lies := ⟨(inT8 (List.mem_of_getElem? (i := 20) rfl) rfl), (inT8 (List.mem_of_getElem? (i := 21) rfl) rfl)⟩
theorem oX11_stores : MOK mX11_stores 0 := ⟨(inT8 (List.mem_of_getElem? (i := 38) rfl) rfl), iniX11, nmhX11, by decide +kernel, by decide⟩
theorem jX11_stores : IOK mX11_stores := ⟨(inT8 (List.mem_of_getElem? (i := 37) rfl) rfl), inP7 (List.mem_of_getElem? (i := 1) rfl)⟩
theorem oX11_isAgain : MOK mX11_isAgain 0 := ⟨(inT8 (List.mem_of_getElem? (i := 96) rfl) rfl), iniX11, nmhX11, by decide +kernel, by decide⟩
theorem jX11_isAgain : IOK mX11_isAgain := ⟨(inT8 (List.mem_of_getElem? (i := 95) rfl) rfl), inP7 (List.mem_of_getElem? (i := 7) rfl)⟩
theorem oX11_notes : MOK mX11_notes 0 := ⟨(inT8 (List.mem_of_getElem? (i := 42) rfl) rfl), iniX11, nmhX11, by decide +kernel, by decide⟩
theorem jX11_notes : IOK mX11_notes := ⟨(inT8 (List.mem_of_getElem? (i := 41) rfl) rfl), inP7 (List.mem_of_getElem? (i := 2) rfl)⟩
theorem oX11_whyMove : MOK mX11_whyMove 3 := ⟨(inT8 (List.mem_of_getElem? (i := 30) rfl) rfl), iniX11, nmhX11, by decide +kernel, by decide⟩
theorem jX11_whyMove : IOK mX11_whyMove := ⟨(inT8 (List.mem_of_getElem? (i := 29) rfl) rfl), inP7 (List.mem_of_getElem? (i := 0) rfl)⟩
theorem oX11_move : MOK mX11_move 3 := ⟨(inT8 (List.mem_of_getElem? (i := 26) rfl) rfl), iniX11, nmhX11, by decide +kernel, by decide⟩
theorem jX11_move : IOK mX11_move := ⟨(inT8 (List.mem_of_getElem? (i := 24) rfl) rfl), (inT8 (List.mem_of_getElem? (i := 25) rfl) rfl)⟩
theorem oX11_tie : MOK mX11_tie 2 := ⟨(inT8 (List.mem_of_getElem? (i := 46) rfl) rfl), iniX11, nmhX11, by decide +kernel, by decide⟩
theorem jX11_tie : IOK mX11_tie := ⟨(inT8 (List.mem_of_getElem? (i := 44) rfl) rfl), (inT8 (List.mem_of_getElem? (i := 45) rfl) rfl)⟩
theorem oX11_hide : MOK mX11_hide 1 := ⟨(inT8 (List.mem_of_getElem? (i := 52) rfl) rfl), iniX11, nmhX11, by decide +kernel, by decide⟩
theorem jX11_hide : IOK mX11_hide := ⟨(inT8 (List.mem_of_getElem? (i := 50) rfl) rfl), (inT8 (List.mem_of_getElem? (i := 51) rfl) rfl)⟩
theorem oX11_ink : MOK mX11_ink 1 := ⟨(inT8 (List.mem_of_getElem? (i := 56) rfl) rfl), iniX11, nmhX11, by decide +kernel, by decide⟩
theorem jX11_ink : IOK mX11_ink := ⟨(inT8 (List.mem_of_getElem? (i := 54) rfl) rfl), (inT8 (List.mem_of_getElem? (i := 55) rfl) rfl)⟩
theorem oX11_undo : MOK mX11_undo 1 := ⟨(inT8 (List.mem_of_getElem? (i := 61) rfl) rfl), iniX11, nmhX11, by decide +kernel, by decide⟩
theorem jX11_undo : IOK mX11_undo := ⟨(inT8 (List.mem_of_getElem? (i := 59) rfl) rfl), (inT8 (List.mem_of_getElem? (i := 60) rfl) rfl)⟩
theorem oX11_whyNot : MOK mX11_whyNot 1 := ⟨(inT8 (List.mem_of_getElem? (i := 78) rfl) rfl), iniX11, nmhX11, by decide +kernel, by decide⟩
theorem jX11_whyNot : IOK mX11_whyNot := ⟨(inT8 (List.mem_of_getElem? (i := 77) rfl) rfl), inP7 (List.mem_of_getElem? (i := 5) rfl)⟩
theorem oX11_does : MOK mX11_does 1 := ⟨(inT8 (List.mem_of_getElem? (i := 92) rfl) rfl), iniX11, nmhX11, by decide +kernel, by decide⟩
theorem jX11_does : IOK mX11_does := ⟨(inT8 (List.mem_of_getElem? (i := 91) rfl) rfl), inP7 (List.mem_of_getElem? (i := 6) rfl)⟩
theorem oX11_tells : MOK mX11_tells 1 := ⟨(inT8 (List.mem_of_getElem? (i := 74) rfl) rfl), iniX11, nmhX11, by decide +kernel, by decide⟩
theorem jX11_tells : IOK mX11_tells := ⟨(inT8 (List.mem_of_getElem? (i := 73) rfl) rfl), inP7 (List.mem_of_getElem? (i := 4) rfl)⟩
theorem oX11_noTray : MOK mX11_noTray 1 := ⟨(inT8 (List.mem_of_getElem? (i := 70) rfl) rfl), iniX11, nmhX11, by decide +kernel, by decide⟩
theorem jX11_noTray : IOK mX11_noTray := ⟨(inT8 (List.mem_of_getElem? (i := 69) rfl) rfl), inP7 (List.mem_of_getElem? (i := 3) rfl)⟩
theorem oX11_judge : MOK mX11_judge 2 := ⟨(inT8 (List.mem_of_getElem? (i := 66) rfl) rfl), iniX11, nmhX11, by decide +kernel, by decide⟩
theorem jX11_judge : IOK mX11_judge := ⟨(inT8 (List.mem_of_getElem? (i := 64) rfl) rfl), (inT8 (List.mem_of_getElem? (i := 65) rfl) rfl)⟩
theorem oX11_perform : MOK mX11_perform 1 := ⟨(inT8 (List.mem_of_getElem? (i := 108) rfl) rfl), iniX11, nmhX11, by decide +kernel, by decide⟩
theorem jX11_perform : IOK mX11_perform := ⟨(inT8 (List.mem_of_getElem? (i := 106) rfl) rfl), (inT8 (List.mem_of_getElem? (i := 107) rfl) rfl)⟩
theorem oX11_draw : MOK mX11_draw 1 := ⟨(inT8 (List.mem_of_getElem? (i := 121) rfl) rfl), iniX11, nmhX11, by decide +kernel, by decide⟩
theorem jX11_draw : IOK mX11_draw := ⟨(inT8 (List.mem_of_getElem? (i := 120) rfl) rfl), inP7 (List.mem_of_getElem? (i := 11) rfl)⟩
theorem oX11_drawn : MOK mX11_drawn 0 := ⟨(inT8 (List.mem_of_getElem? (i := 117) rfl) rfl), iniX11, nmhX11, by decide +kernel, by decide⟩
theorem jX11_drawn : IOK mX11_drawn := ⟨(inT8 (List.mem_of_getElem? (i := 116) rfl) rfl), inP7 (List.mem_of_getElem? (i := 10) rfl)⟩
theorem oX11_day : MOK mX11_day 2 := ⟨(inT8 (List.mem_of_getElem? (i := 112) rfl) rfl), iniX11, nmhX11, by decide +kernel, by decide⟩
theorem jX11_day : IOK mX11_day := ⟨(inT8 (List.mem_of_getElem? (i := 110) rfl) rfl), (inT8 (List.mem_of_getElem? (i := 111) rfl) rfl)⟩
theorem oX11_placed : MOK mX11_placed 0 := ⟨(inT8 (List.mem_of_getElem? (i := 126) rfl) rfl), iniX11, nmhX11, by decide +kernel, by decide⟩
theorem jX11_placed : IOK mX11_placed := ⟨(inT8 (List.mem_of_getElem? (i := 124) rfl) rfl), (inT8 (List.mem_of_getElem? (i := 125) rfl) rfl)⟩
theorem oX11_last : MOK mX11_last 0 := ⟨(inT8 (List.mem_of_getElem? (i := 130) rfl) rfl), iniX11, nmhX11, by decide +kernel, by decide⟩
theorem jX11_last : IOK mX11_last := ⟨(inT8 (List.mem_of_getElem? (i := 128) rfl) rfl), (inT8 (List.mem_of_getElem? (i := 129) rfl) rfl)⟩
theorem oX11_inLine : MOK mX11_inLine 1 := ⟨(inT8 (List.mem_of_getElem? (i := 134) rfl) rfl), iniX11, nmhX11, by decide +kernel, by decide⟩
theorem jX11_inLine : IOK mX11_inLine := ⟨(inT8 (List.mem_of_getElem? (i := 132) rfl) rfl), (inT8 (List.mem_of_getElem? (i := 133) rfl) rfl)⟩
theorem oX11_full : MOK mX11_full 1 := ⟨(inT8 (List.mem_of_getElem? (i := 138) rfl) rfl), iniX11, nmhX11, by decide +kernel, by decide⟩
theorem jX11_full : IOK mX11_full := ⟨(inT8 (List.mem_of_getElem? (i := 136) rfl) rfl), (inT8 (List.mem_of_getElem? (i := 137) rfl) rfl)⟩
theorem oX11_laysPlaced : MOK mX11_laysPlaced 0 := ⟨(inT8 (List.mem_of_getElem? (i := 146) rfl) rfl), iniX11, nmhX11, by decide +kernel, by decide⟩
theorem jX11_laysPlaced : IOK mX11_laysPlaced := ⟨(inT8 (List.mem_of_getElem? (i := 145) rfl) rfl), inP7 (List.mem_of_getElem? (i := 12) rfl)⟩
theorem oX11_leftIn : MOK mX11_leftIn 3 := ⟨(inT8 (List.mem_of_getElem? (i := 150) rfl) rfl), iniX11, nmhX11, by decide +kernel, by decide⟩
theorem jX11_leftIn : IOK mX11_leftIn := ⟨(inT8 (List.mem_of_getElem? (i := 149) rfl) rfl), inP7 (List.mem_of_getElem? (i := 13) rfl)⟩
theorem oX11_ragged : MOK mX11_ragged 0 := ⟨(inT8 (List.mem_of_getElem? (i := 142) rfl) rfl), iniX11, nmhX11, by decide +kernel, by decide⟩
theorem jX11_ragged : IOK mX11_ragged := ⟨(inT8 (List.mem_of_getElem? (i := 140) rfl) rfl), (inT8 (List.mem_of_getElem? (i := 141) rfl) rfl)⟩
theorem oX11_betters : MOK mX11_betters 3 := ⟨(inT8 (List.mem_of_getElem? (i := 167) rfl) rfl), iniX11, nmhX11, by decide +kernel, by decide⟩
theorem jX11_betters : IOK mX11_betters := ⟨(inT8 (List.mem_of_getElem? (i := 166) rfl) rfl), inP8 (List.mem_of_getElem? (i := 0) rfl)⟩
theorem oX11_takesSlot : MOK mX11_takesSlot 1 := ⟨(inT8 (List.mem_of_getElem? (i := 163) rfl) rfl), iniX11, nmhX11, by decide +kernel, by decide⟩
theorem jX11_takesSlot : IOK mX11_takesSlot := ⟨(inT8 (List.mem_of_getElem? (i := 162) rfl) rfl), inP7 (List.mem_of_getElem? (i := 15) rfl)⟩
theorem oX11_laysTight : MOK mX11_laysTight 0 := ⟨(inT8 (List.mem_of_getElem? (i := 158) rfl) rfl), iniX11, nmhX11, by decide +kernel, by decide⟩
theorem jX11_laysTight : IOK mX11_laysTight := ⟨(inT8 (List.mem_of_getElem? (i := 157) rfl) rfl), inP7 (List.mem_of_getElem? (i := 14) rfl)⟩
theorem oX11_tight : MOK mX11_tight 0 := ⟨(inT8 (List.mem_of_getElem? (i := 154) rfl) rfl), iniX11, nmhX11, by decide +kernel, by decide⟩
theorem jX11_tight : IOK mX11_tight := ⟨(inT8 (List.mem_of_getElem? (i := 152) rfl) rfl), (inT8 (List.mem_of_getElem? (i := 153) rfl) rfl)⟩
theorem oX11_tightWays : MOK mX11_tightWays 0 := ⟨(inT8 (List.mem_of_getElem? (i := 172) rfl) rfl), iniX11, nmhX11, by decide +kernel, by decide⟩
theorem jX11_tightWays : IOK mX11_tightWays := ⟨(inT8 (List.mem_of_getElem? (i := 170) rfl) rfl), (inT8 (List.mem_of_getElem? (i := 171) rfl) rfl)⟩
theorem oX11_rounds : MOK mX11_rounds 0 := ⟨(inT8 (List.mem_of_getElem? (i := 176) rfl) rfl), iniX11, nmhX11, by decide +kernel, by decide⟩
theorem jX11_rounds : IOK mX11_rounds := ⟨(inT8 (List.mem_of_getElem? (i := 174) rfl) rfl), (inT8 (List.mem_of_getElem? (i := 175) rfl) rfl)⟩
theorem oX11_still : MOK mX11_still 0 := ⟨(inT8 (List.mem_of_getElem? (i := 180) rfl) rfl), iniX11, nmhX11, by decide +kernel, by decide⟩
theorem jX11_still : IOK mX11_still := ⟨(inT8 (List.mem_of_getElem? (i := 178) rfl) rfl), (inT8 (List.mem_of_getElem? (i := 179) rfl) rfl)⟩
theorem oX11_clash : MOK mX11_clash 0 := ⟨(inT8 (List.mem_of_getElem? (i := 184) rfl) rfl), iniX11, nmhX11, by decide +kernel, by decide⟩
theorem jX11_clash : IOK mX11_clash := ⟨(inT8 (List.mem_of_getElem? (i := 182) rfl) rfl), (inT8 (List.mem_of_getElem? (i := 183) rfl) rfl)⟩
theorem oX11_leastWide : MOK mX11_leastWide 0 := ⟨(inT8 (List.mem_of_getElem? (i := 188) rfl) rfl), iniX11, nmhX11, by decide +kernel, by decide⟩
theorem jX11_leastWide : IOK mX11_leastWide := ⟨(inT8 (List.mem_of_getElem? (i := 186) rfl) rfl), (inT8 (List.mem_of_getElem? (i := 187) rfl) rfl)⟩
theorem oX11_bestX : MOK mX11_bestX 1 := ⟨(inT8 (List.mem_of_getElem? (i := 196) rfl) rfl), iniX11, nmhX11, by decide +kernel, by decide⟩
theorem jX11_bestX : IOK mX11_bestX := ⟨(inT8 (List.mem_of_getElem? (i := 194) rfl) rfl), (inT8 (List.mem_of_getElem? (i := 195) rfl) rfl)⟩
theorem oX11_costs : MOK mX11_costs 0 := ⟨(inT8 (List.mem_of_getElem? (i := 200) rfl) rfl), iniX11, nmhX11, by decide +kernel, by decide⟩
theorem jX11_costs : IOK mX11_costs := ⟨(inT8 (List.mem_of_getElem? (i := 198) rfl) rfl), (inT8 (List.mem_of_getElem? (i := 199) rfl) rfl)⟩
theorem oX11_pushes : MOK mX11_pushes 1 := ⟨(inT8 (List.mem_of_getElem? (i := 204) rfl) rfl), iniX11, nmhX11, by decide +kernel, by decide⟩
theorem jX11_pushes : IOK mX11_pushes := ⟨(inT8 (List.mem_of_getElem? (i := 202) rfl) rfl), (inT8 (List.mem_of_getElem? (i := 203) rfl) rfl)⟩
theorem oX11_noSeen : MOK mX11_noSeen 1 := ⟨(inT8 (List.mem_of_getElem? (i := 212) rfl) rfl), iniX11, nmhX11, by decide +kernel, by decide⟩
theorem jX11_noSeen : IOK mX11_noSeen := ⟨(inT8 (List.mem_of_getElem? (i := 211) rfl) rfl), inP8 (List.mem_of_getElem? (i := 2) rfl)⟩
theorem oX11_inksOf : MOK mX11_inksOf 1 := ⟨(inT8 (List.mem_of_getElem? (i := 217) rfl) rfl), iniX11, nmhX11, by decide +kernel, by decide⟩
theorem jX11_inksOf : IOK mX11_inksOf := ⟨(inT8 (List.mem_of_getElem? (i := 216) rfl) rfl), inP8 (List.mem_of_getElem? (i := 3) rfl)⟩
theorem oX11_inks : MOK mX11_inks 1 := ⟨(inT8 (List.mem_of_getElem? (i := 208) rfl) rfl), iniX11, nmhX11, by decide +kernel, by decide⟩
theorem jX11_inks : IOK mX11_inks := ⟨(inT8 (List.mem_of_getElem? (i := 206) rfl) rfl), (inT8 (List.mem_of_getElem? (i := 207) rfl) rfl)⟩
theorem oX11_mostAlike : MOK mX11_mostAlike 2 := ⟨(inT8 (List.mem_of_getElem? (i := 225) rfl) rfl), iniX11, nmhX11, by decide +kernel, by decide⟩
theorem jX11_mostAlike : IOK mX11_mostAlike := ⟨(inT8 (List.mem_of_getElem? (i := 224) rfl) rfl), inP8 (List.mem_of_getElem? (i := 4) rfl)⟩
theorem oX11_measure : MOK mX11_measure 1 := ⟨(inT8 (List.mem_of_getElem? (i := 221) rfl) rfl), iniX11, nmhX11, by decide +kernel, by decide⟩
theorem jX11_measure : IOK mX11_measure := ⟨(inT8 (List.mem_of_getElem? (i := 219) rfl) rfl), (inT8 (List.mem_of_getElem? (i := 220) rfl) rfl)⟩
theorem oX11_goesLots : MOK mX11_goesLots 3 := ⟨(inT8 (List.mem_of_getElem? (i := 237) rfl) rfl), iniX11, nmhX11, by decide +kernel, by decide⟩
theorem jX11_goesLots : IOK mX11_goesLots := ⟨(inT8 (List.mem_of_getElem? (i := 236) rfl) rfl), inP8 (List.mem_of_getElem? (i := 6) rfl)⟩
theorem oX11_wholeOf : MOK mX11_wholeOf 1 := ⟨(inT9 (List.mem_of_getElem? (i := 0) rfl) rfl), iniX11, nmhX11, by decide +kernel, by decide⟩
theorem jX11_wholeOf : Cond.static mX11_wholeOf.1 ∈ gT := (inT8 (List.mem_of_getElem? (i := 239) rfl) rfl)
theorem oX11_common : MOK mX11_common 2 := ⟨(inT9 (List.mem_of_getElem? (i := 3) rfl) rfl), iniX11, nmhX11, by decide +kernel, by decide⟩
theorem jX11_common : Cond.static mX11_common.1 ∈ gT := (inT9 (List.mem_of_getElem? (i := 2) rfl) rfl)
theorem oX11_part : MOK mX11_part 3 := ⟨(inT8 (List.mem_of_getElem? (i := 233) rfl) rfl), iniX11, nmhX11, by decide +kernel, by decide⟩
theorem jX11_part : IOK mX11_part := ⟨(inT8 (List.mem_of_getElem? (i := 232) rfl) rfl), inP8 (List.mem_of_getElem? (i := 5) rfl)⟩
theorem oX11_chance : MOK mX11_chance 2 := ⟨(inT8 (List.mem_of_getElem? (i := 229) rfl) rfl), iniX11, nmhX11, by decide +kernel, by decide⟩
theorem jX11_chance : IOK mX11_chance := ⟨(inT8 (List.mem_of_getElem? (i := 227) rfl) rfl), (inT8 (List.mem_of_getElem? (i := 228) rfl) rfl)⟩
theorem oX11_mean : MOK mX11_mean 2 := ⟨(inT9 (List.mem_of_getElem? (i := 7) rfl) rfl), iniX11, nmhX11, by decide +kernel, by decide⟩
theorem jX11_mean : IOK mX11_mean := ⟨(inT9 (List.mem_of_getElem? (i := 5) rfl) rfl), (inT9 (List.mem_of_getElem? (i := 6) rfl) rfl)⟩
theorem oX11_drawer : MOK mX11_drawer 2 := ⟨(inT9 (List.mem_of_getElem? (i := 11) rfl) rfl), iniX11, nmhX11, by decide +kernel, by decide⟩
theorem jX11_drawer : IOK mX11_drawer := ⟨(inT9 (List.mem_of_getElem? (i := 9) rfl) rfl), (inT9 (List.mem_of_getElem? (i := 10) rfl) rfl)⟩
theorem oX11_keep : MOK mX11_keep 2 := ⟨(inT9 (List.mem_of_getElem? (i := 15) rfl) rfl), iniX11, nmhX11, by decide +kernel, by decide⟩
theorem jX11_keep : IOK mX11_keep := ⟨(inT9 (List.mem_of_getElem? (i := 13) rfl) rfl), (inT9 (List.mem_of_getElem? (i := 14) rfl) rfl)⟩
theorem oX11_kept : MOK mX11_kept 2 := ⟨(inT9 (List.mem_of_getElem? (i := 19) rfl) rfl), iniX11, nmhX11, by decide +kernel, by decide⟩
theorem jX11_kept : IOK mX11_kept := ⟨(inT9 (List.mem_of_getElem? (i := 17) rfl) rfl), (inT9 (List.mem_of_getElem? (i := 18) rfl) rfl)⟩
theorem oX11_cut : MOK mX11_cut 2 := ⟨(inT9 (List.mem_of_getElem? (i := 31) rfl) rfl), iniX11, nmhX11, by decide +kernel, by decide⟩
theorem jX11_cut : Cond.static mX11_cut.1 ∈ gT := (inT9 (List.mem_of_getElem? (i := 30) rfl) rfl)
theorem oX11_numbers : MOK mX11_numbers 3 := ⟨(inT9 (List.mem_of_getElem? (i := 23) rfl) rfl), iniX11, nmhX11, by decide +kernel, by decide⟩
theorem jX11_numbers : IOK mX11_numbers := ⟨(inT9 (List.mem_of_getElem? (i := 21) rfl) rfl), (inT9 (List.mem_of_getElem? (i := 22) rfl) rfl)⟩
theorem oX11_write : MOK mX11_write 3 := ⟨(inT9 (List.mem_of_getElem? (i := 27) rfl) rfl), iniX11, nmhX11, by decide +kernel, by decide⟩
theorem jX11_write : IOK mX11_write := ⟨(inT9 (List.mem_of_getElem? (i := 25) rfl) rfl), (inT9 (List.mem_of_getElem? (i := 26) rfl) rfl)⟩
theorem oX11_lists : MOK mX11_lists 1 := ⟨(inT9 (List.mem_of_getElem? (i := 35) rfl) rfl), iniX11, nmhX11, by decide +kernel, by decide⟩
theorem jX11_lists : IOK mX11_lists := ⟨(inT9 (List.mem_of_getElem? (i := 33) rfl) rfl), (inT9 (List.mem_of_getElem? (i := 34) rfl) rfl)⟩
theorem oX11_image : MOK mX11_image 1 := ⟨(inT9 (List.mem_of_getElem? (i := 39) rfl) rfl), iniX11, nmhX11, by decide +kernel, by decide⟩
theorem jX11_image : IOK mX11_image := ⟨(inT9 (List.mem_of_getElem? (i := 37) rfl) rfl), (inT9 (List.mem_of_getElem? (i := 38) rfl) rfl)⟩
theorem oX11_restore : MOK mX11_restore 1 := ⟨(inT9 (List.mem_of_getElem? (i := 43) rfl) rfl), iniX11, nmhX11, by decide +kernel, by decide⟩
theorem jX11_restore : IOK mX11_restore := ⟨(inT9 (List.mem_of_getElem? (i := 41) rfl) rfl), (inT9 (List.mem_of_getElem? (i := 42) rfl) rfl)⟩
theorem oX11_tiedSet : MOK mX11_tiedSet 0 := ⟨(inT9 (List.mem_of_getElem? (i := 51) rfl) rfl), iniX11, nmhX11, by decide +kernel, by decide⟩
theorem jX11_tiedSet : IOK mX11_tiedSet := ⟨(inT9 (List.mem_of_getElem? (i := 50) rfl) rfl), inP8 (List.mem_of_getElem? (i := 7) rfl)⟩
theorem oX11_count : MOK mX11_count 1 := ⟨(inT9 (List.mem_of_getElem? (i := 47) rfl) rfl), iniX11, nmhX11, by decide +kernel, by decide⟩
theorem jX11_count : IOK mX11_count := ⟨(inT9 (List.mem_of_getElem? (i := 45) rfl) rfl), (inT9 (List.mem_of_getElem? (i := 46) rfl) rfl)⟩
theorem oJ6_bitCount_0f7a4 : MOK mJ6_bitCount_0f7a4 1 := ⟨(inT5 (List.mem_of_getElem? (i := 166) rfl) rfl), iniJ6, nmhJ6, by decide +kernel, by decide⟩
theorem jJ6_bitCount_0f7a4 : Cond.static mJ6_bitCount_0f7a4.1 ∈ gT := (inT5 (List.mem_of_getElem? (i := 165) rfl) rfl)
theorem oJ9_floorMod_7cf53 : MOK mJ9_floorMod_7cf53 2 := ⟨(inT5 (List.mem_of_getElem? (i := 24) rfl) rfl), iniJ9, nmhJ9, by decide +kernel, by decide⟩
theorem jJ9_floorMod_7cf53 : Cond.static mJ9_floorMod_7cf53.1 ∈ gT := (inT5 (List.mem_of_getElem? (i := 23) rfl) rfl)
theorem oJ9_max_7cf53 : MOK mJ9_max_7cf53 2 := ⟨(inT3 (List.mem_of_getElem? (i := 71) rfl) rfl), iniJ9, nmhJ9, by decide +kernel, by decide⟩
theorem jJ9_max_7cf53 : Cond.static mJ9_max_7cf53.1 ∈ gT := (inT3 (List.mem_of_getElem? (i := 70) rfl) rfl)
theorem oJ9_max_f86c9 : MOK mJ9_max_f86c9 2 := ⟨(inT4 (List.mem_of_getElem? (i := 71) rfl) rfl), iniJ9, nmhJ9, by decide +kernel, by decide⟩
theorem jJ9_max_f86c9 : Cond.static mJ9_max_f86c9.1 ∈ gT := (inT4 (List.mem_of_getElem? (i := 70) rfl) rfl)
theorem oJ9_min_7cf53 : MOK mJ9_min_7cf53 2 := ⟨(inT3 (List.mem_of_getElem? (i := 74) rfl) rfl), iniJ9, nmhJ9, by decide +kernel, by decide⟩
theorem jJ9_min_7cf53 : Cond.static mJ9_min_7cf53.1 ∈ gT := (inT3 (List.mem_of_getElem? (i := 73) rfl) rfl)
theorem oJ9_min_f86c9 : MOK mJ9_min_f86c9 2 := ⟨(inT4 (List.mem_of_getElem? (i := 68) rfl) rfl), iniJ9, nmhJ9, by decide +kernel, by decide⟩
theorem jJ9_min_f86c9 : Cond.static mJ9_min_f86c9.1 ∈ gT := (inT4 (List.mem_of_getElem? (i := 67) rfl) rfl)
theorem oJ0_length_8abf5 : MOK mJ0_length_8abf5 0 := ⟨(inT3 (List.mem_of_getElem? (i := 58) rfl) rfl), iniJ0, nmhJ0, by decide +kernel, by decide⟩
theorem jJ0_length_8abf5 : IOK mJ0_length_8abf5 := ⟨(inT3 (List.mem_of_getElem? (i := 56) rfl) rfl), (inT3 (List.mem_of_getElem? (i := 57) rfl) rfl)⟩
theorem oJ0_charAt_5068e : MOK mJ0_charAt_5068e 1 := ⟨(inT3 (List.mem_of_getElem? (i := 144) rfl) rfl), iniJ0, nmhJ0, by decide +kernel, by decide⟩
theorem jJ0_charAt_5068e : IOK mJ0_charAt_5068e := ⟨(inT3 (List.mem_of_getElem? (i := 142) rfl) rfl), (inT3 (List.mem_of_getElem? (i := 143) rfl) rfl)⟩
theorem oJ0_indexOf_0f7a4 : MOK mJ0_indexOf_0f7a4 1 := ⟨(inT3 (List.mem_of_getElem? (i := 44) rfl) rfl), iniJ0, nmhJ0, by decide +kernel, by decide⟩
theorem jJ0_indexOf_0f7a4 : IOK mJ0_indexOf_0f7a4 := ⟨(inT3 (List.mem_of_getElem? (i := 42) rfl) rfl), (inT3 (List.mem_of_getElem? (i := 43) rfl) rfl)⟩
theorem oJ0_indexOf_7cf53 : MOK mJ0_indexOf_7cf53 2 := ⟨(inT3 (List.mem_of_getElem? (i := 48) rfl) rfl), iniJ0, nmhJ0, by decide +kernel, by decide⟩
theorem jJ0_indexOf_7cf53 : IOK mJ0_indexOf_7cf53 := ⟨(inT3 (List.mem_of_getElem? (i := 46) rfl) rfl), (inT3 (List.mem_of_getElem? (i := 47) rfl) rfl)⟩
theorem oJ0_coder_7d493 : MOK mJ0_coder_7d493 0 := ⟨(inT3 (List.mem_of_getElem? (i := 62) rfl) rfl), iniJ0, nmhJ0, by decide +kernel, by decide⟩
theorem jJ0_coder_7d493 : IOK mJ0_coder_7d493 := ⟨(inT3 (List.mem_of_getElem? (i := 60) rfl) rfl), (inT3 (List.mem_of_getElem? (i := 61) rfl) rfl)⟩
theorem oJ0_isLatin1_aae02 : MOK mJ0_isLatin1_aae02 0 := ⟨(inT3 (List.mem_of_getElem? (i := 52) rfl) rfl), iniJ0, nmhJ0, by decide +kernel, by decide⟩
theorem jJ0_isLatin1_aae02 : IOK mJ0_isLatin1_aae02 := ⟨(inT3 (List.mem_of_getElem? (i := 50) rfl) rfl), (inT3 (List.mem_of_getElem? (i := 51) rfl) rfl)⟩
theorem oJ0_checkIndex_df160 : MOK mJ0_checkIndex_df160 2 := ⟨(inT3 (List.mem_of_getElem? (i := 150) rfl) rfl), iniJ0, nmhJ0, by decide +kernel, by decide⟩
theorem jJ0_checkIndex_df160 : Cond.static mJ0_checkIndex_df160.1 ∈ gT := (inT3 (List.mem_of_getElem? (i := 149) rfl) rfl)
theorem oJ1_charAt_3b067 : MOK mJ1_charAt_3b067 2 := ⟨(inT3 (List.mem_of_getElem? (i := 147) rfl) rfl), iniJ1, nmhJ1, by decide +kernel, by decide⟩
theorem jJ1_charAt_3b067 : Cond.static mJ1_charAt_3b067.1 ∈ gT := (inT3 (List.mem_of_getElem? (i := 146) rfl) rfl)
theorem oJ1_canEncode_9a6ad : MOK mJ1_canEncode_9a6ad 1 := ⟨(inT3 (List.mem_of_getElem? (i := 68) rfl) rfl), iniJ1, nmhJ1, by decide +kernel, by decide⟩
theorem jJ1_canEncode_9a6ad : Cond.static mJ1_canEncode_9a6ad.1 ∈ gT := (inT3 (List.mem_of_getElem? (i := 67) rfl) rfl)
theorem oJ1_indexOf_4cfef : MOK mJ1_indexOf_4cfef 4 := ⟨(inT3 (List.mem_of_getElem? (i := 65) rfl) rfl), iniJ1, nmhJ1, by decide +kernel, by decide⟩
theorem jJ1_indexOf_4cfef : Cond.static mJ1_indexOf_4cfef.1 ∈ gT := (inT3 (List.mem_of_getElem? (i := 64) rfl) rfl)
theorem oJ1_indexOfChar_4cfef : MOK mJ1_indexOfChar_4cfef 4 := ⟨(inT3 (List.mem_of_getElem? (i := 77) rfl) rfl), iniJ1, nmhJ1, by decide +kernel, by decide⟩
theorem jJ1_indexOfChar_4cfef : Cond.static mJ1_indexOfChar_4cfef.1 ∈ gT := (inT3 (List.mem_of_getElem? (i := 76) rfl) rfl)
theorem oJ7_fill_d0a16 : MOK mJ7_fill_d0a16 2 := ⟨(inT5 (List.mem_of_getElem? (i := 127) rfl) rfl), iniJ7, nmhJ7, by decide +kernel, by decide⟩
theorem jJ7_fill_d0a16 : Cond.static mJ7_fill_d0a16.1 ∈ gT := (inT5 (List.mem_of_getElem? (i := 126) rfl) rfl)
theorem oJ7_fill_53178 : MOK mJ7_fill_53178 2 := ⟨(inT1 (List.mem_of_getElem? (i := 39) rfl) rfl), iniJ7, nmhJ7, by decide +kernel, by decide⟩
theorem jJ7_fill_53178 : Cond.static mJ7_fill_53178.1 ∈ gT := (inT1 (List.mem_of_getElem? (i := 38) rfl) rfl)
theorem oJ3_checkIndex_8e157 : MOK mJ3_checkIndex_8e157 3 := ⟨(inT3 (List.mem_of_getElem? (i := 153) rfl) rfl), iniJ3, nmhJ3, by decide +kernel, by decide⟩
theorem jJ3_checkIndex_8e157 : Cond.static mJ3_checkIndex_8e157.1 ∈ gT := (inT3 (List.mem_of_getElem? (i := 152) rfl) rfl)
theorem fX10_9 {M : MD} (hM : M.1.cls = RX10) : FL M 9 10 0 := ⟨(RX10, TX10, 19), rfl, by decide, by rw [hM]; exact (inT2 (List.mem_of_getElem? (i := 187) rfl) rfl), rfl⟩
theorem fX10_13 {M : MD} (hM : M.1.cls = RX10) : FL M 13 10 1 := ⟨(RX10, TX10, 19), rfl, by decide, by rw [hM]; exact (inT2 (List.mem_of_getElem? (i := 188) rfl) rfl), rfl⟩
theorem fX10_19 {M : MD} (hM : M.1.cls = RX10) : FL M 19 10 3 := ⟨(RX10, TX10, 19), rfl, by decide, by rw [hM]; exact (inT2 (List.mem_of_getElem? (i := 190) rfl) rfl), rfl⟩
theorem fX10_23 {M : MD} (hM : M.1.cls = RX10) : FL M 23 10 4 := ⟨(RX10, TX10, 19), rfl, by decide, by rw [hM]; exact (inT2 (List.mem_of_getElem? (i := 191) rfl) rfl), rfl⟩
theorem fX10_29 {M : MD} (hM : M.1.cls = RX10) : FL M 29 10 5 := ⟨(RX10, TX10, 19), rfl, by decide, by rw [hM]; exact (inT2 (List.mem_of_getElem? (i := 192) rfl) rfl), rfl⟩
theorem fX10_33 {M : MD} (hM : M.1.cls = RX10) : FL M 33 10 6 := ⟨(RX10, TX10, 19), rfl, by decide, by rw [hM]; exact (inT2 (List.mem_of_getElem? (i := 193) rfl) rfl), rfl⟩
theorem fX10_39 {M : MD} (hM : M.1.cls = RX10) : FL M 39 10 7 := ⟨(RX10, TX10, 19), rfl, by decide, by rw [hM]; exact (inT2 (List.mem_of_getElem? (i := 194) rfl) rfl), rfl⟩
theorem fX10_43 {M : MD} (hM : M.1.cls = RX10) : FL M 43 10 8 := ⟨(RX10, TX10, 19), rfl, by decide, by rw [hM]; exact (inT2 (List.mem_of_getElem? (i := 195) rfl) rfl), rfl⟩
theorem fX10_47 {M : MD} (hM : M.1.cls = RX10) : FL M 47 10 9 := ⟨(RX10, TX10, 19), rfl, by decide, by rw [hM]; exact (inT2 (List.mem_of_getElem? (i := 196) rfl) rfl), rfl⟩
theorem fX10_51 {M : MD} (hM : M.1.cls = RX10) : FL M 51 10 12 := ⟨(RX10, TX10, 19), rfl, by decide, by rw [hM]; exact (inT2 (List.mem_of_getElem? (i := 199) rfl) rfl), rfl⟩
theorem fX10_58 {M : MD} (hM : M.1.cls = RX10) : FL M 58 10 13 := ⟨(RX10, TX10, 19), rfl, by decide, by rw [hM]; exact (inT2 (List.mem_of_getElem? (i := 200) rfl) rfl), rfl⟩
theorem fX10_65 {M : MD} (hM : M.1.cls = RX10) : FL M 65 10 14 := ⟨(RX10, TX10, 19), rfl, by decide, by rw [hM]; exact (inT2 (List.mem_of_getElem? (i := 201) rfl) rfl), rfl⟩
theorem fX10_72 {M : MD} (hM : M.1.cls = RX10) : FL M 72 10 15 := ⟨(RX10, TX10, 19), rfl, by decide, by rw [hM]; exact (inT2 (List.mem_of_getElem? (i := 202) rfl) rfl), rfl⟩
theorem fX10_76 {M : MD} (hM : M.1.cls = RX10) : FL M 76 10 16 := ⟨(RX10, TX10, 19), rfl, by decide, by rw [hM]; exact (inT2 (List.mem_of_getElem? (i := 203) rfl) rfl), rfl⟩
theorem fX10_79 {M : MD} (hM : M.1.cls = RX10) : FL M 79 10 17 := ⟨(RX10, TX10, 19), rfl, by decide, by rw [hM]; exact (inT2 (List.mem_of_getElem? (i := 204) rfl) rfl), rfl⟩
theorem fX10_82 {M : MD} (hM : M.1.cls = RX10) : FL M 82 10 18 := ⟨(RX10, TX10, 19), rfl, by decide, by rw [hM]; exact (inT2 (List.mem_of_getElem? (i := 205) rfl) rfl), rfl⟩
theorem fX10_91 {M : MD} (hM : M.1.cls = RX10) : FL M 91 10 2 := ⟨(RX10, TX10, 19), rfl, by decide, by rw [hM]; exact (inT2 (List.mem_of_getElem? (i := 189) rfl) rfl), rfl⟩
theorem fX10_100 {M : MD} (hM : M.1.cls = RX10) : FL M 100 10 10 := ⟨(RX10, TX10, 19), rfl, by decide, by rw [hM]; exact (inT2 (List.mem_of_getElem? (i := 197) rfl) rfl), rfl⟩
theorem fX10_104 {M : MD} (hM : M.1.cls = RX10) : FL M 104 10 11 := ⟨(RX10, TX10, 19), rfl, by decide, by rw [hM]; exact (inT2 (List.mem_of_getElem? (i := 198) rfl) rfl), rfl⟩
theorem fX10_119 {M : MD} (hM : M.1.cls = RX10) : FL M 119 5 8 := ⟨(RX5, TX5, 10), rfl, by decide, by rw [hM]; exact (inT2 (List.mem_of_getElem? (i := 58) rfl) rfl), rfl⟩
theorem fX10_122 {M : MD} (hM : M.1.cls = RX10) : FL M 122 3 12 := ⟨(RX3, TX3, 19), rfl, by decide, by rw [hM]; exact (inT1 (List.mem_of_getElem? (i := 234) rfl) rfl), rfl⟩
theorem fX10_129 {M : MD} (hM : M.1.cls = RX10) : FL M 129 3 4 := ⟨(RX3, TX3, 19), rfl, by decide, by rw [hM]; exact (inT1 (List.mem_of_getElem? (i := 209) rfl) rfl), rfl⟩
theorem fX10_132 {M : MD} (hM : M.1.cls = RX10) : FL M 132 5 9 := ⟨(RX5, TX5, 10), rfl, by decide, by rw [hM]; exact (inT2 (List.mem_of_getElem? (i := 60) rfl) rfl), rfl⟩
theorem fX10_139 {M : MD} (hM : M.1.cls = RX10) : FL M 139 3 0 := ⟨(RX3, TX3, 19), rfl, by decide, by rw [hM]; exact (inT1 (List.mem_of_getElem? (i := 193) rfl) rfl), rfl⟩
theorem fX10_142 {M : MD} (hM : M.1.cls = RX10) : FL M 142 3 1 := ⟨(RX3, TX3, 19), rfl, by decide, by rw [hM]; exact (inT1 (List.mem_of_getElem? (i := 197) rfl) rfl), rfl⟩
theorem fX10_145 {M : MD} (hM : M.1.cls = RX10) : FL M 145 3 2 := ⟨(RX3, TX3, 19), rfl, by decide, by rw [hM]; exact (inT1 (List.mem_of_getElem? (i := 200) rfl) rfl), rfl⟩
theorem fX10_148 {M : MD} (hM : M.1.cls = RX10) : FL M 148 3 3 := ⟨(RX3, TX3, 19), rfl, by decide, by rw [hM]; exact (inT1 (List.mem_of_getElem? (i := 204) rfl) rfl), rfl⟩
theorem fX10_155 {M : MD} (hM : M.1.cls = RX10) : FL M 155 3 6 := ⟨(RX3, TX3, 19), rfl, by decide, by rw [hM]; exact (inT1 (List.mem_of_getElem? (i := 216) rfl) rfl), rfl⟩
theorem fX10_158 {M : MD} (hM : M.1.cls = RX10) : FL M 158 8 0 := ⟨(RX8, TX8, 5), rfl, by decide, by rw [hM]; exact (inT1 (List.mem_of_getElem? (i := 41) rfl) rfl), rfl⟩
theorem fX10_161 {M : MD} (hM : M.1.cls = RX10) : FL M 161 8 1 := ⟨(RX8, TX8, 5), rfl, by decide, by rw [hM]; exact (inT1 (List.mem_of_getElem? (i := 46) rfl) rfl), rfl⟩
theorem fX10_164 {M : MD} (hM : M.1.cls = RX10) : FL M 164 8 2 := ⟨(RX8, TX8, 5), rfl, by decide, by rw [hM]; exact (inT1 (List.mem_of_getElem? (i := 50) rfl) rfl), rfl⟩
theorem fX10_171 {M : MD} (hM : M.1.cls = RX10) : FL M 171 6 6 := ⟨(RX6, TX6, 13), rfl, by decide, by rw [hM]; exact (inT2 (List.mem_of_getElem? (i := 150) rfl) rfl), rfl⟩
theorem fX10_177 {M : MD} (hM : M.1.cls = RX10) : FL M 177 3 10 := ⟨(RX3, TX3, 19), rfl, by decide, by rw [hM]; exact (inT1 (List.mem_of_getElem? (i := 229) rfl) rfl), rfl⟩
theorem fX10_202 {M : MD} (hM : M.1.cls = RX10) : FL M 202 6 3 := ⟨(RX6, TX6, 13), rfl, by decide, by rw [hM]; exact (inT2 (List.mem_of_getElem? (i := 144) rfl) rfl), rfl⟩
theorem fX10_211 {M : MD} (hM : M.1.cls = RX10) : FL M 211 7 5 := ⟨(RX7, TX7, 10), rfl, by decide, by rw [hM]; exact (inT2 (List.mem_of_getElem? (i := 112) rfl) rfl), rfl⟩
theorem fX10_214 {M : MD} (hM : M.1.cls = RX10) : FL M 214 7 1 := ⟨(RX7, TX7, 10), rfl, by decide, by rw [hM]; exact (inT2 (List.mem_of_getElem? (i := 99) rfl) rfl), rfl⟩
theorem fX10_217 {M : MD} (hM : M.1.cls = RX10) : FL M 217 7 2 := ⟨(RX7, TX7, 10), rfl, by decide, by rw [hM]; exact (inT2 (List.mem_of_getElem? (i := 102) rfl) rfl), rfl⟩
theorem fX10_220 {M : MD} (hM : M.1.cls = RX10) : FL M 220 7 3 := ⟨(RX7, TX7, 10), rfl, by decide, by rw [hM]; exact (inT2 (List.mem_of_getElem? (i := 104) rfl) rfl), rfl⟩
theorem fX10_223 {M : MD} (hM : M.1.cls = RX10) : FL M 223 6 4 := ⟨(RX6, TX6, 13), rfl, by decide, by rw [hM]; exact (inT2 (List.mem_of_getElem? (i := 146) rfl) rfl), rfl⟩
theorem fX10_226 {M : MD} (hM : M.1.cls = RX10) : FL M 226 7 0 := ⟨(RX7, TX7, 10), rfl, by decide, by rw [hM]; exact (inT2 (List.mem_of_getElem? (i := 95) rfl) rfl), rfl⟩
theorem fX10_229 {M : MD} (hM : M.1.cls = RX10) : FL M 229 6 5 := ⟨(RX6, TX6, 13), rfl, by decide, by rw [hM]; exact (inT2 (List.mem_of_getElem? (i := 148) rfl) rfl), rfl⟩
theorem fX10_254 {M : MD} (hM : M.1.cls = RX10) : FL M 254 8 4 := ⟨(RX8, TX8, 5), rfl, by decide, by rw [hM]; exact (inT1 (List.mem_of_getElem? (i := 57) rfl) rfl), rfl⟩
theorem fX10_257 {M : MD} (hM : M.1.cls = RX10) : FL M 257 4 2 := ⟨(RX4, TX4, 3), rfl, by decide, by rw [hM]; exact (inT1 (List.mem_of_getElem? (i := 83) rfl) rfl), rfl⟩
theorem fX10_266 {M : MD} (hM : M.1.cls = RX10) : FL M 266 9 2 := ⟨(RX9, TX9, 3), rfl, by decide, by rw [hM]; exact (inT1 (List.mem_of_getElem? (i := 126) rfl) rfl), rfl⟩
theorem fX10_283 {M : MD} (hM : M.1.cls = RX10) : FL M 283 6 9 := ⟨(RX6, TX6, 13), rfl, by decide, by rw [hM]; exact (inT2 (List.mem_of_getElem? (i := 154) rfl) rfl), rfl⟩
theorem fX10_295 {M : MD} (hM : M.1.cls = RX10) : FL M 295 3 9 := ⟨(RX3, TX3, 19), rfl, by decide, by rw [hM]; exact (inT1 (List.mem_of_getElem? (i := 227) rfl) rfl), rfl⟩
theorem fX10_311 {M : MD} (hM : M.1.cls = RX10) : FL M 311 0 3 := ⟨(RX0, TX0, 5), rfl, by decide, by rw [hM]; exact (inT1 (List.mem_of_getElem? (i := 101) rfl) rfl), rfl⟩
theorem fX10_314 {M : MD} (hM : M.1.cls = RX10) : FL M 314 0 4 := ⟨(RX0, TX0, 5), rfl, by decide, by rw [hM]; exact (inT1 (List.mem_of_getElem? (i := 103) rfl) rfl), rfl⟩
theorem fX10_318 {M : MD} (hM : M.1.cls = RX10) : FL M 318 6 10 := ⟨(RX6, TX6, 13), rfl, by decide, by rw [hM]; exact (inT2 (List.mem_of_getElem? (i := 156) rfl) rfl), rfl⟩
theorem fX10_321 {M : MD} (hM : M.1.cls = RX10) : FL M 321 6 11 := ⟨(RX6, TX6, 13), rfl, by decide, by rw [hM]; exact (inT2 (List.mem_of_getElem? (i := 158) rfl) rfl), rfl⟩
theorem fX10_327 {M : MD} (hM : M.1.cls = RX10) : FL M 327 8 3 := ⟨(RX8, TX8, 5), rfl, by decide, by rw [hM]; exact (inT1 (List.mem_of_getElem? (i := 53) rfl) rfl), rfl⟩
theorem fX10_343 {M : MD} (hM : M.1.cls = RX10) : FL M 343 3 5 := ⟨(RX3, TX3, 19), rfl, by decide, by rw [hM]; exact (inT1 (List.mem_of_getElem? (i := 214) rfl) rfl), rfl⟩
theorem fX10_369 {M : MD} (hM : M.1.cls = RX10) : FL M 369 1 0 := ⟨(RX1, TX1, 4), rfl, by decide, by rw [hM]; exact (inT1 (List.mem_of_getElem? (i := 141) rfl) rfl), rfl⟩
theorem fX10_371 {M : MD} (hM : M.1.cls = RX10) : FL M 371 1 2 := ⟨(RX1, TX1, 4), rfl, by decide, by rw [hM]; exact (inT1 (List.mem_of_getElem? (i := 144) rfl) rfl), rfl⟩
theorem fX10_372 {M : MD} (hM : M.1.cls = RX10) : FL M 372 1 3 := ⟨(RX1, TX1, 4), rfl, by decide, by rw [hM]; exact (inT1 (List.mem_of_getElem? (i := 146) rfl) rfl), rfl⟩
theorem fX10_390 {M : MD} (hM : M.1.cls = RX10) : FL M 390 7 4 := ⟨(RX7, TX7, 10), rfl, by decide, by rw [hM]; exact (inT2 (List.mem_of_getElem? (i := 109) rfl) rfl), rfl⟩
theorem fX0_11 {M : MD} (hM : M.1.cls = RX0) : FL M 11 0 0 := ⟨(RX0, TX0, 5), rfl, by decide, by rw [hM]; exact (inT1 (List.mem_of_getElem? (i := 97) rfl) rfl), rfl⟩
theorem fX0_17 {M : MD} (hM : M.1.cls = RX0) : FL M 17 0 1 := ⟨(RX0, TX0, 5), rfl, by decide, by rw [hM]; exact (inT1 (List.mem_of_getElem? (i := 98) rfl) rfl), rfl⟩
theorem fX0_20 {M : MD} (hM : M.1.cls = RX0) : FL M 20 0 2 := ⟨(RX0, TX0, 5), rfl, by decide, by rw [hM]; exact (inT1 (List.mem_of_getElem? (i := 99) rfl) rfl), rfl⟩
theorem fX0_24 {M : MD} (hM : M.1.cls = RX0) : FL M 24 0 3 := ⟨(RX0, TX0, 5), rfl, by decide, by rw [hM]; exact (inT1 (List.mem_of_getElem? (i := 100) rfl) rfl), rfl⟩
theorem fX0_28 {M : MD} (hM : M.1.cls = RX0) : FL M 28 0 4 := ⟨(RX0, TX0, 5), rfl, by decide, by rw [hM]; exact (inT1 (List.mem_of_getElem? (i := 102) rfl) rfl), rfl⟩
theorem fX0_48 {M : MD} (hM : M.1.cls = RX0) : FL M 48 6 3 := ⟨(RX6, TX6, 13), rfl, by decide, by rw [hM]; exact (inT2 (List.mem_of_getElem? (i := 143) rfl) rfl), rfl⟩
theorem fX0_52 {M : MD} (hM : M.1.cls = RX0) : FL M 52 7 4 := ⟨(RX7, TX7, 10), rfl, by decide, by rw [hM]; exact (inT2 (List.mem_of_getElem? (i := 107) rfl) rfl), rfl⟩
theorem fX1_9 {M : MD} (hM : M.1.cls = RX1) : FL M 9 1 0 := ⟨(RX1, TX1, 4), rfl, by decide, by rw [hM]; exact (inT1 (List.mem_of_getElem? (i := 140) rfl) rfl), rfl⟩
theorem fX1_15 {M : MD} (hM : M.1.cls = RX1) : FL M 15 1 1 := ⟨(RX1, TX1, 4), rfl, by decide, by rw [hM]; exact (inT1 (List.mem_of_getElem? (i := 142) rfl) rfl), rfl⟩
theorem fX1_18 {M : MD} (hM : M.1.cls = RX1) : FL M 18 1 2 := ⟨(RX1, TX1, 4), rfl, by decide, by rw [hM]; exact (inT1 (List.mem_of_getElem? (i := 143) rfl) rfl), rfl⟩
theorem fX1_22 {M : MD} (hM : M.1.cls = RX1) : FL M 22 1 3 := ⟨(RX1, TX1, 4), rfl, by decide, by rw [hM]; exact (inT1 (List.mem_of_getElem? (i := 145) rfl) rfl), rfl⟩
theorem fX2_9 {M : MD} (hM : M.1.cls = RX2) : FL M 9 2 0 := ⟨(RX2, TX2, 4), rfl, by decide, by rw [hM]; exact (inT1 (List.mem_of_getElem? (i := 169) rfl) rfl), rfl⟩
theorem fX2_15 {M : MD} (hM : M.1.cls = RX2) : FL M 15 2 1 := ⟨(RX2, TX2, 4), rfl, by decide, by rw [hM]; exact (inT1 (List.mem_of_getElem? (i := 170) rfl) rfl), rfl⟩
theorem fX2_18 {M : MD} (hM : M.1.cls = RX2) : FL M 18 2 2 := ⟨(RX2, TX2, 4), rfl, by decide, by rw [hM]; exact (inT1 (List.mem_of_getElem? (i := 171) rfl) rfl), rfl⟩
theorem fX2_21 {M : MD} (hM : M.1.cls = RX2) : FL M 21 2 3 := ⟨(RX2, TX2, 4), rfl, by decide, by rw [hM]; exact (inT1 (List.mem_of_getElem? (i := 172) rfl) rfl), rfl⟩
theorem fX3_9 {M : MD} (hM : M.1.cls = RX3) : FL M 9 3 6 := ⟨(RX3, TX3, 19), rfl, by decide, by rw [hM]; exact (inT1 (List.mem_of_getElem? (i := 215) rfl) rfl), rfl⟩
theorem fX3_15 {M : MD} (hM : M.1.cls = RX3) : FL M 15 3 7 := ⟨(RX3, TX3, 19), rfl, by decide, by rw [hM]; exact (inT1 (List.mem_of_getElem? (i := 219) rfl) rfl), rfl⟩
theorem fX3_18 {M : MD} (hM : M.1.cls = RX3) : FL M 18 3 8 := ⟨(RX3, TX3, 19), rfl, by decide, by rw [hM]; exact (inT1 (List.mem_of_getElem? (i := 221) rfl) rfl), rfl⟩
theorem fX3_21 {M : MD} (hM : M.1.cls = RX3) : FL M 21 3 10 := ⟨(RX3, TX3, 19), rfl, by decide, by rw [hM]; exact (inT1 (List.mem_of_getElem? (i := 228) rfl) rfl), rfl⟩
theorem fX3_24 {M : MD} (hM : M.1.cls = RX3) : FL M 24 3 11 := ⟨(RX3, TX3, 19), rfl, by decide, by rw [hM]; exact (inT1 (List.mem_of_getElem? (i := 231) rfl) rfl), rfl⟩
theorem fX3_30 {M : MD} (hM : M.1.cls = RX3) : FL M 30 3 12 := ⟨(RX3, TX3, 19), rfl, by decide, by rw [hM]; exact (inT1 (List.mem_of_getElem? (i := 233) rfl) rfl), rfl⟩
theorem fX3_37 {M : MD} (hM : M.1.cls = RX3) : FL M 37 3 13 := ⟨(RX3, TX3, 19), rfl, by decide, by rw [hM]; exact (inT1 (List.mem_of_getElem? (i := 237) rfl) rfl), rfl⟩
theorem fX3_41 {M : MD} (hM : M.1.cls = RX3) : FL M 41 3 14 := ⟨(RX3, TX3, 19), rfl, by decide, by rw [hM]; exact (inT1 (List.mem_of_getElem? (i := 238) rfl) rfl), rfl⟩
theorem fX3_44 {M : MD} (hM : M.1.cls = RX3) : FL M 44 3 15 := ⟨(RX3, TX3, 19), rfl, by decide, by rw [hM]; exact (inT2 (List.mem_of_getElem? (i := 0) rfl) rfl), rfl⟩
theorem fX3_47 {M : MD} (hM : M.1.cls = RX3) : FL M 47 3 16 := ⟨(RX3, TX3, 19), rfl, by decide, by rw [hM]; exact (inT2 (List.mem_of_getElem? (i := 1) rfl) rfl), rfl⟩
theorem fX3_53 {M : MD} (hM : M.1.cls = RX3) : FL M 53 3 0 := ⟨(RX3, TX3, 19), rfl, by decide, by rw [hM]; exact (inT1 (List.mem_of_getElem? (i := 192) rfl) rfl), rfl⟩
theorem fX3_57 {M : MD} (hM : M.1.cls = RX3) : FL M 57 3 1 := ⟨(RX3, TX3, 19), rfl, by decide, by rw [hM]; exact (inT1 (List.mem_of_getElem? (i := 195) rfl) rfl), rfl⟩
theorem fX3_60 {M : MD} (hM : M.1.cls = RX3) : FL M 60 3 2 := ⟨(RX3, TX3, 19), rfl, by decide, by rw [hM]; exact (inT1 (List.mem_of_getElem? (i := 199) rfl) rfl), rfl⟩
theorem fX3_63 {M : MD} (hM : M.1.cls = RX3) : FL M 63 3 3 := ⟨(RX3, TX3, 19), rfl, by decide, by rw [hM]; exact (inT1 (List.mem_of_getElem? (i := 203) rfl) rfl), rfl⟩
theorem fX3_66 {M : MD} (hM : M.1.cls = RX3) : FL M 66 3 4 := ⟨(RX3, TX3, 19), rfl, by decide, by rw [hM]; exact (inT1 (List.mem_of_getElem? (i := 207) rfl) rfl), rfl⟩
theorem fX3_69 {M : MD} (hM : M.1.cls = RX3) : FL M 69 3 5 := ⟨(RX3, TX3, 19), rfl, by decide, by rw [hM]; exact (inT1 (List.mem_of_getElem? (i := 210) rfl) rfl), rfl⟩
theorem fX3_72 {M : MD} (hM : M.1.cls = RX3) : FL M 72 3 9 := ⟨(RX3, TX3, 19), rfl, by decide, by rw [hM]; exact (inT1 (List.mem_of_getElem? (i := 223) rfl) rfl), rfl⟩
theorem fX3_76 {M : MD} (hM : M.1.cls = RX3) : FL M 76 2 3 := ⟨(RX2, TX2, 4), rfl, by decide, by rw [hM]; exact (inT1 (List.mem_of_getElem? (i := 173) rfl) rfl), rfl⟩
theorem fX3_79 {M : MD} (hM : M.1.cls = RX3) : FL M 79 3 17 := ⟨(RX3, TX3, 19), rfl, by decide, by rw [hM]; exact (inT2 (List.mem_of_getElem? (i := 2) rfl) rfl), rfl⟩
theorem fX3_82 {M : MD} (hM : M.1.cls = RX3) : FL M 82 3 18 := ⟨(RX3, TX3, 19), rfl, by decide, by rw [hM]; exact (inT2 (List.mem_of_getElem? (i := 3) rfl) rfl), rfl⟩
theorem fX4_11 {M : MD} (hM : M.1.cls = RX4) : FL M 11 4 0 := ⟨(RX4, TX4, 3), rfl, by decide, by rw [hM]; exact (inT1 (List.mem_of_getElem? (i := 80) rfl) rfl), rfl⟩
theorem fX4_15 {M : MD} (hM : M.1.cls = RX4) : FL M 15 4 1 := ⟨(RX4, TX4, 3), rfl, by decide, by rw [hM]; exact (inT1 (List.mem_of_getElem? (i := 81) rfl) rfl), rfl⟩
theorem fX4_19 {M : MD} (hM : M.1.cls = RX4) : FL M 19 4 2 := ⟨(RX4, TX4, 3), rfl, by decide, by rw [hM]; exact (inT1 (List.mem_of_getElem? (i := 82) rfl) rfl), rfl⟩
theorem fX5_9 {M : MD} (hM : M.1.cls = RX5) : FL M 9 5 1 := ⟨(RX5, TX5, 10), rfl, by decide, by rw [hM]; exact (inT2 (List.mem_of_getElem? (i := 50) rfl) rfl), rfl⟩
theorem fX5_15 {M : MD} (hM : M.1.cls = RX5) : FL M 15 5 2 := ⟨(RX5, TX5, 10), rfl, by decide, by rw [hM]; exact (inT2 (List.mem_of_getElem? (i := 51) rfl) rfl), rfl⟩
theorem fX5_18 {M : MD} (hM : M.1.cls = RX5) : FL M 18 5 3 := ⟨(RX5, TX5, 10), rfl, by decide, by rw [hM]; exact (inT2 (List.mem_of_getElem? (i := 52) rfl) rfl), rfl⟩
theorem fX5_21 {M : MD} (hM : M.1.cls = RX5) : FL M 21 5 4 := ⟨(RX5, TX5, 10), rfl, by decide, by rw [hM]; exact (inT2 (List.mem_of_getElem? (i := 53) rfl) rfl), rfl⟩
theorem fX5_24 {M : MD} (hM : M.1.cls = RX5) : FL M 24 5 5 := ⟨(RX5, TX5, 10), rfl, by decide, by rw [hM]; exact (inT2 (List.mem_of_getElem? (i := 54) rfl) rfl), rfl⟩
theorem fX5_27 {M : MD} (hM : M.1.cls = RX5) : FL M 27 5 8 := ⟨(RX5, TX5, 10), rfl, by decide, by rw [hM]; exact (inT2 (List.mem_of_getElem? (i := 57) rfl) rfl), rfl⟩
theorem fX5_30 {M : MD} (hM : M.1.cls = RX5) : FL M 30 5 9 := ⟨(RX5, TX5, 10), rfl, by decide, by rw [hM]; exact (inT2 (List.mem_of_getElem? (i := 59) rfl) rfl), rfl⟩
theorem fX5_33 {M : MD} (hM : M.1.cls = RX5) : FL M 33 5 0 := ⟨(RX5, TX5, 10), rfl, by decide, by rw [hM]; exact (inT2 (List.mem_of_getElem? (i := 49) rfl) rfl), rfl⟩
theorem fX5_37 {M : MD} (hM : M.1.cls = RX5) : FL M 37 5 6 := ⟨(RX5, TX5, 10), rfl, by decide, by rw [hM]; exact (inT2 (List.mem_of_getElem? (i := 55) rfl) rfl), rfl⟩
theorem fX5_41 {M : MD} (hM : M.1.cls = RX5) : FL M 41 3 13 := ⟨(RX3, TX3, 19), rfl, by decide, by rw [hM]; exact (inT1 (List.mem_of_getElem? (i := 236) rfl) rfl), rfl⟩
theorem fX5_47 {M : MD} (hM : M.1.cls = RX5) : FL M 47 5 7 := ⟨(RX5, TX5, 10), rfl, by decide, by rw [hM]; exact (inT2 (List.mem_of_getElem? (i := 56) rfl) rfl), rfl⟩
theorem fX5_66 {M : MD} (hM : M.1.cls = RX5) : FL M 66 3 4 := ⟨(RX3, TX3, 19), rfl, by decide, by rw [hM]; exact (inT1 (List.mem_of_getElem? (i := 208) rfl) rfl), rfl⟩
theorem fX5_109 {M : MD} (hM : M.1.cls = RX5) : FL M 109 3 0 := ⟨(RX3, TX3, 19), rfl, by decide, by rw [hM]; exact (inT1 (List.mem_of_getElem? (i := 194) rfl) rfl), rfl⟩
theorem fX5_113 {M : MD} (hM : M.1.cls = RX5) : FL M 113 3 1 := ⟨(RX3, TX3, 19), rfl, by decide, by rw [hM]; exact (inT1 (List.mem_of_getElem? (i := 198) rfl) rfl), rfl⟩
theorem fX5_117 {M : MD} (hM : M.1.cls = RX5) : FL M 117 3 2 := ⟨(RX3, TX3, 19), rfl, by decide, by rw [hM]; exact (inT1 (List.mem_of_getElem? (i := 202) rfl) rfl), rfl⟩
theorem fX5_121 {M : MD} (hM : M.1.cls = RX5) : FL M 121 3 3 := ⟨(RX3, TX3, 19), rfl, by decide, by rw [hM]; exact (inT1 (List.mem_of_getElem? (i := 206) rfl) rfl), rfl⟩
theorem fX5_125 {M : MD} (hM : M.1.cls = RX5) : FL M 125 3 12 := ⟨(RX3, TX3, 19), rfl, by decide, by rw [hM]; exact (inT1 (List.mem_of_getElem? (i := 235) rfl) rfl), rfl⟩
theorem fX5_128 {M : MD} (hM : M.1.cls = RX5) : FL M 128 8 4 := ⟨(RX8, TX8, 5), rfl, by decide, by rw [hM]; exact (inT1 (List.mem_of_getElem? (i := 56) rfl) rfl), rfl⟩
theorem fX5_157 {M : MD} (hM : M.1.cls = RX5) : FL M 157 3 14 := ⟨(RX3, TX3, 19), rfl, by decide, by rw [hM]; exact (inT1 (List.mem_of_getElem? (i := 239) rfl) rfl), rfl⟩
theorem fX5_160 {M : MD} (hM : M.1.cls = RX5) : FL M 160 3 5 := ⟨(RX3, TX3, 19), rfl, by decide, by rw [hM]; exact (inT1 (List.mem_of_getElem? (i := 213) rfl) rfl), rfl⟩
theorem fX5_163 {M : MD} (hM : M.1.cls = RX5) : FL M 163 3 6 := ⟨(RX3, TX3, 19), rfl, by decide, by rw [hM]; exact (inT1 (List.mem_of_getElem? (i := 218) rfl) rfl), rfl⟩
theorem fX5_167 {M : MD} (hM : M.1.cls = RX5) : FL M 167 8 0 := ⟨(RX8, TX8, 5), rfl, by decide, by rw [hM]; exact (inT1 (List.mem_of_getElem? (i := 43) rfl) rfl), rfl⟩
theorem fX5_170 {M : MD} (hM : M.1.cls = RX5) : FL M 170 8 1 := ⟨(RX8, TX8, 5), rfl, by decide, by rw [hM]; exact (inT1 (List.mem_of_getElem? (i := 47) rfl) rfl), rfl⟩
theorem fX5_173 {M : MD} (hM : M.1.cls = RX5) : FL M 173 3 7 := ⟨(RX3, TX3, 19), rfl, by decide, by rw [hM]; exact (inT1 (List.mem_of_getElem? (i := 220) rfl) rfl), rfl⟩
theorem fX5_176 {M : MD} (hM : M.1.cls = RX5) : FL M 176 3 8 := ⟨(RX3, TX3, 19), rfl, by decide, by rw [hM]; exact (inT1 (List.mem_of_getElem? (i := 222) rfl) rfl), rfl⟩
theorem fX5_179 {M : MD} (hM : M.1.cls = RX5) : FL M 179 8 2 := ⟨(RX8, TX8, 5), rfl, by decide, by rw [hM]; exact (inT1 (List.mem_of_getElem? (i := 51) rfl) rfl), rfl⟩
theorem fX5_181 {M : MD} (hM : M.1.cls = RX5) : FL M 181 3 9 := ⟨(RX3, TX3, 19), rfl, by decide, by rw [hM]; exact (inT1 (List.mem_of_getElem? (i := 226) rfl) rfl), rfl⟩
theorem fX5_183 {M : MD} (hM : M.1.cls = RX5) : FL M 183 3 10 := ⟨(RX3, TX3, 19), rfl, by decide, by rw [hM]; exact (inT1 (List.mem_of_getElem? (i := 230) rfl) rfl), rfl⟩
theorem fX5_186 {M : MD} (hM : M.1.cls = RX5) : FL M 186 3 11 := ⟨(RX3, TX3, 19), rfl, by decide, by rw [hM]; exact (inT1 (List.mem_of_getElem? (i := 232) rfl) rfl), rfl⟩
theorem fX5_189 {M : MD} (hM : M.1.cls = RX5) : FL M 189 2 3 := ⟨(RX2, TX2, 4), rfl, by decide, by rw [hM]; exact (inT1 (List.mem_of_getElem? (i := 174) rfl) rfl), rfl⟩
theorem fX6_9 {M : MD} (hM : M.1.cls = RX6) : FL M 9 6 2 := ⟨(RX6, TX6, 13), rfl, by decide, by rw [hM]; exact (inT2 (List.mem_of_getElem? (i := 141) rfl) rfl), rfl⟩
theorem fX6_18 {M : MD} (hM : M.1.cls = RX6) : FL M 18 6 3 := ⟨(RX6, TX6, 13), rfl, by decide, by rw [hM]; exact (inT2 (List.mem_of_getElem? (i := 142) rfl) rfl), rfl⟩
theorem fX6_22 {M : MD} (hM : M.1.cls = RX6) : FL M 22 6 4 := ⟨(RX6, TX6, 13), rfl, by decide, by rw [hM]; exact (inT2 (List.mem_of_getElem? (i := 145) rfl) rfl), rfl⟩
theorem fX6_26 {M : MD} (hM : M.1.cls = RX6) : FL M 26 6 5 := ⟨(RX6, TX6, 13), rfl, by decide, by rw [hM]; exact (inT2 (List.mem_of_getElem? (i := 147) rfl) rfl), rfl⟩
theorem fX6_29 {M : MD} (hM : M.1.cls = RX6) : FL M 29 6 6 := ⟨(RX6, TX6, 13), rfl, by decide, by rw [hM]; exact (inT2 (List.mem_of_getElem? (i := 149) rfl) rfl), rfl⟩
theorem fX6_32 {M : MD} (hM : M.1.cls = RX6) : FL M 32 6 7 := ⟨(RX6, TX6, 13), rfl, by decide, by rw [hM]; exact (inT2 (List.mem_of_getElem? (i := 151) rfl) rfl), rfl⟩
theorem fX6_35 {M : MD} (hM : M.1.cls = RX6) : FL M 35 6 8 := ⟨(RX6, TX6, 13), rfl, by decide, by rw [hM]; exact (inT2 (List.mem_of_getElem? (i := 152) rfl) rfl), rfl⟩
theorem fX6_38 {M : MD} (hM : M.1.cls = RX6) : FL M 38 6 9 := ⟨(RX6, TX6, 13), rfl, by decide, by rw [hM]; exact (inT2 (List.mem_of_getElem? (i := 153) rfl) rfl), rfl⟩
theorem fX6_41 {M : MD} (hM : M.1.cls = RX6) : FL M 41 6 10 := ⟨(RX6, TX6, 13), rfl, by decide, by rw [hM]; exact (inT2 (List.mem_of_getElem? (i := 155) rfl) rfl), rfl⟩
theorem fX6_44 {M : MD} (hM : M.1.cls = RX6) : FL M 44 6 11 := ⟨(RX6, TX6, 13), rfl, by decide, by rw [hM]; exact (inT2 (List.mem_of_getElem? (i := 157) rfl) rfl), rfl⟩
theorem fX6_47 {M : MD} (hM : M.1.cls = RX6) : FL M 47 6 12 := ⟨(RX6, TX6, 13), rfl, by decide, by rw [hM]; exact (inT2 (List.mem_of_getElem? (i := 159) rfl) rfl), rfl⟩
theorem fX6_50 {M : MD} (hM : M.1.cls = RX6) : FL M 50 6 0 := ⟨(RX6, TX6, 13), rfl, by decide, by rw [hM]; exact (inT2 (List.mem_of_getElem? (i := 139) rfl) rfl), rfl⟩
theorem fX6_54 {M : MD} (hM : M.1.cls = RX6) : FL M 54 6 1 := ⟨(RX6, TX6, 13), rfl, by decide, by rw [hM]; exact (inT2 (List.mem_of_getElem? (i := 140) rfl) rfl), rfl⟩
theorem fX6_58 {M : MD} (hM : M.1.cls = RX6) : FL M 58 8 4 := ⟨(RX8, TX8, 5), rfl, by decide, by rw [hM]; exact (inT1 (List.mem_of_getElem? (i := 55) rfl) rfl), rfl⟩
theorem fX6_88 {M : MD} (hM : M.1.cls = RX6) : FL M 88 7 6 := ⟨(RX7, TX7, 10), rfl, by decide, by rw [hM]; exact (inT2 (List.mem_of_getElem? (i := 114) rfl) rfl), rfl⟩
theorem fX6_91 {M : MD} (hM : M.1.cls = RX6) : FL M 91 3 1 := ⟨(RX3, TX3, 19), rfl, by decide, by rw [hM]; exact (inT1 (List.mem_of_getElem? (i := 196) rfl) rfl), rfl⟩
theorem fX6_97 {M : MD} (hM : M.1.cls = RX6) : FL M 97 3 5 := ⟨(RX3, TX3, 19), rfl, by decide, by rw [hM]; exact (inT1 (List.mem_of_getElem? (i := 211) rfl) rfl), rfl⟩
theorem fX6_100 {M : MD} (hM : M.1.cls = RX6) : FL M 100 8 2 := ⟨(RX8, TX8, 5), rfl, by decide, by rw [hM]; exact (inT1 (List.mem_of_getElem? (i := 49) rfl) rfl), rfl⟩
theorem fX6_103 {M : MD} (hM : M.1.cls = RX6) : FL M 103 8 1 := ⟨(RX8, TX8, 5), rfl, by decide, by rw [hM]; exact (inT1 (List.mem_of_getElem? (i := 45) rfl) rfl), rfl⟩
theorem fX6_110 {M : MD} (hM : M.1.cls = RX6) : FL M 110 3 2 := ⟨(RX3, TX3, 19), rfl, by decide, by rw [hM]; exact (inT1 (List.mem_of_getElem? (i := 201) rfl) rfl), rfl⟩
theorem fX6_125 {M : MD} (hM : M.1.cls = RX6) : FL M 125 3 9 := ⟨(RX3, TX3, 19), rfl, by decide, by rw [hM]; exact (inT1 (List.mem_of_getElem? (i := 225) rfl) rfl), rfl⟩
theorem fX6_128 {M : MD} (hM : M.1.cls = RX6) : FL M 128 7 5 := ⟨(RX7, TX7, 10), rfl, by decide, by rw [hM]; exact (inT2 (List.mem_of_getElem? (i := 111) rfl) rfl), rfl⟩
theorem fX6_131 {M : MD} (hM : M.1.cls = RX6) : FL M 131 7 4 := ⟨(RX7, TX7, 10), rfl, by decide, by rw [hM]; exact (inT2 (List.mem_of_getElem? (i := 108) rfl) rfl), rfl⟩
theorem fX6_137 {M : MD} (hM : M.1.cls = RX6) : FL M 137 7 1 := ⟨(RX7, TX7, 10), rfl, by decide, by rw [hM]; exact (inT2 (List.mem_of_getElem? (i := 98) rfl) rfl), rfl⟩
theorem fX6_146 {M : MD} (hM : M.1.cls = RX6) : FL M 146 7 2 := ⟨(RX7, TX7, 10), rfl, by decide, by rw [hM]; exact (inT2 (List.mem_of_getElem? (i := 101) rfl) rfl), rfl⟩
theorem fX6_149 {M : MD} (hM : M.1.cls = RX6) : FL M 149 7 3 := ⟨(RX7, TX7, 10), rfl, by decide, by rw [hM]; exact (inT2 (List.mem_of_getElem? (i := 105) rfl) rfl), rfl⟩
theorem fX6_165 {M : MD} (hM : M.1.cls = RX6) : FL M 165 3 3 := ⟨(RX3, TX3, 19), rfl, by decide, by rw [hM]; exact (inT1 (List.mem_of_getElem? (i := 205) rfl) rfl), rfl⟩
theorem fX6_171 {M : MD} (hM : M.1.cls = RX6) : FL M 171 3 6 := ⟨(RX3, TX3, 19), rfl, by decide, by rw [hM]; exact (inT1 (List.mem_of_getElem? (i := 217) rfl) rfl), rfl⟩
theorem fX6_174 {M : MD} (hM : M.1.cls = RX6) : FL M 174 8 0 := ⟨(RX8, TX8, 5), rfl, by decide, by rw [hM]; exact (inT1 (List.mem_of_getElem? (i := 42) rfl) rfl), rfl⟩
theorem fX6_180 {M : MD} (hM : M.1.cls = RX6) : FL M 180 7 0 := ⟨(RX7, TX7, 10), rfl, by decide, by rw [hM]; exact (inT2 (List.mem_of_getElem? (i := 96) rfl) rfl), rfl⟩
theorem fX7_11 {M : MD} (hM : M.1.cls = RX7) : FL M 11 7 0 := ⟨(RX7, TX7, 10), rfl, by decide, by rw [hM]; exact (inT2 (List.mem_of_getElem? (i := 94) rfl) rfl), rfl⟩
theorem fX7_15 {M : MD} (hM : M.1.cls = RX7) : FL M 15 7 1 := ⟨(RX7, TX7, 10), rfl, by decide, by rw [hM]; exact (inT2 (List.mem_of_getElem? (i := 97) rfl) rfl), rfl⟩
theorem fX7_18 {M : MD} (hM : M.1.cls = RX7) : FL M 18 7 2 := ⟨(RX7, TX7, 10), rfl, by decide, by rw [hM]; exact (inT2 (List.mem_of_getElem? (i := 100) rfl) rfl), rfl⟩
theorem fX7_21 {M : MD} (hM : M.1.cls = RX7) : FL M 21 7 3 := ⟨(RX7, TX7, 10), rfl, by decide, by rw [hM]; exact (inT2 (List.mem_of_getElem? (i := 103) rfl) rfl), rfl⟩
theorem fX7_24 {M : MD} (hM : M.1.cls = RX7) : FL M 24 7 4 := ⟨(RX7, TX7, 10), rfl, by decide, by rw [hM]; exact (inT2 (List.mem_of_getElem? (i := 106) rfl) rfl), rfl⟩
theorem fX7_28 {M : MD} (hM : M.1.cls = RX7) : FL M 28 7 5 := ⟨(RX7, TX7, 10), rfl, by decide, by rw [hM]; exact (inT2 (List.mem_of_getElem? (i := 110) rfl) rfl), rfl⟩
theorem fX7_31 {M : MD} (hM : M.1.cls = RX7) : FL M 31 7 6 := ⟨(RX7, TX7, 10), rfl, by decide, by rw [hM]; exact (inT2 (List.mem_of_getElem? (i := 113) rfl) rfl), rfl⟩
theorem fX7_34 {M : MD} (hM : M.1.cls = RX7) : FL M 34 7 7 := ⟨(RX7, TX7, 10), rfl, by decide, by rw [hM]; exact (inT2 (List.mem_of_getElem? (i := 115) rfl) rfl), rfl⟩
theorem fX7_37 {M : MD} (hM : M.1.cls = RX7) : FL M 37 7 8 := ⟨(RX7, TX7, 10), rfl, by decide, by rw [hM]; exact (inT2 (List.mem_of_getElem? (i := 116) rfl) rfl), rfl⟩
theorem fX7_40 {M : MD} (hM : M.1.cls = RX7) : FL M 40 7 9 := ⟨(RX7, TX7, 10), rfl, by decide, by rw [hM]; exact (inT2 (List.mem_of_getElem? (i := 117) rfl) rfl), rfl⟩
theorem fX8_9 {M : MD} (hM : M.1.cls = RX8) : FL M 9 8 0 := ⟨(RX8, TX8, 5), rfl, by decide, by rw [hM]; exact (inT1 (List.mem_of_getElem? (i := 40) rfl) rfl), rfl⟩
theorem fX8_15 {M : MD} (hM : M.1.cls = RX8) : FL M 15 8 1 := ⟨(RX8, TX8, 5), rfl, by decide, by rw [hM]; exact (inT1 (List.mem_of_getElem? (i := 44) rfl) rfl), rfl⟩
theorem fX8_18 {M : MD} (hM : M.1.cls = RX8) : FL M 18 8 2 := ⟨(RX8, TX8, 5), rfl, by decide, by rw [hM]; exact (inT1 (List.mem_of_getElem? (i := 48) rfl) rfl), rfl⟩
theorem fX8_21 {M : MD} (hM : M.1.cls = RX8) : FL M 21 8 3 := ⟨(RX8, TX8, 5), rfl, by decide, by rw [hM]; exact (inT1 (List.mem_of_getElem? (i := 52) rfl) rfl), rfl⟩
theorem fX8_25 {M : MD} (hM : M.1.cls = RX8) : FL M 25 8 4 := ⟨(RX8, TX8, 5), rfl, by decide, by rw [hM]; exact (inT1 (List.mem_of_getElem? (i := 54) rfl) rfl), rfl⟩
theorem fX8_34 {M : MD} (hM : M.1.cls = RX8) : FL M 34 3 5 := ⟨(RX3, TX3, 19), rfl, by decide, by rw [hM]; exact (inT1 (List.mem_of_getElem? (i := 212) rfl) rfl), rfl⟩
theorem fX8_39 {M : MD} (hM : M.1.cls = RX8) : FL M 39 3 9 := ⟨(RX3, TX3, 19), rfl, by decide, by rw [hM]; exact (inT1 (List.mem_of_getElem? (i := 224) rfl) rfl), rfl⟩
theorem fX9_11 {M : MD} (hM : M.1.cls = RX9) : FL M 11 9 0 := ⟨(RX9, TX9, 3), rfl, by decide, by rw [hM]; exact (inT1 (List.mem_of_getElem? (i := 123) rfl) rfl), rfl⟩
theorem fX9_15 {M : MD} (hM : M.1.cls = RX9) : FL M 15 9 1 := ⟨(RX9, TX9, 3), rfl, by decide, by rw [hM]; exact (inT1 (List.mem_of_getElem? (i := 124) rfl) rfl), rfl⟩
theorem fX9_19 {M : MD} (hM : M.1.cls = RX9) : FL M 19 9 2 := ⟨(RX9, TX9, 3), rfl, by decide, by rw [hM]; exact (inT1 (List.mem_of_getElem? (i := 125) rfl) rfl), rfl⟩
theorem fX11_1 {M : MD} (hM : M.1.cls = RX11) : FL M 1 11 0 := ⟨(RX11, TX11, 59), rfl, by decide, by rw [hM]; exact (inT6 (List.mem_of_getElem? (i := 69) rfl) rfl), rfl⟩
theorem fX11_13 {M : MD} (hM : M.1.cls = RX11) : FL M 13 11 1 := ⟨(RX11, TX11, 59), rfl, by decide, by rw [hM]; exact (inT6 (List.mem_of_getElem? (i := 70) rfl) rfl), rfl⟩
theorem fX11_17 {M : MD} (hM : M.1.cls = RX11) : FL M 17 11 2 := ⟨(RX11, TX11, 59), rfl, by decide, by rw [hM]; exact (inT6 (List.mem_of_getElem? (i := 71) rfl) rfl), rfl⟩
theorem fX11_21 {M : MD} (hM : M.1.cls = RX11) : FL M 21 11 3 := ⟨(RX11, TX11, 59), rfl, by decide, by rw [hM]; exact (inT6 (List.mem_of_getElem? (i := 72) rfl) rfl), rfl⟩
theorem fX11_24 {M : MD} (hM : M.1.cls = RX11) : FL M 24 11 4 := ⟨(RX11, TX11, 59), rfl, by decide, by rw [hM]; exact (inT6 (List.mem_of_getElem? (i := 73) rfl) rfl), rfl⟩
theorem fX11_27 {M : MD} (hM : M.1.cls = RX11) : FL M 27 11 14 := ⟨(RX11, TX11, 59), rfl, by decide, by rw [hM]; exact (inT6 (List.mem_of_getElem? (i := 83) rfl) rfl), rfl⟩
theorem fX11_30 {M : MD} (hM : M.1.cls = RX11) : FL M 30 11 16 := ⟨(RX11, TX11, 59), rfl, by decide, by rw [hM]; exact (inT6 (List.mem_of_getElem? (i := 85) rfl) rfl), rfl⟩
theorem fX11_33 {M : MD} (hM : M.1.cls = RX11) : FL M 33 11 17 := ⟨(RX11, TX11, 59), rfl, by decide, by rw [hM]; exact (inT6 (List.mem_of_getElem? (i := 86) rfl) rfl), rfl⟩
theorem fX11_36 {M : MD} (hM : M.1.cls = RX11) : FL M 36 11 23 := ⟨(RX11, TX11, 59), rfl, by decide, by rw [hM]; exact (inT6 (List.mem_of_getElem? (i := 92) rfl) rfl), rfl⟩
theorem fX11_39 {M : MD} (hM : M.1.cls = RX11) : FL M 39 11 24 := ⟨(RX11, TX11, 59), rfl, by decide, by rw [hM]; exact (inT6 (List.mem_of_getElem? (i := 93) rfl) rfl), rfl⟩
theorem fX11_42 {M : MD} (hM : M.1.cls = RX11) : FL M 42 11 25 := ⟨(RX11, TX11, 59), rfl, by decide, by rw [hM]; exact (inT6 (List.mem_of_getElem? (i := 94) rfl) rfl), rfl⟩
theorem fX11_45 {M : MD} (hM : M.1.cls = RX11) : FL M 45 11 26 := ⟨(RX11, TX11, 59), rfl, by decide, by rw [hM]; exact (inT6 (List.mem_of_getElem? (i := 95) rfl) rfl), rfl⟩
theorem fX11_48 {M : MD} (hM : M.1.cls = RX11) : FL M 48 11 27 := ⟨(RX11, TX11, 59), rfl, by decide, by rw [hM]; exact (inT6 (List.mem_of_getElem? (i := 96) rfl) rfl), rfl⟩
theorem fX11_51 {M : MD} (hM : M.1.cls = RX11) : FL M 51 11 28 := ⟨(RX11, TX11, 59), rfl, by decide, by rw [hM]; exact (inT6 (List.mem_of_getElem? (i := 97) rfl) rfl), rfl⟩
theorem fX11_54 {M : MD} (hM : M.1.cls = RX11) : FL M 54 11 29 := ⟨(RX11, TX11, 59), rfl, by decide, by rw [hM]; exact (inT6 (List.mem_of_getElem? (i := 98) rfl) rfl), rfl⟩
theorem fX11_57 {M : MD} (hM : M.1.cls = RX11) : FL M 57 11 30 := ⟨(RX11, TX11, 59), rfl, by decide, by rw [hM]; exact (inT6 (List.mem_of_getElem? (i := 99) rfl) rfl), rfl⟩
theorem fX11_60 {M : MD} (hM : M.1.cls = RX11) : FL M 60 11 32 := ⟨(RX11, TX11, 59), rfl, by decide, by rw [hM]; exact (inT6 (List.mem_of_getElem? (i := 101) rfl) rfl), rfl⟩
theorem fX11_63 {M : MD} (hM : M.1.cls = RX11) : FL M 63 11 33 := ⟨(RX11, TX11, 59), rfl, by decide, by rw [hM]; exact (inT6 (List.mem_of_getElem? (i := 102) rfl) rfl), rfl⟩
theorem fX11_66 {M : MD} (hM : M.1.cls = RX11) : FL M 66 11 34 := ⟨(RX11, TX11, 59), rfl, by decide, by rw [hM]; exact (inT6 (List.mem_of_getElem? (i := 103) rfl) rfl), rfl⟩
theorem fX11_69 {M : MD} (hM : M.1.cls = RX11) : FL M 69 11 38 := ⟨(RX11, TX11, 59), rfl, by decide, by rw [hM]; exact (inT6 (List.mem_of_getElem? (i := 107) rfl) rfl), rfl⟩
theorem fX11_72 {M : MD} (hM : M.1.cls = RX11) : FL M 72 11 41 := ⟨(RX11, TX11, 59), rfl, by decide, by rw [hM]; exact (inT6 (List.mem_of_getElem? (i := 110) rfl) rfl), rfl⟩
theorem fX11_75 {M : MD} (hM : M.1.cls = RX11) : FL M 75 11 43 := ⟨(RX11, TX11, 59), rfl, by decide, by rw [hM]; exact (inT6 (List.mem_of_getElem? (i := 112) rfl) rfl), rfl⟩
theorem fX11_78 {M : MD} (hM : M.1.cls = RX11) : FL M 78 11 44 := ⟨(RX11, TX11, 59), rfl, by decide, by rw [hM]; exact (inT6 (List.mem_of_getElem? (i := 113) rfl) rfl), rfl⟩
theorem fX11_81 {M : MD} (hM : M.1.cls = RX11) : FL M 81 11 45 := ⟨(RX11, TX11, 59), rfl, by decide, by rw [hM]; exact (inT6 (List.mem_of_getElem? (i := 114) rfl) rfl), rfl⟩
theorem fX11_85 {M : MD} (hM : M.1.cls = RX11) : FL M 85 11 46 := ⟨(RX11, TX11, 59), rfl, by decide, by rw [hM]; exact (inT6 (List.mem_of_getElem? (i := 115) rfl) rfl), rfl⟩
theorem fX11_88 {M : MD} (hM : M.1.cls = RX11) : FL M 88 11 47 := ⟨(RX11, TX11, 59), rfl, by decide, by rw [hM]; exact (inT6 (List.mem_of_getElem? (i := 116) rfl) rfl), rfl⟩
theorem fX11_91 {M : MD} (hM : M.1.cls = RX11) : FL M 91 11 48 := ⟨(RX11, TX11, 59), rfl, by decide, by rw [hM]; exact (inT6 (List.mem_of_getElem? (i := 117) rfl) rfl), rfl⟩
theorem fX11_94 {M : MD} (hM : M.1.cls = RX11) : FL M 94 11 49 := ⟨(RX11, TX11, 59), rfl, by decide, by rw [hM]; exact (inT6 (List.mem_of_getElem? (i := 118) rfl) rfl), rfl⟩
theorem fX11_97 {M : MD} (hM : M.1.cls = RX11) : FL M 97 11 52 := ⟨(RX11, TX11, 59), rfl, by decide, by rw [hM]; exact (inT6 (List.mem_of_getElem? (i := 121) rfl) rfl), rfl⟩
theorem fX11_100 {M : MD} (hM : M.1.cls = RX11) : FL M 100 11 54 := ⟨(RX11, TX11, 59), rfl, by decide, by rw [hM]; exact (inT6 (List.mem_of_getElem? (i := 123) rfl) rfl), rfl⟩
theorem fX11_103 {M : MD} (hM : M.1.cls = RX11) : FL M 103 11 55 := ⟨(RX11, TX11, 59), rfl, by decide, by rw [hM]; exact (inT6 (List.mem_of_getElem? (i := 124) rfl) rfl), rfl⟩
theorem fX11_106 {M : MD} (hM : M.1.cls = RX11) : FL M 106 11 56 := ⟨(RX11, TX11, 59), rfl, by decide, by rw [hM]; exact (inT6 (List.mem_of_getElem? (i := 125) rfl) rfl), rfl⟩
theorem fX11_109 {M : MD} (hM : M.1.cls = RX11) : FL M 109 11 57 := ⟨(RX11, TX11, 59), rfl, by decide, by rw [hM]; exact (inT6 (List.mem_of_getElem? (i := 126) rfl) rfl), rfl⟩
theorem fX11_112 {M : MD} (hM : M.1.cls = RX11) : FL M 112 11 58 := ⟨(RX11, TX11, 59), rfl, by decide, by rw [hM]; exact (inT6 (List.mem_of_getElem? (i := 127) rfl) rfl), rfl⟩
theorem fX11_119 {M : MD} (hM : M.1.cls = RX11) : FL M 119 11 5 := ⟨(RX11, TX11, 59), rfl, by decide, by rw [hM]; exact (inT6 (List.mem_of_getElem? (i := 74) rfl) rfl), rfl⟩
theorem fX11_122 {M : MD} (hM : M.1.cls = RX11) : FL M 122 11 8 := ⟨(RX11, TX11, 59), rfl, by decide, by rw [hM]; exact (inT6 (List.mem_of_getElem? (i := 77) rfl) rfl), rfl⟩
theorem fX11_137 {M : MD} (hM : M.1.cls = RX11) : FL M 137 11 6 := ⟨(RX11, TX11, 59), rfl, by decide, by rw [hM]; exact (inT6 (List.mem_of_getElem? (i := 75) rfl) rfl), rfl⟩
theorem fX11_140 {M : MD} (hM : M.1.cls = RX11) : FL M 140 11 7 := ⟨(RX11, TX11, 59), rfl, by decide, by rw [hM]; exact (inT6 (List.mem_of_getElem? (i := 76) rfl) rfl), rfl⟩
theorem fX11_147 {M : MD} (hM : M.1.cls = RX11) : FL M 147 11 9 := ⟨(RX11, TX11, 59), rfl, by decide, by rw [hM]; exact (inT6 (List.mem_of_getElem? (i := 78) rfl) rfl), rfl⟩
theorem fX11_160 {M : MD} (hM : M.1.cls = RX11) : FL M 160 11 10 := ⟨(RX11, TX11, 59), rfl, by decide, by rw [hM]; exact (inT6 (List.mem_of_getElem? (i := 79) rfl) rfl), rfl⟩
theorem fX11_165 {M : MD} (hM : M.1.cls = RX11) : FL M 165 11 11 := ⟨(RX11, TX11, 59), rfl, by decide, by rw [hM]; exact (inT6 (List.mem_of_getElem? (i := 80) rfl) rfl), rfl⟩
theorem fX11_168 {M : MD} (hM : M.1.cls = RX11) : FL M 168 11 12 := ⟨(RX11, TX11, 59), rfl, by decide, by rw [hM]; exact (inT6 (List.mem_of_getElem? (i := 81) rfl) rfl), rfl⟩
theorem fX11_185 {M : MD} (hM : M.1.cls = RX11) : FL M 185 11 15 := ⟨(RX11, TX11, 59), rfl, by decide, by rw [hM]; exact (inT6 (List.mem_of_getElem? (i := 84) rfl) rfl), rfl⟩
theorem fX11_246 {M : MD} (hM : M.1.cls = RX11) : FL M 246 11 13 := ⟨(RX11, TX11, 59), rfl, by decide, by rw [hM]; exact (inT6 (List.mem_of_getElem? (i := 82) rfl) rfl), rfl⟩
theorem fX11_266 {M : MD} (hM : M.1.cls = RX11) : FL M 266 11 18 := ⟨(RX11, TX11, 59), rfl, by decide, by rw [hM]; exact (inT6 (List.mem_of_getElem? (i := 87) rfl) rfl), rfl⟩
theorem fX11_272 {M : MD} (hM : M.1.cls = RX11) : FL M 272 11 19 := ⟨(RX11, TX11, 59), rfl, by decide, by rw [hM]; exact (inT6 (List.mem_of_getElem? (i := 88) rfl) rfl), rfl⟩
theorem fX11_286 {M : MD} (hM : M.1.cls = RX11) : FL M 286 11 20 := ⟨(RX11, TX11, 59), rfl, by decide, by rw [hM]; exact (inT6 (List.mem_of_getElem? (i := 89) rfl) rfl), rfl⟩
theorem fX11_289 {M : MD} (hM : M.1.cls = RX11) : FL M 289 11 21 := ⟨(RX11, TX11, 59), rfl, by decide, by rw [hM]; exact (inT6 (List.mem_of_getElem? (i := 90) rfl) rfl), rfl⟩
theorem fX11_292 {M : MD} (hM : M.1.cls = RX11) : FL M 292 11 22 := ⟨(RX11, TX11, 59), rfl, by decide, by rw [hM]; exact (inT6 (List.mem_of_getElem? (i := 91) rfl) rfl), rfl⟩
theorem fX11_299 {M : MD} (hM : M.1.cls = RX11) : FL M 299 11 31 := ⟨(RX11, TX11, 59), rfl, by decide, by rw [hM]; exact (inT6 (List.mem_of_getElem? (i := 100) rfl) rfl), rfl⟩
theorem fX11_321 {M : MD} (hM : M.1.cls = RX11) : FL M 321 11 35 := ⟨(RX11, TX11, 59), rfl, by decide, by rw [hM]; exact (inT6 (List.mem_of_getElem? (i := 104) rfl) rfl), rfl⟩
theorem fX11_333 {M : MD} (hM : M.1.cls = RX11) : FL M 333 11 36 := ⟨(RX11, TX11, 59), rfl, by decide, by rw [hM]; exact (inT6 (List.mem_of_getElem? (i := 105) rfl) rfl), rfl⟩
theorem fX11_336 {M : MD} (hM : M.1.cls = RX11) : FL M 336 11 37 := ⟨(RX11, TX11, 59), rfl, by decide, by rw [hM]; exact (inT6 (List.mem_of_getElem? (i := 106) rfl) rfl), rfl⟩
theorem fX11_420 {M : MD} (hM : M.1.cls = RX11) : FL M 420 11 39 := ⟨(RX11, TX11, 59), rfl, by decide, by rw [hM]; exact (inT6 (List.mem_of_getElem? (i := 108) rfl) rfl), rfl⟩
theorem fX11_446 {M : MD} (hM : M.1.cls = RX11) : FL M 446 11 40 := ⟨(RX11, TX11, 59), rfl, by decide, by rw [hM]; exact (inT6 (List.mem_of_getElem? (i := 109) rfl) rfl), rfl⟩
theorem fX11_457 {M : MD} (hM : M.1.cls = RX11) : FL M 457 11 42 := ⟨(RX11, TX11, 59), rfl, by decide, by rw [hM]; exact (inT6 (List.mem_of_getElem? (i := 111) rfl) rfl), rfl⟩
theorem fX11_493 {M : MD} (hM : M.1.cls = RX11) : FL M 493 11 50 := ⟨(RX11, TX11, 59), rfl, by decide, by rw [hM]; exact (inT6 (List.mem_of_getElem? (i := 119) rfl) rfl), rfl⟩
theorem fX11_497 {M : MD} (hM : M.1.cls = RX11) : FL M 497 11 51 := ⟨(RX11, TX11, 59), rfl, by decide, by rw [hM]; exact (inT6 (List.mem_of_getElem? (i := 120) rfl) rfl), rfl⟩
theorem fX11_515 {M : MD} (hM : M.1.cls = RX11) : FL M 515 11 53 := ⟨(RX11, TX11, 59), rfl, by decide, by rw [hM]; exact (inT6 (List.mem_of_getElem? (i := 122) rfl) rfl), rfl⟩
theorem w_0_3 (M : MD) : FW M 0 3 := ⟨(RX0, TX0, 5), rfl, Or.inl rfl⟩
theorem w_0_4 (M : MD) : FW M 0 4 := ⟨(RX0, TX0, 5), rfl, Or.inl rfl⟩
theorem w_1_0 (M : MD) : FW M 1 0 := ⟨(RX1, TX1, 4), rfl, Or.inl rfl⟩
theorem w_1_1 (M : MD) : FW M 1 1 := ⟨(RX1, TX1, 4), rfl, Or.inl rfl⟩
theorem w_2_3 (M : MD) : FW M 2 3 := ⟨(RX2, TX2, 4), rfl, Or.inl rfl⟩
theorem w_3_0 (M : MD) : FW M 3 0 := ⟨(RX3, TX3, 19), rfl, Or.inl rfl⟩
theorem w_3_1 (M : MD) : FW M 3 1 := ⟨(RX3, TX3, 19), rfl, Or.inl rfl⟩
theorem w_3_2 (M : MD) : FW M 3 2 := ⟨(RX3, TX3, 19), rfl, Or.inl rfl⟩
theorem w_3_3 (M : MD) : FW M 3 3 := ⟨(RX3, TX3, 19), rfl, Or.inl rfl⟩
theorem w_3_4 (M : MD) : FW M 3 4 := ⟨(RX3, TX3, 19), rfl, Or.inl rfl⟩
theorem w_3_5 (M : MD) : FW M 3 5 := ⟨(RX3, TX3, 19), rfl, Or.inl rfl⟩
theorem w_3_9 (M : MD) : FW M 3 9 := ⟨(RX3, TX3, 19), rfl, Or.inl rfl⟩
theorem w_3_17 (M : MD) : FW M 3 17 := ⟨(RX3, TX3, 19), rfl, Or.inl rfl⟩
theorem w_3_18 (M : MD) : FW M 3 18 := ⟨(RX3, TX3, 19), rfl, Or.inl rfl⟩
theorem w_4_1 (M : MD) : FW M 4 1 := ⟨(RX4, TX4, 3), rfl, Or.inl rfl⟩
theorem w_4_2 (M : MD) : FW M 4 2 := ⟨(RX4, TX4, 3), rfl, Or.inl rfl⟩
theorem w_5_1 (M : MD) : FW M 5 1 := ⟨(RX5, TX5, 10), rfl, Or.inl rfl⟩
theorem w_5_2 (M : MD) : FW M 5 2 := ⟨(RX5, TX5, 10), rfl, Or.inl rfl⟩
theorem w_5_3 (M : MD) : FW M 5 3 := ⟨(RX5, TX5, 10), rfl, Or.inl rfl⟩
theorem w_5_4 (M : MD) : FW M 5 4 := ⟨(RX5, TX5, 10), rfl, Or.inl rfl⟩
theorem w_5_5 (M : MD) : FW M 5 5 := ⟨(RX5, TX5, 10), rfl, Or.inl rfl⟩
theorem w_5_6 (M : MD) : FW M 5 6 := ⟨(RX5, TX5, 10), rfl, Or.inl rfl⟩
theorem w_5_7 (M : MD) : FW M 5 7 := ⟨(RX5, TX5, 10), rfl, Or.inl rfl⟩
theorem w_5_8 (M : MD) : FW M 5 8 := ⟨(RX5, TX5, 10), rfl, Or.inl rfl⟩
theorem w_5_9 (M : MD) : FW M 5 9 := ⟨(RX5, TX5, 10), rfl, Or.inl rfl⟩
theorem w_6_0 (M : MD) : FW M 6 0 := ⟨(RX6, TX6, 13), rfl, Or.inl rfl⟩
theorem w_6_1 (M : MD) : FW M 6 1 := ⟨(RX6, TX6, 13), rfl, Or.inl rfl⟩
theorem w_6_2 (M : MD) : FW M 6 2 := ⟨(RX6, TX6, 13), rfl, Or.inl rfl⟩
theorem w_6_9 (M : MD) : FW M 6 9 := ⟨(RX6, TX6, 13), rfl, Or.inl rfl⟩
theorem w_6_10 (M : MD) : FW M 6 10 := ⟨(RX6, TX6, 13), rfl, Or.inl rfl⟩
theorem w_6_11 (M : MD) : FW M 6 11 := ⟨(RX6, TX6, 13), rfl, Or.inl rfl⟩
theorem w_6_12 (M : MD) : FW M 6 12 := ⟨(RX6, TX6, 13), rfl, Or.inl rfl⟩
theorem w_7_4 (M : MD) : FW M 7 4 := ⟨(RX7, TX7, 10), rfl, Or.inl rfl⟩
theorem w_7_6 (M : MD) : FW M 7 6 := ⟨(RX7, TX7, 10), rfl, Or.inl rfl⟩
theorem w_7_9 (M : MD) : FW M 7 9 := ⟨(RX7, TX7, 10), rfl, Or.inl rfl⟩
theorem w_8_3 (M : MD) : FW M 8 3 := ⟨(RX8, TX8, 5), rfl, Or.inl rfl⟩
theorem w_8_4 (M : MD) : FW M 8 4 := ⟨(RX8, TX8, 5), rfl, Or.inl rfl⟩
theorem w_10_1 (M : MD) : FW M 10 1 := ⟨(RX10, TX10, 19), rfl, Or.inl rfl⟩
theorem w_10_4 (M : MD) : FW M 10 4 := ⟨(RX10, TX10, 19), rfl, Or.inl rfl⟩
theorem w_10_12 (M : MD) : FW M 10 12 := ⟨(RX10, TX10, 19), rfl, Or.inl rfl⟩
theorem w_10_16 (M : MD) : FW M 10 16 := ⟨(RX10, TX10, 19), rfl, Or.inl rfl⟩
theorem w_10_17 (M : MD) : FW M 10 17 := ⟨(RX10, TX10, 19), rfl, Or.inl rfl⟩
theorem w_10_18 (M : MD) : FW M 10 18 := ⟨(RX10, TX10, 19), rfl, Or.inl rfl⟩
theorem w_11_0 (M : MD) : FW M 11 0 := ⟨(RX11, TX11, 59), rfl, Or.inl rfl⟩
theorem w_11_5 (M : MD) : FW M 11 5 := ⟨(RX11, TX11, 59), rfl, Or.inl rfl⟩
theorem w_11_6 (M : MD) : FW M 11 6 := ⟨(RX11, TX11, 59), rfl, Or.inl rfl⟩
theorem w_11_7 (M : MD) : FW M 11 7 := ⟨(RX11, TX11, 59), rfl, Or.inl rfl⟩
theorem w_11_8 (M : MD) : FW M 11 8 := ⟨(RX11, TX11, 59), rfl, Or.inl rfl⟩
theorem w_11_9 (M : MD) : FW M 11 9 := ⟨(RX11, TX11, 59), rfl, Or.inl rfl⟩
theorem w_11_10 (M : MD) : FW M 11 10 := ⟨(RX11, TX11, 59), rfl, Or.inl rfl⟩
theorem w_11_11 (M : MD) : FW M 11 11 := ⟨(RX11, TX11, 59), rfl, Or.inl rfl⟩
theorem w_11_12 (M : MD) : FW M 11 12 := ⟨(RX11, TX11, 59), rfl, Or.inl rfl⟩
theorem w_11_13 (M : MD) : FW M 11 13 := ⟨(RX11, TX11, 59), rfl, Or.inl rfl⟩
theorem w_11_14 (M : MD) : FW M 11 14 := ⟨(RX11, TX11, 59), rfl, Or.inl rfl⟩
theorem w_11_15 (M : MD) : FW M 11 15 := ⟨(RX11, TX11, 59), rfl, Or.inl rfl⟩
theorem w_11_18 (M : MD) : FW M 11 18 := ⟨(RX11, TX11, 59), rfl, Or.inl rfl⟩
theorem w_11_19 (M : MD) : FW M 11 19 := ⟨(RX11, TX11, 59), rfl, Or.inl rfl⟩
theorem w_11_20 (M : MD) : FW M 11 20 := ⟨(RX11, TX11, 59), rfl, Or.inl rfl⟩
theorem w_11_21 (M : MD) : FW M 11 21 := ⟨(RX11, TX11, 59), rfl, Or.inl rfl⟩
theorem w_11_22 (M : MD) : FW M 11 22 := ⟨(RX11, TX11, 59), rfl, Or.inl rfl⟩
theorem w_11_31 (M : MD) : FW M 11 31 := ⟨(RX11, TX11, 59), rfl, Or.inl rfl⟩
theorem w_11_35 (M : MD) : FW M 11 35 := ⟨(RX11, TX11, 59), rfl, Or.inl rfl⟩
theorem w_11_36 (M : MD) : FW M 11 36 := ⟨(RX11, TX11, 59), rfl, Or.inl rfl⟩
theorem w_11_37 (M : MD) : FW M 11 37 := ⟨(RX11, TX11, 59), rfl, Or.inl rfl⟩
theorem w_11_39 (M : MD) : FW M 11 39 := ⟨(RX11, TX11, 59), rfl, Or.inl rfl⟩
theorem w_11_40 (M : MD) : FW M 11 40 := ⟨(RX11, TX11, 59), rfl, Or.inl rfl⟩
theorem w_11_42 (M : MD) : FW M 11 42 := ⟨(RX11, TX11, 59), rfl, Or.inl rfl⟩
theorem w_11_50 (M : MD) : FW M 11 50 := ⟨(RX11, TX11, 59), rfl, Or.inl rfl⟩
theorem w_11_51 (M : MD) : FW M 11 51 := ⟨(RX11, TX11, 59), rfl, Or.inl rfl⟩
theorem w_11_52 (M : MD) : FW M 11 52 := ⟨(RX11, TX11, 59), rfl, Or.inl rfl⟩
theorem w_11_53 (M : MD) : FW M 11 53 := ⟨(RX11, TX11, 59), rfl, Or.inl rfl⟩
theorem lX10_28 : Cond.methodLink RX10 28 yX8_init ∈ gT := (inT1 (List.mem_of_getElem? (i := 33) rfl) rfl)
theorem lX10_38 : Cond.methodLink RX10 38 yX4_init ∈ gT := (inT1 (List.mem_of_getElem? (i := 73) rfl) rfl)
theorem lX10_64 : Cond.methodLink RX10 64 yX9_init ∈ gT := (inT1 (List.mem_of_getElem? (i := 118) rfl) rfl)
theorem lX10_85 : Cond.methodLink RX10 85 yX3_init ∈ gT := (inT1 (List.mem_of_getElem? (i := 157) rfl) rfl)
theorem lX10_88 : Cond.methodLink RX10 88 yX5_init ∈ gT := (inT2 (List.mem_of_getElem? (i := 45) rfl) rfl)
theorem lX10_97 : Cond.methodLink RX10 97 yX6_init ∈ gT := (inT2 (List.mem_of_getElem? (i := 84) rfl) rfl)
theorem lX10_107 : Cond.methodLink RX10 107 yX10_putBytes ∈ gT := (inT3 (List.mem_of_getElem? (i := 9) rfl) rfl)
theorem lX10_111 : Cond.methodLink RX10 111 yX10_sparePage ∈ gT := (inT3 (List.mem_of_getElem? (i := 17) rfl) rfl)
theorem lX10_115 : Cond.methodLink RX10 115 yX5_read ∈ gT := (inT3 (List.mem_of_getElem? (i := 21) rfl) rfl)
theorem lX10_125 : Cond.methodLink RX10 125 yX10_goOnFrom ∈ gT := (inT4 (List.mem_of_getElem? (i := 12) rfl) rfl)
theorem lX10_135 : Cond.methodLink RX10 135 yX10_current ∈ gT := (inT4 (List.mem_of_getElem? (i := 32) rfl) rfl)
theorem lX10_151 : Cond.methodLink RX10 151 yX10_isShape ∈ gT := (inT4 (List.mem_of_getElem? (i := 40) rfl) rfl)
theorem lX10_167 : Cond.methodLink RX10 167 yX10_setting ∈ gT := (inT4 (List.mem_of_getElem? (i := 44) rfl) rfl)
theorem lX10_174 : Cond.methodLink RX10 174 yX10_isWord ∈ gT := (inT4 (List.mem_of_getElem? (i := 172) rfl) rfl)
theorem lX10_180 : Cond.methodLink RX10 180 yX10_wideNow ∈ gT := (inT4 (List.mem_of_getElem? (i := 176) rfl) rfl)
theorem lX10_184 : Cond.methodLink RX10 184 yX8_hides ∈ gT := (inT4 (List.mem_of_getElem? (i := 182) rfl) rfl)
theorem lX10_187 : Cond.methodLink RX10 187 yX10_isLine ∈ gT := (inT4 (List.mem_of_getElem? (i := 187) rfl) rfl)
theorem lX10_191 : Cond.methodLink RX10 191 yX3_reach ∈ gT := (inT4 (List.mem_of_getElem? (i := 192) rfl) rfl)
theorem lX10_196 : Cond.methodLink RX10 196 yX6_spanLeft ∈ gT := (inT4 (List.mem_of_getElem? (i := 194) rfl) rfl)
theorem lX10_199 : Cond.methodLink RX10 199 yX6_spanRight ∈ gT := (inT4 (List.mem_of_getElem? (i := 195) rfl) rfl)
theorem lX10_206 : Cond.methodLink RX10 206 yX7_inOne ∈ gT := (inT4 (List.mem_of_getElem? (i := 200) rfl) rfl)
theorem lX10_232 : Cond.methodLink RX10 232 yX8_copyFrom ∈ gT := (inT4 (List.mem_of_getElem? (i := 16) rfl) rfl)
theorem lX10_236 : Cond.methodLink RX10 236 yX8_shift ∈ gT := (inT4 (List.mem_of_getElem? (i := 216) rfl) rfl)
theorem lX10_240 : Cond.methodLink RX10 240 yX10_takeDraft ∈ gT := (inT4 (List.mem_of_getElem? (i := 220) rfl) rfl)
theorem lX10_243 : Cond.methodLink RX10 243 yX8_bind ∈ gT := (inT4 (List.mem_of_getElem? (i := 234) rfl) rfl)
theorem lX10_247 : Cond.methodLink RX10 247 yX8_flip ∈ gT := (inT5 (List.mem_of_getElem? (i := 2) rfl) rfl)
theorem lX10_251 : Cond.methodLink RX10 251 yX8_dye ∈ gT := (inT5 (List.mem_of_getElem? (i := 10) rfl) rfl)
theorem lX10_260 : Cond.methodLink RX10 260 yX4_bringBack ∈ gT := (inT5 (List.mem_of_getElem? (i := 18) rfl) rfl)
theorem lX10_263 : Cond.methodLink RX10 263 yX9_isTray ∈ gT := (inT5 (List.mem_of_getElem? (i := 29) rfl) rfl)
theorem lX10_269 : Cond.methodLink RX10 269 yX10_draftDeeds ∈ gT := (inT5 (List.mem_of_getElem? (i := 33) rfl) rfl)
theorem lX10_272 : Cond.methodLink RX10 272 yX9_get ∈ gT := (inT5 (List.mem_of_getElem? (i := 37) rfl) rfl)
theorem lX10_276 : Cond.methodLink RX10 276 yX8_deed ∈ gT := (inT5 (List.mem_of_getElem? (i := 41) rfl) rfl)
theorem lX10_280 : Cond.methodLink RX10 280 yX10_tryDraft ∈ gT := (inT5 (List.mem_of_getElem? (i := 51) rfl) rfl)
theorem lX10_286 : Cond.methodLink RX10 286 yX6_lastLine ∈ gT := (inT5 (List.mem_of_getElem? (i := 55) rfl) rfl)
theorem lX10_289 : Cond.methodLink RX10 289 yX9_refusal ∈ gT := (inT5 (List.mem_of_getElem? (i := 64) rfl) rfl)
theorem lX10_292 : Cond.methodLink RX10 292 yX10_drawnDeed ∈ gT := (inT5 (List.mem_of_getElem? (i := 73) rfl) rfl)
theorem lX10_297 : Cond.methodLink RX10 297 yX6_lineOf ∈ gT := (inT5 (List.mem_of_getElem? (i := 94) rfl) rfl)
theorem lX10_300 : Cond.methodLink RX10 300 yX3_wideOf ∈ gT := (inT4 (List.mem_of_getElem? (i := 181) rfl) rfl)
theorem lX10_304 : Cond.methodLink RX10 304 yX6_raggedness ∈ gT := (inT5 (List.mem_of_getElem? (i := 103) rfl) rfl)
theorem lX10_307 : Cond.methodLink RX10 307 yX0_find ∈ gT := (inT5 (List.mem_of_getElem? (i := 115) rfl) rfl)
theorem lX10_324 : Cond.methodLink RX10 324 yX6_clashing ∈ gT := (inT5 (List.mem_of_getElem? (i := 156) rfl) rfl)
theorem lX10_330 : Cond.methodLink RX10 330 yJ6_bitCount_0f7a4 ∈ gT := (inT5 (List.mem_of_getElem? (i := 164) rfl) rfl)
theorem lX10_335 : Cond.methodLink RX10 335 yX6_settle ∈ gT := (inT4 (List.mem_of_getElem? (i := 48) rfl) rfl)
theorem lX10_339 : Cond.methodLink RX10 339 yX6_isBetter ∈ gT := (inT5 (List.mem_of_getElem? (i := 174) rfl) rfl)
theorem lX10_346 : Cond.methodLink RX10 346 yX10_seenBy ∈ gT := (inT5 (List.mem_of_getElem? (i := 191) rfl) rfl)
theorem lX10_349 : Cond.methodLink RX10 349 yX3_mostAlike ∈ gT := (inT5 (List.mem_of_getElem? (i := 205) rfl) rfl)
theorem lX10_352 : Cond.methodLink RX10 352 yX10_refusedLots ∈ gT := (inT5 (List.mem_of_getElem? (i := 216) rfl) rfl)
theorem lX10_355 : Cond.methodLink RX10 355 yX10_drawLots ∈ gT := (inT5 (List.mem_of_getElem? (i := 219) rfl) rfl)
theorem lX10_358 : Cond.methodLink RX10 358 yX10_lotsIn ∈ gT := (inT5 (List.mem_of_getElem? (i := 231) rfl) rfl)
theorem lX10_361 : Cond.methodLink RX10 361 yX10_lowest ∈ gT := (inT5 (List.mem_of_getElem? (i := 234) rfl) rfl)
theorem lX10_364 : Cond.methodLink RX10 364 yX1_build ∈ gT := (inT6 (List.mem_of_getElem? (i := 5) rfl) rfl)
theorem lX10_368 : Cond.methodLink RX10 368 yX1_refusal ∈ gT := (inT6 (List.mem_of_getElem? (i := 14) rfl) rfl)
theorem lX10_373 : Cond.methodLink RX10 373 yX9_build ∈ gT := (inT6 (List.mem_of_getElem? (i := 26) rfl) rfl)
theorem lX10_378 : Cond.methodLink RX10 378 yX9_put ∈ gT := (inT6 (List.mem_of_getElem? (i := 35) rfl) rfl)
theorem lX10_382 : Cond.methodLink RX10 382 yJ9_min_7cf53 ∈ gT := (inT6 (List.mem_of_getElem? (i := 43) rfl) rfl)
theorem lX10_387 : Cond.methodLink RX10 387 yX8_tiedShapes ∈ gT := (inT6 (List.mem_of_getElem? (i := 56) rfl) rfl)
theorem lX10_393 : Cond.methodLink RX10 393 yX3_learnWides ∈ gT := (inT4 (List.mem_of_getElem? (i := 180) rfl) rfl)
theorem lX10_396 : Cond.methodLink RX10 396 yX4_forget ∈ gT := (inT4 (List.mem_of_getElem? (i := 20) rfl) rfl)
theorem lX10_399 : Cond.methodLink RX10 399 yX4_push ∈ gT := (inT4 (List.mem_of_getElem? (i := 224) rfl) rfl)
theorem lX10_402 : Cond.methodLink RX10 402 yX6_cutRest ∈ gT := (inT4 (List.mem_of_getElem? (i := 164) rfl) rfl)
theorem lX10_406 : Cond.methodLink RX10 406 yX10_draw ∈ gT := (inT5 (List.mem_of_getElem? (i := 77) rfl) rfl)
theorem lX10_411 : Cond.methodLink RX10 411 yX3_inksBy ∈ gT := (inT5 (List.mem_of_getElem? (i := 196) rfl) rfl)
theorem lX10_414 : Cond.methodLink RX10 414 yX10_addDraw ∈ gT := (inT5 (List.mem_of_getElem? (i := 223) rfl) rfl)
theorem lX10_417 : Cond.methodLink RX10 417 yX10_lotBit ∈ gT := (inT5 (List.mem_of_getElem? (i := 227) rfl) rfl)
theorem lX0_32 : Cond.methodLink RX0 32 yX6_placedWides ∈ gT := (inT5 (List.mem_of_getElem? (i := 119) rfl) rfl)
theorem lX0_39 : Cond.methodLink RX0 39 yJ7_fill_53178 ∈ gT := (inT5 (List.mem_of_getElem? (i := 124) rfl) rfl)
theorem lX0_45 : Cond.methodLink RX0 45 yJ7_fill_d0a16 ∈ gT := (inT5 (List.mem_of_getElem? (i := 125) rfl) rfl)
theorem lX0_57 : Cond.methodLink RX0 57 yX0_takeUpTo ∈ gT := (inT5 (List.mem_of_getElem? (i := 128) rfl) rfl)
theorem lX0_61 : Cond.methodLink RX0 61 yX7_leftOver ∈ gT := (inT5 (List.mem_of_getElem? (i := 132) rfl) rfl)
theorem lX0_65 : Cond.methodLink RX0 65 yX0_offer ∈ gT := (inT5 (List.mem_of_getElem? (i := 133) rfl) rfl)
theorem lX0_71 : Cond.methodLink RX0 71 yJ9_min_f86c9 ∈ gT := (inT5 (List.mem_of_getElem? (i := 138) rfl) rfl)
theorem lX1_25 : Cond.methodLink RX1 25 yJ7_fill_53178 ∈ gT := (inT6 (List.mem_of_getElem? (i := 9) rfl) rfl)
theorem lX2_25 : Cond.methodLink RX2 25 yX2_work ∈ gT := (inT4 (List.mem_of_getElem? (i := 60) rfl) rfl)
theorem lX2_33 : Cond.methodLink RX2 33 yJ9_min_f86c9 ∈ gT := (inT4 (List.mem_of_getElem? (i := 66) rfl) rfl)
theorem lX2_39 : Cond.methodLink RX2 39 yJ9_max_f86c9 ∈ gT := (inT4 (List.mem_of_getElem? (i := 69) rfl) rfl)
theorem lX2_42 : Cond.methodLink RX2 42 yJ9_min_7cf53 ∈ gT := (inT4 (List.mem_of_getElem? (i := 75) rfl) rfl)
theorem lX2_44 : Cond.methodLink RX2 44 yJ9_max_7cf53 ∈ gT := (inT4 (List.mem_of_getElem? (i := 76) rfl) rfl)
theorem lX3_29 : Cond.methodLink RX3 29 yX8_init ∈ gT := (inT1 (List.mem_of_getElem? (i := 162) rfl) rfl)
theorem lX3_50 : Cond.methodLink RX3 50 yX3_clear ∈ gT := (inT1 (List.mem_of_getElem? (i := 184) rfl) rfl)
theorem lX3_75 : Cond.methodLink RX3 75 yX8_clear ∈ gT := (inT1 (List.mem_of_getElem? (i := 188) rfl) rfl)
theorem lX3_85 : Cond.methodLink RX3 85 yX2_tell ∈ gT := (inT4 (List.mem_of_getElem? (i := 56) rfl) rfl)
theorem lX3_89 : Cond.methodLink RX3 89 yX2_within ∈ gT := (inT4 (List.mem_of_getElem? (i := 72) rfl) rfl)
theorem lX3_93 : Cond.methodLink RX3 93 yX3_wideOf ∈ gT := (inT5 (List.mem_of_getElem? (i := 200) rfl) rfl)
theorem lX3_97 : Cond.methodLink RX3 97 yX3_inksBy ∈ gT := (inT5 (List.mem_of_getElem? (i := 209) rfl) rfl)
theorem lX3_100 : Cond.methodLink RX3 100 yJ6_bitCount_0f7a4 ∈ gT := (inT5 (List.mem_of_getElem? (i := 210) rfl) rfl)
theorem lX3_106 : Cond.methodLink RX3 106 yJ9_max_7cf53 ∈ gT := (inT5 (List.mem_of_getElem? (i := 211) rfl) rfl)
theorem lX3_111 : Cond.methodLink RX3 111 yX3_rootUp ∈ gT := (inT4 (List.mem_of_getElem? (i := 102) rfl) rfl)
theorem lX3_114 : Cond.methodLink RX3 114 yJ9_min_7cf53 ∈ gT := (inT4 (List.mem_of_getElem? (i := 105) rfl) rfl)
theorem lX4_22 : Cond.methodLink RX4 22 yX8_init ∈ gT := (inT1 (List.mem_of_getElem? (i := 79) rfl) rfl)
theorem lX4_23 : Cond.methodLink RX4 23 yX8_copyFrom ∈ gT := (inT4 (List.mem_of_getElem? (i := 228) rfl) rfl)
theorem lX4_27 : Cond.methodLink RX4 27 yJ9_min_7cf53 ∈ gT := (inT4 (List.mem_of_getElem? (i := 229) rfl) rfl)
theorem lX4_33 : Cond.methodLink RX4 33 yJ9_floorMod_7cf53 ∈ gT := (inT5 (List.mem_of_getElem? (i := 22) rfl) rfl)
theorem lX5_50 : Cond.methodLink RX5 50 yX3_clear ∈ gT := (inT3 (List.mem_of_getElem? (i := 25) rfl) rfl)
theorem lX5_53 : Cond.methodLink RX5 53 yX5_next ∈ gT := (inT3 (List.mem_of_getElem? (i := 26) rfl) rfl)
theorem lX5_56 : Cond.methodLink RX5 56 yX5_head ∈ gT := (inT3 (List.mem_of_getElem? (i := 127) rfl) rfl)
theorem lX5_59 : Cond.methodLink RX5 59 yX5_line ∈ gT := (inT3 (List.mem_of_getElem? (i := 174) rfl) rfl)
theorem lX5_62 : Cond.methodLink RX5 62 yX5_sign ∈ gT := (inT3 (List.mem_of_getElem? (i := 170) rfl) rfl)
theorem lX5_69 : Cond.methodLink RX5 69 yX5_isLetter ∈ gT := (inT3 (List.mem_of_getElem? (i := 30) rfl) rfl)
theorem lX5_73 : Cond.methodLink RX5 73 yX5_isDigit ∈ gT := (inT3 (List.mem_of_getElem? (i := 33) rfl) rfl)
theorem lX5_76 : Cond.methodLink RX5 76 yX5_fail ∈ gT := (inT3 (List.mem_of_getElem? (i := 36) rfl) rfl)
theorem lX5_81 : Cond.methodLink RX5 81 yJ0_indexOf_0f7a4 ∈ gT := (inT3 (List.mem_of_getElem? (i := 41) rfl) rfl)
theorem lX5_87 : Cond.methodLink RX5 87 yJ0_length_8abf5 ∈ gT := (inT3 (List.mem_of_getElem? (i := 140) rfl) rfl)
theorem lX5_90 : Cond.methodLink RX5 90 yJ0_charAt_5068e ∈ gT := (inT3 (List.mem_of_getElem? (i := 141) rfl) rfl)
theorem lX5_94 : Cond.methodLink RX5 94 yX5_isWord ∈ gT := (inT3 (List.mem_of_getElem? (i := 136) rfl) rfl)
theorem lX5_99 : Cond.methodLink RX5 99 yX5_name ∈ gT := (inT3 (List.mem_of_getElem? (i := 132) rfl) rfl)
theorem lX5_105 : Cond.methodLink RX5 105 yX5_number ∈ gT := (inT3 (List.mem_of_getElem? (i := 162) rfl) rfl)
theorem lX5_134 : Cond.methodLink RX5 134 yX5_outline ∈ gT := (inT3 (List.mem_of_getElem? (i := 179) rfl) rfl)
theorem lX5_143 : Cond.methodLink RX5 143 yX5_tieLine ∈ gT := (inT3 (List.mem_of_getElem? (i := 186) rfl) rfl)
theorem lX5_148 : Cond.methodLink RX5 148 yX5_wordsLine ∈ gT := (inT3 (List.mem_of_getElem? (i := 191) rfl) rfl)
theorem lX5_151 : Cond.methodLink RX5 151 yX5_lawLine ∈ gT := (inT3 (List.mem_of_getElem? (i := 195) rfl) rfl)
theorem lX5_192 : Cond.methodLink RX5 192 yX5_sum ∈ gT := (inT3 (List.mem_of_getElem? (i := 199) rfl) rfl)
theorem lX5_195 : Cond.methodLink RX5 195 yX5_term ∈ gT := (inT3 (List.mem_of_getElem? (i := 203) rfl) rfl)
theorem lX5_198 : Cond.methodLink RX5 198 yX2_add ∈ gT := (inT3 (List.mem_of_getElem? (i := 211) rfl) rfl)
theorem lX5_201 : Cond.methodLink RX5 201 yX5_atom ∈ gT := (inT3 (List.mem_of_getElem? (i := 207) rfl) rfl)
theorem lX5_204 : Cond.methodLink RX5 204 yX5_goesIn ∈ gT := (inT3 (List.mem_of_getElem? (i := 215) rfl) rfl)
theorem lX5_209 : Cond.methodLink RX5 209 yX5_choice ∈ gT := (inT3 (List.mem_of_getElem? (i := 220) rfl) rfl)
theorem lX5_212 : Cond.methodLink RX5 212 yX5_about ∈ gT := (inT4 (List.mem_of_getElem? (i := 2) rfl) rfl)
theorem lX5_215 : Cond.methodLink RX5 215 yX5_truth ∈ gT := (inT3 (List.mem_of_getElem? (i := 224) rfl) rfl)
theorem lX5_231 : Cond.methodLink RX5 231 yX5_both ∈ gT := (inT3 (List.mem_of_getElem? (i := 228) rfl) rfl)
theorem lX5_236 : Cond.methodLink RX5 236 yX5_unit ∈ gT := (inT3 (List.mem_of_getElem? (i := 232) rfl) rfl)
theorem lX6_63 : Cond.methodLink RX6 63 yX3_learnWides ∈ gT := (inT4 (List.mem_of_getElem? (i := 52) rfl) rfl)
theorem lX6_69 : Cond.methodLink RX6 69 yX3_learnGaps ∈ gT := (inT4 (List.mem_of_getElem? (i := 77) rfl) rfl)
theorem lX6_72 : Cond.methodLink RX6 72 yX6_setFreeShapes ∈ gT := (inT4 (List.mem_of_getElem? (i := 81) rfl) rfl)
theorem lX6_76 : Cond.methodLink RX6 76 yX6_pour ∈ gT := (inT4 (List.mem_of_getElem? (i := 85) rfl) rfl)
theorem lX6_79 : Cond.methodLink RX6 79 yX6_mark ∈ gT := (inT4 (List.mem_of_getElem? (i := 144) rfl) rfl)
theorem lX6_82 : Cond.methodLink RX6 82 yX6_setTiedShapes ∈ gT := (inT4 (List.mem_of_getElem? (i := 152) rfl) rfl)
theorem lX6_85 : Cond.methodLink RX6 85 yX6_weigh ∈ gT := (inT4 (List.mem_of_getElem? (i := 156) rfl) rfl)
theorem lX6_94 : Cond.methodLink RX6 94 yX6_cut ∈ gT := (inT4 (List.mem_of_getElem? (i := 94) rfl) rfl)
theorem lX6_106 : Cond.methodLink RX6 106 yX6_lineOf ∈ gT := (inT4 (List.mem_of_getElem? (i := 148) rfl) rfl)
theorem lX6_113 : Cond.methodLink RX6 113 yX6_isAsIn ∈ gT := (inT4 (List.mem_of_getElem? (i := 160) rfl) rfl)
theorem lX6_116 : Cond.methodLink RX6 116 yJ7_fill_53178 ∈ gT := (inT4 (List.mem_of_getElem? (i := 89) rfl) rfl)
theorem lX6_122 : Cond.methodLink RX6 122 yX7_clear ∈ gT := (inT4 (List.mem_of_getElem? (i := 90) rfl) rfl)
theorem lX6_134 : Cond.methodLink RX6 134 yX6_fill ∈ gT := (inT4 (List.mem_of_getElem? (i := 132) rfl) rfl)
theorem lX6_140 : Cond.methodLink RX6 140 yX8_hides ∈ gT := (inT4 (List.mem_of_getElem? (i := 136) rfl) rfl)
theorem lX6_143 : Cond.methodLink RX6 143 yX3_wideOf ∈ gT := (inT4 (List.mem_of_getElem? (i := 140) rfl) rfl)
theorem lX6_151 : Cond.methodLink RX6 151 yX3_reach ∈ gT := (inT4 (List.mem_of_getElem? (i := 98) rfl) rfl)
theorem lX6_155 : Cond.methodLink RX6 155 yX6_spanLeft ∈ gT := (inT4 (List.mem_of_getElem? (i := 106) rfl) rfl)
theorem lX6_158 : Cond.methodLink RX6 158 yX6_spanRight ∈ gT := (inT4 (List.mem_of_getElem? (i := 114) rfl) rfl)
theorem lX6_161 : Cond.methodLink RX6 161 yX7_addSpan ∈ gT := (inT4 (List.mem_of_getElem? (i := 118) rfl) rfl)
theorem lX6_168 : Cond.methodLink RX6 168 yX7_cutLine ∈ gT := (inT4 (List.mem_of_getElem? (i := 122) rfl) rfl)
theorem lX6_177 : Cond.methodLink RX6 177 yX3_gapOf ∈ gT := (inT4 (List.mem_of_getElem? (i := 110) rfl) rfl)
theorem lX6_183 : Cond.methodLink RX6 183 yJ9_max_7cf53 ∈ gT := (inT5 (List.mem_of_getElem? (i := 59) rfl) rfl)
theorem lX6_188 : Cond.methodLink RX6 188 yX6_lastLine ∈ gT := (inT5 (List.mem_of_getElem? (i := 178) rfl) rfl)
theorem lX6_192 : Cond.methodLink RX6 192 yX7_leftOver ∈ gT := (inT5 (List.mem_of_getElem? (i := 107) rfl) rfl)
theorem lX7_43 : Cond.methodLink RX7 43 yJ9_min_7cf53 ∈ gT := (inT4 (List.mem_of_getElem? (i := 126) rfl) rfl)
theorem lX7_49 : Cond.methodLink RX7 49 yX7_addSlot ∈ gT := (inT4 (List.mem_of_getElem? (i := 127) rfl) rfl)
theorem lX7_53 : Cond.methodLink RX7 53 yJ9_max_7cf53 ∈ gT := (inT4 (List.mem_of_getElem? (i := 131) rfl) rfl)
theorem lX8_28 : Cond.methodLink RX8 28 yJ7_fill_53178 ∈ gT := (inT1 (List.mem_of_getElem? (i := 37) rfl) rfl)
theorem lX8_46 : Cond.methodLink RX8 46 yX8_dye ∈ gT := (inT5 (List.mem_of_getElem? (i := 47) rfl) rfl)
theorem lX8_50 : Cond.methodLink RX8 50 yX8_flip ∈ gT := (inT5 (List.mem_of_getElem? (i := 48) rfl) rfl)
theorem lX8_54 : Cond.methodLink RX8 54 yX8_bind ∈ gT := (inT5 (List.mem_of_getElem? (i := 49) rfl) rfl)
theorem lX8_58 : Cond.methodLink RX8 58 yX8_shift ∈ gT := (inT5 (List.mem_of_getElem? (i := 50) rfl) rfl)
theorem lX9_22 : Cond.methodLink RX9 22 yJ7_fill_53178 ∈ gT := (inT1 (List.mem_of_getElem? (i := 122) rfl) rfl)
theorem lX9_28 : Cond.methodLink RX9 28 yX9_isTray ∈ gT := (inT5 (List.mem_of_getElem? (i := 68) rfl) rfl)
theorem lL_9 : Cond.methodLink RL 9 yX10_init ∈ gT := (inT1 (List.mem_of_getElem? (i := 23) rfl) rfl)
theorem lL_12 : Cond.methodLink RL 12 yX11_init ∈ gT := (inT6 (List.mem_of_getElem? (i := 62) rfl) rfl)
theorem lL_13 : Cond.methodLink RL 13 yX10_feed ∈ gT := (inT3 (List.mem_of_getElem? (i := 5) rfl) rfl)
theorem lL_17 : Cond.methodLink RL 17 yX11_feed ∈ gT := (inT7 (List.mem_of_getElem? (i := 8) rfl) rfl)
theorem lL_18 : Cond.methodLink RL 18 yX10_page ∈ gT := (inT3 (List.mem_of_getElem? (i := 13) rfl) rfl)
theorem lL_22 : Cond.methodLink RL 22 yX11_page ∈ gT := (inT7 (List.mem_of_getElem? (i := 12) rfl) rfl)
theorem lL_23 : Cond.methodLink RL 23 yX10_fault ∈ gT := (inT4 (List.mem_of_getElem? (i := 24) rfl) rfl)
theorem lL_26 : Cond.methodLink RL 26 yX11_fault ∈ gT := (inT7 (List.mem_of_getElem? (i := 125) rfl) rfl)
theorem lL_27 : Cond.methodLink RL 27 yX10_set ∈ gT := (inT4 (List.mem_of_getElem? (i := 28) rfl) rfl)
theorem lL_30 : Cond.methodLink RL 30 yX11_set ∈ gT := (inT7 (List.mem_of_getElem? (i := 129) rfl) rfl)
theorem lL_31 : Cond.methodLink RL 31 yX10_shape ∈ gT := (inT4 (List.mem_of_getElem? (i := 36) rfl) rfl)
theorem lL_35 : Cond.methodLink RL 35 yX11_shape ∈ gT := (inT7 (List.mem_of_getElem? (i := 134) rfl) rfl)
theorem lL_36 : Cond.methodLink RL 36 yX10_word ∈ gT := (inT4 (List.mem_of_getElem? (i := 168) rfl) rfl)
theorem lL_39 : Cond.methodLink RL 39 yX11_word ∈ gT := (inT7 (List.mem_of_getElem? (i := 228) rfl) rfl)
theorem lL_40 : Cond.methodLink RL 40 yX10_span ∈ gT := (inT4 (List.mem_of_getElem? (i := 183) rfl) rfl)
theorem lL_44 : Cond.methodLink RL 44 yX11_span ∈ gT := (inT7 (List.mem_of_getElem? (i := 236) rfl) rfl)
theorem lL_45 : Cond.methodLink RL 45 yX10_slots ∈ gT := (inT4 (List.mem_of_getElem? (i := 196) rfl) rfl)
theorem lL_48 : Cond.methodLink RL 48 yX11_slots ∈ gT := (inT8 (List.mem_of_getElem? (i := 6) rfl) rfl)
theorem lL_49 : Cond.methodLink RL 49 yX10_slot ∈ gT := (inT4 (List.mem_of_getElem? (i := 204) rfl) rfl)
theorem lL_52 : Cond.methodLink RL 52 yX11_slot ∈ gT := (inT8 (List.mem_of_getElem? (i := 10) rfl) rfl)
theorem lL_53 : Cond.methodLink RL 53 yX10_lies ∈ gT := (inT4 (List.mem_of_getElem? (i := 208) rfl) rfl)
theorem lL_56 : Cond.methodLink RL 56 yX11_lies ∈ gT := (inT8 (List.mem_of_getElem? (i := 19) rfl) rfl)
theorem lL_57 : Cond.methodLink RL 57 yX10_move ∈ gT := (inT4 (List.mem_of_getElem? (i := 212) rfl) rfl)
theorem lL_60 : Cond.methodLink RL 60 yX11_move ∈ gT := (inT8 (List.mem_of_getElem? (i := 23) rfl) rfl)
theorem lL_61 : Cond.methodLink RL 61 yX10_tie ∈ gT := (inT4 (List.mem_of_getElem? (i := 230) rfl) rfl)
theorem lL_64 : Cond.methodLink RL 64 yX11_tie ∈ gT := (inT8 (List.mem_of_getElem? (i := 43) rfl) rfl)
theorem lL_65 : Cond.methodLink RL 65 yX10_hide ∈ gT := (inT4 (List.mem_of_getElem? (i := 238) rfl) rfl)
theorem lL_68 : Cond.methodLink RL 68 yX11_hide ∈ gT := (inT8 (List.mem_of_getElem? (i := 49) rfl) rfl)
theorem lL_69 : Cond.methodLink RL 69 yX10_ink ∈ gT := (inT5 (List.mem_of_getElem? (i := 6) rfl) rfl)
theorem lL_72 : Cond.methodLink RL 72 yX11_ink ∈ gT := (inT8 (List.mem_of_getElem? (i := 53) rfl) rfl)
theorem lL_73 : Cond.methodLink RL 73 yX10_undo ∈ gT := (inT5 (List.mem_of_getElem? (i := 14) rfl) rfl)
theorem lL_76 : Cond.methodLink RL 76 yX11_undo ∈ gT := (inT8 (List.mem_of_getElem? (i := 58) rfl) rfl)
theorem lL_77 : Cond.methodLink RL 77 yX10_judge ∈ gT := (inT5 (List.mem_of_getElem? (i := 25) rfl) rfl)
theorem lL_80 : Cond.methodLink RL 80 yX11_judge ∈ gT := (inT8 (List.mem_of_getElem? (i := 63) rfl) rfl)
theorem lL_81 : Cond.methodLink RL 81 yX10_perform ∈ gT := (inT5 (List.mem_of_getElem? (i := 60) rfl) rfl)
theorem lL_84 : Cond.methodLink RL 84 yX11_perform ∈ gT := (inT8 (List.mem_of_getElem? (i := 105) rfl) rfl)
theorem lL_85 : Cond.methodLink RL 85 yX10_day ∈ gT := (inT5 (List.mem_of_getElem? (i := 69) rfl) rfl)
theorem lL_88 : Cond.methodLink RL 88 yX11_day ∈ gT := (inT8 (List.mem_of_getElem? (i := 109) rfl) rfl)
theorem lL_89 : Cond.methodLink RL 89 yX10_placed ∈ gT := (inT5 (List.mem_of_getElem? (i := 82) rfl) rfl)
theorem lL_93 : Cond.methodLink RL 93 yX11_placed ∈ gT := (inT8 (List.mem_of_getElem? (i := 123) rfl) rfl)
theorem lL_94 : Cond.methodLink RL 94 yX10_last ∈ gT := (inT5 (List.mem_of_getElem? (i := 86) rfl) rfl)
theorem lL_97 : Cond.methodLink RL 97 yX11_last ∈ gT := (inT8 (List.mem_of_getElem? (i := 127) rfl) rfl)
theorem lL_98 : Cond.methodLink RL 98 yX10_inLine ∈ gT := (inT5 (List.mem_of_getElem? (i := 90) rfl) rfl)
theorem lL_101 : Cond.methodLink RL 101 yX11_inLine ∈ gT := (inT8 (List.mem_of_getElem? (i := 131) rfl) rfl)
theorem lL_102 : Cond.methodLink RL 102 yX10_full ∈ gT := (inT5 (List.mem_of_getElem? (i := 95) rfl) rfl)
theorem lL_105 : Cond.methodLink RL 105 yX11_full ∈ gT := (inT8 (List.mem_of_getElem? (i := 135) rfl) rfl)
theorem lL_106 : Cond.methodLink RL 106 yX10_ragged ∈ gT := (inT5 (List.mem_of_getElem? (i := 99) rfl) rfl)
theorem lL_109 : Cond.methodLink RL 109 yX11_ragged ∈ gT := (inT8 (List.mem_of_getElem? (i := 139) rfl) rfl)
theorem lL_110 : Cond.methodLink RL 110 yX10_tight ∈ gT := (inT5 (List.mem_of_getElem? (i := 111) rfl) rfl)
theorem lL_113 : Cond.methodLink RL 113 yX11_tight ∈ gT := (inT8 (List.mem_of_getElem? (i := 151) rfl) rfl)
theorem lL_114 : Cond.methodLink RL 114 yX10_tightWays ∈ gT := (inT5 (List.mem_of_getElem? (i := 139) rfl) rfl)
theorem lL_118 : Cond.methodLink RL 118 yX11_tightWays ∈ gT := (inT8 (List.mem_of_getElem? (i := 169) rfl) rfl)
theorem lL_119 : Cond.methodLink RL 119 yX10_rounds ∈ gT := (inT5 (List.mem_of_getElem? (i := 144) rfl) rfl)
theorem lL_122 : Cond.methodLink RL 122 yX11_rounds ∈ gT := (inT8 (List.mem_of_getElem? (i := 173) rfl) rfl)
theorem lL_123 : Cond.methodLink RL 123 yX10_still ∈ gT := (inT5 (List.mem_of_getElem? (i := 148) rfl) rfl)
theorem lL_126 : Cond.methodLink RL 126 yX11_still ∈ gT := (inT8 (List.mem_of_getElem? (i := 177) rfl) rfl)
theorem lL_127 : Cond.methodLink RL 127 yX10_clash ∈ gT := (inT5 (List.mem_of_getElem? (i := 152) rfl) rfl)
theorem lL_130 : Cond.methodLink RL 130 yX11_clash ∈ gT := (inT8 (List.mem_of_getElem? (i := 181) rfl) rfl)
theorem lL_131 : Cond.methodLink RL 131 yX10_leastWide ∈ gT := (inT5 (List.mem_of_getElem? (i := 160) rfl) rfl)
theorem lL_134 : Cond.methodLink RL 134 yX11_leastWide ∈ gT := (inT8 (List.mem_of_getElem? (i := 185) rfl) rfl)
theorem lL_135 : Cond.methodLink RL 135 yX10_bestX ∈ gT := (inT5 (List.mem_of_getElem? (i := 170) rfl) rfl)
theorem lL_138 : Cond.methodLink RL 138 yX11_bestX ∈ gT := (inT8 (List.mem_of_getElem? (i := 193) rfl) rfl)
theorem lL_139 : Cond.methodLink RL 139 yX10_costs ∈ gT := (inT5 (List.mem_of_getElem? (i := 179) rfl) rfl)
theorem lL_142 : Cond.methodLink RL 142 yX11_costs ∈ gT := (inT8 (List.mem_of_getElem? (i := 197) rfl) rfl)
theorem lL_143 : Cond.methodLink RL 143 yX10_pushes ∈ gT := (inT5 (List.mem_of_getElem? (i := 183) rfl) rfl)
theorem lL_146 : Cond.methodLink RL 146 yX11_pushes ∈ gT := (inT8 (List.mem_of_getElem? (i := 201) rfl) rfl)
theorem lL_147 : Cond.methodLink RL 147 yX10_inks ∈ gT := (inT5 (List.mem_of_getElem? (i := 187) rfl) rfl)
theorem lL_150 : Cond.methodLink RL 150 yX11_inks ∈ gT := (inT8 (List.mem_of_getElem? (i := 205) rfl) rfl)
theorem lL_151 : Cond.methodLink RL 151 yX10_measure ∈ gT := (inT5 (List.mem_of_getElem? (i := 201) rfl) rfl)
theorem lL_154 : Cond.methodLink RL 154 yX11_measure ∈ gT := (inT8 (List.mem_of_getElem? (i := 218) rfl) rfl)
theorem lL_155 : Cond.methodLink RL 155 yX10_chance ∈ gT := (inT5 (List.mem_of_getElem? (i := 212) rfl) rfl)
theorem lL_158 : Cond.methodLink RL 158 yX11_chance ∈ gT := (inT8 (List.mem_of_getElem? (i := 226) rfl) rfl)
theorem lL_159 : Cond.methodLink RL 159 yX10_mean ∈ gT := (inT5 (List.mem_of_getElem? (i := 237) rfl) rfl)
theorem lL_162 : Cond.methodLink RL 162 yX11_mean ∈ gT := (inT9 (List.mem_of_getElem? (i := 4) rfl) rfl)
theorem lL_163 : Cond.methodLink RL 163 yX10_drawer ∈ gT := (inT6 (List.mem_of_getElem? (i := 1) rfl) rfl)
theorem lL_166 : Cond.methodLink RL 166 yX11_drawer ∈ gT := (inT9 (List.mem_of_getElem? (i := 8) rfl) rfl)
theorem lL_167 : Cond.methodLink RL 167 yX10_keep ∈ gT := (inT6 (List.mem_of_getElem? (i := 10) rfl) rfl)
theorem lL_170 : Cond.methodLink RL 170 yX11_keep ∈ gT := (inT9 (List.mem_of_getElem? (i := 12) rfl) rfl)
theorem lL_171 : Cond.methodLink RL 171 yX10_kept ∈ gT := (inT6 (List.mem_of_getElem? (i := 18) rfl) rfl)
theorem lL_174 : Cond.methodLink RL 174 yX11_kept ∈ gT := (inT9 (List.mem_of_getElem? (i := 16) rfl) rfl)
theorem lL_175 : Cond.methodLink RL 175 yX10_numbers ∈ gT := (inT6 (List.mem_of_getElem? (i := 22) rfl) rfl)
theorem lL_178 : Cond.methodLink RL 178 yX11_numbers ∈ gT := (inT9 (List.mem_of_getElem? (i := 20) rfl) rfl)
theorem lL_181 : Cond.methodLink RL 181 yX10_write ∈ gT := (inT6 (List.mem_of_getElem? (i := 30) rfl) rfl)
theorem lL_185 : Cond.methodLink RL 185 yX11_write ∈ gT := (inT9 (List.mem_of_getElem? (i := 24) rfl) rfl)
theorem lL_186 : Cond.methodLink RL 186 yX10_lists ∈ gT := (inT6 (List.mem_of_getElem? (i := 39) rfl) rfl)
theorem lL_189 : Cond.methodLink RL 189 yX11_lists ∈ gT := (inT9 (List.mem_of_getElem? (i := 32) rfl) rfl)
theorem lL_190 : Cond.methodLink RL 190 yX10_image ∈ gT := (inT6 (List.mem_of_getElem? (i := 44) rfl) rfl)
theorem lL_193 : Cond.methodLink RL 193 yX11_image ∈ gT := (inT9 (List.mem_of_getElem? (i := 36) rfl) rfl)
theorem lL_194 : Cond.methodLink RL 194 yX10_restore ∈ gT := (inT6 (List.mem_of_getElem? (i := 48) rfl) rfl)
theorem lL_197 : Cond.methodLink RL 197 yX11_restore ∈ gT := (inT9 (List.mem_of_getElem? (i := 40) rfl) rfl)
theorem lL_198 : Cond.methodLink RL 198 yX10_count ∈ gT := (inT6 (List.mem_of_getElem? (i := 52) rfl) rfl)
theorem lL_201 : Cond.methodLink RL 201 yX11_count ∈ gT := (inT9 (List.mem_of_getElem? (i := 44) rfl) rfl)
theorem lX11_115 : Cond.methodLink RX11 115 yX11_plain ∈ gT := (inT6 (List.mem_of_getElem? (i := 66) rfl) rfl)
theorem lX11_127 : Cond.methodLink RX11 127 yJ0_length_8abf5 ∈ gT := (inT7 (List.mem_of_getElem? (i := 35) rfl) rfl)
theorem lX11_133 : Cond.methodLink RX11 133 yJ0_charAt_5068e ∈ gT := (inT7 (List.mem_of_getElem? (i := 36) rfl) rfl)
theorem lX11_143 : Cond.methodLink RX11 143 yX11_see ∈ gT := (inT7 (List.mem_of_getElem? (i := 23) rfl) rfl)
theorem lX11_150 : Cond.methodLink RX11 150 yX11_isSmall ∈ gT := (inT7 (List.mem_of_getElem? (i := 27) rfl) rfl)
theorem lX11_154 : Cond.methodLink RX11 154 yX11_keyAt ∈ gT := (inT7 (List.mem_of_getElem? (i := 30) rfl) rfl)
theorem lX11_157 : Cond.methodLink RX11 157 yX11_isDigit ∈ gT := (inT7 (List.mem_of_getElem? (i := 37) rfl) rfl)
theorem lX11_171 : Cond.methodLink RX11 171 yX11_is ∈ gT := (inT7 (List.mem_of_getElem? (i := 49) rfl) rfl)
theorem lX11_174 : Cond.methodLink RX11 174 yX11_next ∈ gT := (inT7 (List.mem_of_getElem? (i := 19) rfl) rfl)
theorem lX11_177 : Cond.methodLink RX11 177 yX11_fails ∈ gT := (inT7 (List.mem_of_getElem? (i := 53) rfl) rfl)
theorem lX11_181 : Cond.methodLink RX11 181 yX11_within ∈ gT := (inT7 (List.mem_of_getElem? (i := 16) rfl) rfl)
theorem lX11_188 : Cond.methodLink RX11 188 yX11_codes ∈ gT := (inT7 (List.mem_of_getElem? (i := 97) rfl) rfl)
theorem lX11_191 : Cond.methodLink RX11 191 yX11_wordOf ∈ gT := (inT7 (List.mem_of_getElem? (i := 101) rfl) rfl)
theorem lX11_194 : Cond.methodLink RX11 194 yX11_goesIn ∈ gT := (inT7 (List.mem_of_getElem? (i := 105) rfl) rfl)
theorem lX11_197 : Cond.methodLink RX11 197 yX11_readSum ∈ gT := (inT7 (List.mem_of_getElem? (i := 85) rfl) rfl)
theorem lX11_200 : Cond.methodLink RX11 200 yX11_eats ∈ gT := (inT7 (List.mem_of_getElem? (i := 45) rfl) rfl)
theorem lX11_203 : Cond.methodLink RX11 203 yX11_readIf ∈ gT := (inT7 (List.mem_of_getElem? (i := 109) rfl) rfl)
theorem lX11_206 : Cond.methodLink RX11 206 yX11_readTruth ∈ gT := (inT7 (List.mem_of_getElem? (i := 113) rfl) rfl)
theorem lX11_209 : Cond.methodLink RX11 209 yX11_readAtom ∈ gT := (inT7 (List.mem_of_getElem? (i := 93) rfl) rfl)
theorem lX11_212 : Cond.methodLink RX11 212 yX11_readTerm ∈ gT := (inT7 (List.mem_of_getElem? (i := 89) rfl) rfl)
theorem lX11_215 : Cond.methodLink RX11 215 yX11_readUnit ∈ gT := (inT7 (List.mem_of_getElem? (i := 121) rfl) rfl)
theorem lX11_218 : Cond.methodLink RX11 218 yX11_readBoth ∈ gT := (inT7 (List.mem_of_getElem? (i := 117) rfl) rfl)
theorem lX11_221 : Cond.methodLink RX11 221 yX11_takes ∈ gT := (inT7 (List.mem_of_getElem? (i := 57) rfl) rfl)
theorem lX11_225 : Cond.methodLink RX11 225 yX11_readShape ∈ gT := (inT7 (List.mem_of_getElem? (i := 69) rfl) rfl)
theorem lX11_228 : Cond.methodLink RX11 228 yX11_readTie ∈ gT := (inT7 (List.mem_of_getElem? (i := 73) rfl) rfl)
theorem lX11_231 : Cond.methodLink RX11 231 yX11_readWords ∈ gT := (inT7 (List.mem_of_getElem? (i := 77) rfl) rfl)
theorem lX11_234 : Cond.methodLink RX11 234 yX11_readLaw ∈ gT := (inT7 (List.mem_of_getElem? (i := 81) rfl) rfl)
theorem lX11_237 : Cond.methodLink RX11 237 yX11_readPage ∈ gT := (inT7 (List.mem_of_getElem? (i := 41) rfl) rfl)
theorem lX11_240 : Cond.methodLink RX11 240 yX11_closes ∈ gT := (inT7 (List.mem_of_getElem? (i := 61) rfl) rfl)
theorem lX11_243 : Cond.methodLink RX11 243 yX11_readLine ∈ gT := (inT7 (List.mem_of_getElem? (i := 65) rfl) rfl)
theorem lX11_253 : Cond.methodLink RX11 253 yX11_between ∈ gT := (inT7 (List.mem_of_getElem? (i := 207) rfl) rfl)
theorem lX11_257 : Cond.methodLink RX11 257 yX11_reckons ∈ gT := (inT7 (List.mem_of_getElem? (i := 203) rfl) rfl)
theorem lX11_262 : Cond.methodLink RX11 262 yX11_floorOf ∈ gT := (inT7 (List.mem_of_getElem? (i := 193) rfl) rfl)
theorem lX11_269 : Cond.methodLink RX11 269 yX11_ceilOf ∈ gT := (inT7 (List.mem_of_getElem? (i := 196) rfl) rfl)
theorem lX11_275 : Cond.methodLink RX11 275 yX11_rootOf ∈ gT := (inT7 (List.mem_of_getElem? (i := 185) rfl) rfl)
theorem lX11_279 : Cond.methodLink RX11 279 yX11_spansBy ∈ gT := (inT7 (List.mem_of_getElem? (i := 189) rfl) rfl)
theorem lX11_283 : Cond.methodLink RX11 283 yX11_gapOf ∈ gT := (inT7 (List.mem_of_getElem? (i := 199) rfl) rfl)
theorem lX11_295 : Cond.methodLink RX11 295 yX11_isSpanned ∈ gT := (inT7 (List.mem_of_getElem? (i := 181) rfl) rfl)
theorem lX11_302 : Cond.methodLink RX11 302 yX11_laysLine ∈ gT := (inT7 (List.mem_of_getElem? (i := 177) rfl) rfl)
theorem lX11_305 : Cond.methodLink RX11 305 yX11_isIn ∈ gT := (inT7 (List.mem_of_getElem? (i := 158) rfl) rfl)
theorem lX11_309 : Cond.methodLink RX11 309 yX11_laysSlots ∈ gT := (inT7 (List.mem_of_getElem? (i := 173) rfl) rfl)
theorem lX11_312 : Cond.methodLink RX11 312 yX11_widthOf ∈ gT := (inT7 (List.mem_of_getElem? (i := 212) rfl) rfl)
theorem lX11_315 : Cond.methodLink RX11 315 yX11_isShown ∈ gT := (inT7 (List.mem_of_getElem? (i := 216) rfl) rfl)
theorem lX11_318 : Cond.methodLink RX11 318 yX11_isTied ∈ gT := (inT7 (List.mem_of_getElem? (i := 154) rfl) rfl)
theorem lX11_324 : Cond.methodLink RX11 324 yX11_heightIn ∈ gT := (inT7 (List.mem_of_getElem? (i := 165) rfl) rfl)
theorem lX11_327 : Cond.methodLink RX11 327 yX11_pours ∈ gT := (inT7 (List.mem_of_getElem? (i := 169) rfl) rfl)
theorem lX11_330 : Cond.methodLink RX11 330 yX11_lineOf ∈ gT := (inT7 (List.mem_of_getElem? (i := 220) rfl) rfl)
theorem lX11_339 : Cond.methodLink RX11 339 yX11_goesRound ∈ gT := (inT7 (List.mem_of_getElem? (i := 161) rfl) rfl)
theorem lX11_342 : Cond.methodLink RX11 342 yX11_areAlike ∈ gT := (inT7 (List.mem_of_getElem? (i := 224) rfl) rfl)
theorem lX11_346 : Cond.methodLink RX11 346 yX11_asks ∈ gT := (inT7 (List.mem_of_getElem? (i := 146) rfl) rfl)
theorem lX11_349 : Cond.methodLink RX11 349 yX11_sets ∈ gT := (inT7 (List.mem_of_getElem? (i := 150) rfl) rfl)
theorem lX11_354 : Cond.methodLink RX11 354 yX11_isShape ∈ gT := (inT7 (List.mem_of_getElem? (i := 138) rfl) rfl)
theorem lX11_358 : Cond.methodLink RX11 358 yX11_setsNow ∈ gT := (inT7 (List.mem_of_getElem? (i := 142) rfl) rfl)
theorem lX11_361 : Cond.methodLink RX11 361 yX11_isWord ∈ gT := (inT7 (List.mem_of_getElem? (i := 232) rfl) rfl)
theorem lX11_364 : Cond.methodLink RX11 364 yX11_isRow ∈ gT := (inT8 (List.mem_of_getElem? (i := 0) rfl) rfl)
theorem lX11_371 : Cond.methodLink RX11 371 yX11_firstSlot ∈ gT := (inT8 (List.mem_of_getElem? (i := 15) rfl) rfl)
theorem lX11_382 : Cond.methodLink RX11 382 yX11_whyMove ∈ gT := (inT8 (List.mem_of_getElem? (i := 27) rfl) rfl)
theorem lX11_386 : Cond.methodLink RX11 386 yX11_stores ∈ gT := (inT8 (List.mem_of_getElem? (i := 35) rfl) rfl)
theorem lX11_389 : Cond.methodLink RX11 389 yX11_notes ∈ gT := (inT8 (List.mem_of_getElem? (i := 39) rfl) rfl)
theorem lX11_423 : Cond.methodLink RX11 423 yX11_whyNot ∈ gT := (inT8 (List.mem_of_getElem? (i := 75) rfl) rfl)
theorem lX11_427 : Cond.methodLink RX11 427 yX11_does ∈ gT := (inT8 (List.mem_of_getElem? (i := 89) rfl) rfl)
theorem lX11_430 : Cond.methodLink RX11 430 yX11_noTray ∈ gT := (inT8 (List.mem_of_getElem? (i := 67) rfl) rfl)
theorem lX11_433 : Cond.methodLink RX11 433 yX11_tells ∈ gT := (inT8 (List.mem_of_getElem? (i := 71) rfl) rfl)
theorem lX11_436 : Cond.methodLink RX11 436 yX11_isAgain ∈ gT := (inT8 (List.mem_of_getElem? (i := 93) rfl) rfl)
theorem lX11_439 : Cond.methodLink RX11 439 yX11_placedNow ∈ gT := (inT8 (List.mem_of_getElem? (i := 97) rfl) rfl)
theorem lX11_442 : Cond.methodLink RX11 442 yX11_lastNow ∈ gT := (inT8 (List.mem_of_getElem? (i := 101) rfl) rfl)
theorem lX11_449 : Cond.methodLink RX11 449 yX11_draw ∈ gT := (inT8 (List.mem_of_getElem? (i := 118) rfl) rfl)
theorem lX11_454 : Cond.methodLink RX11 454 yX11_drawn ∈ gT := (inT8 (List.mem_of_getElem? (i := 114) rfl) rfl)
theorem lX11_460 : Cond.methodLink RX11 460 yX11_laysPlaced ∈ gT := (inT8 (List.mem_of_getElem? (i := 143) rfl) rfl)
theorem lX11_463 : Cond.methodLink RX11 463 yX11_leftIn ∈ gT := (inT8 (List.mem_of_getElem? (i := 147) rfl) rfl)
theorem lX11_469 : Cond.methodLink RX11 469 yX11_betters ∈ gT := (inT8 (List.mem_of_getElem? (i := 164) rfl) rfl)
theorem lX11_473 : Cond.methodLink RX11 473 yX11_takesSlot ∈ gT := (inT8 (List.mem_of_getElem? (i := 160) rfl) rfl)
theorem lX11_476 : Cond.methodLink RX11 476 yX11_laysTight ∈ gT := (inT8 (List.mem_of_getElem? (i := 155) rfl) rfl)
theorem lX11_479 : Cond.methodLink RX11 479 yX11_shownNow ∈ gT := (inT8 (List.mem_of_getElem? (i := 189) rfl) rfl)
theorem lX11_484 : Cond.methodLink RX11 484 yX11_noSeen ∈ gT := (inT8 (List.mem_of_getElem? (i := 209) rfl) rfl)
theorem lX11_487 : Cond.methodLink RX11 487 yX11_inksOf ∈ gT := (inT8 (List.mem_of_getElem? (i := 214) rfl) rfl)
theorem lX11_490 : Cond.methodLink RX11 490 yX11_mostAlike ∈ gT := (inT8 (List.mem_of_getElem? (i := 222) rfl) rfl)
theorem lX11_500 : Cond.methodLink RX11 500 yX11_goesLots ∈ gT := (inT8 (List.mem_of_getElem? (i := 234) rfl) rfl)
theorem lX11_503 : Cond.methodLink RX11 503 yX11_common ∈ gT := (inT9 (List.mem_of_getElem? (i := 1) rfl) rfl)
theorem lX11_507 : Cond.methodLink RX11 507 yX11_wholeOf ∈ gT := (inT8 (List.mem_of_getElem? (i := 238) rfl) rfl)
theorem lX11_511 : Cond.methodLink RX11 511 yX11_part ∈ gT := (inT8 (List.mem_of_getElem? (i := 230) rfl) rfl)
theorem lX11_520 : Cond.methodLink RX11 520 yX11_cut ∈ gT := (inT9 (List.mem_of_getElem? (i := 29) rfl) rfl)
theorem lX11_524 : Cond.methodLink RX11 524 yX11_tiedSet ∈ gT := (inT9 (List.mem_of_getElem? (i := 48) rfl) rfl)
theorem lJ0_335 : Cond.methodLink RJ0 335 yJ0_coder_7d493 ∈ gT := (inT3 (List.mem_of_getElem? (i := 59) rfl) rfl)
theorem lJ0_492 : Cond.methodLink RJ0 492 yJ0_isLatin1_aae02 ∈ gT := (inT3 (List.mem_of_getElem? (i := 49) rfl) rfl)
theorem lJ0_495 : Cond.methodLink RJ0 495 yJ1_charAt_3b067 ∈ gT := (inT3 (List.mem_of_getElem? (i := 145) rfl) rfl)
theorem lJ0_505 : Cond.methodLink RJ0 505 yJ0_length_8abf5 ∈ gT := (inT3 (List.mem_of_getElem? (i := 55) rfl) rfl)
theorem lJ0_633 : Cond.methodLink RJ0 633 yJ0_indexOf_7cf53 ∈ gT := (inT3 (List.mem_of_getElem? (i := 45) rfl) rfl)
theorem lJ0_637 : Cond.methodLink RJ0 637 yJ1_indexOf_4cfef ∈ gT := (inT3 (List.mem_of_getElem? (i := 63) rfl) rfl)
theorem lJ0_1059 : Cond.methodLink RJ0 1059 yJ3_checkIndex_8e157 ∈ gT := (inT3 (List.mem_of_getElem? (i := 151) rfl) rfl)
theorem lJ1_9 : Cond.methodLink RJ1 9 yJ0_checkIndex_df160 ∈ gT := (inT3 (List.mem_of_getElem? (i := 148) rfl) rfl)
theorem lJ1_38 : Cond.methodLink RJ1 38 yJ9_min_7cf53 ∈ gT := (inT3 (List.mem_of_getElem? (i := 72) rfl) rfl)
theorem lJ1_88 : Cond.methodLink RJ1 88 yJ1_canEncode_9a6ad ∈ gT := (inT3 (List.mem_of_getElem? (i := 66) rfl) rfl)
theorem lJ1_92 : Cond.methodLink RJ1 92 yJ9_max_7cf53 ∈ gT := (inT3 (List.mem_of_getElem? (i := 69) rfl) rfl)
theorem lJ1_95 : Cond.methodLink RJ1 95 yJ1_indexOfChar_4cfef ∈ gT := (inT3 (List.mem_of_getElem? (i := 75) rfl) rfl)
theorem lJ2_183 : Cond.methodLink RJ2 183 yJ9_min_7cf53 ∈ gT := (inT3 (List.mem_of_getElem? (i := 82) rfl) rfl)
theorem lJ2_224 : Cond.methodLink RJ2 224 yJ9_max_7cf53 ∈ gT := (inT3 (List.mem_of_getElem? (i := 81) rfl) rfl)
theorem lJ2_414 : Cond.methodLink RJ2 414 yJ0_checkIndex_df160 ∈ gT := (inT3 (List.mem_of_getElem? (i := 160) rfl) rfl)
theorem ncX10_190 : Cond.constant RX10 190 (Int32.ofInt (-99000002)) ∈ gT := gT_at 911 (by decide +kernel) rfl
theorem ncX10_195 : Cond.constant RX10 195 (Int32.ofInt (-99000001)) ∈ gT := gT_at 913 (by decide +kernel) rfl
theorem ncX10_312 : Cond.constantLong RX10 312 (Int64.ofInt (-1)) ∈ gT := gT_at 1103 (by decide +kernel) rfl
theorem ncX10_376 : Cond.constantLong RX10 376 (Int64.ofInt (-7)) ∈ gT := gT_at 1234 (by decide +kernel) rfl
theorem ncX10_405 : Cond.constant RX10 405 (Int32.ofInt (1103515245)) ∈ gT := gT_at 1041 (by decide +kernel) rfl
theorem ncX10_409 : Cond.constantLong RX10 409 (Int64.ofInt (1000)) ∈ gT := gT_at 1155 (by decide +kernel) rfl
theorem ncX0_38 : Cond.constant RX0 38 (Int32.ofInt (2147483647)) ∈ gT := gT_at 1083 (by decide +kernel) rfl
theorem ncX0_69 : Cond.constantLong RX0 69 (Int64.ofInt (1000000000000000)) ∈ gT := gT_at 1097 (by decide +kernel) rfl
theorem ncX2_29 : Cond.constantLong RX2 29 (Int64.ofInt (-1000000)) ∈ gT := gT_at 784 (by decide +kernel) rfl
theorem ncX2_31 : Cond.constantLong RX2 31 (Int64.ofInt (1000000)) ∈ gT := gT_at 785 (by decide +kernel) rfl
theorem ncX8_42 : Cond.constantLong RX8 42 (Int64.ofInt (10)) ∈ gT := gT_at 1005 (by decide +kernel) rfl
theorem ncX8_44 : Cond.constantLong RX8 44 (Int64.ofInt (25999)) ∈ gT := gT_at 1006 (by decide +kernel) rfl
theorem ncL_179 : Cond.constantLong RL 179 (Int64.ofInt (4294967295)) ∈ gT := gT_at 1972 (by decide +kernel) rfl
theorem ncX11_249 : Cond.constantLong RX11 249 (Int64.ofInt (1000000)) ∈ gT := gT_at 1650 (by decide +kernel) rfl
theorem ncX11_251 : Cond.constantLong RX11 251 (Int64.ofInt (-1000000)) ∈ gT := gT_at 1651 (by decide +kernel) rfl
theorem ncX11_352 : Cond.constantLong RX11 352 (Int64.ofInt (3)) ∈ gT := gT_at 1573 (by decide +kernel) rfl
theorem ncX11_367 : Cond.constant RX11 367 (Int32.ofInt (-99000002)) ∈ gT := gT_at 1684 (by decide +kernel) rfl
theorem ncX11_368 : Cond.constant RX11 368 (Int32.ofInt (-99000001)) ∈ gT := gT_at 1685 (by decide +kernel) rfl
theorem ncX11_369 : Cond.constantLong RX11 369 (Int64.ofInt (2)) ∈ gT := gT_at 1694 (by decide +kernel) rfl
theorem ncX11_374 : Cond.constantLong RX11 374 (Int64.ofInt (-100)) ∈ gT := gT_at 1711 (by decide +kernel) rfl
theorem ncX11_376 : Cond.constantLong RX11 376 (Int64.ofInt (100)) ∈ gT := gT_at 1712 (by decide +kernel) rfl
theorem ncX11_378 : Cond.constantLong RX11 378 (Int64.ofInt (200)) ∈ gT := gT_at 1713 (by decide +kernel) rfl
theorem ncX11_380 : Cond.constantLong RX11 380 (Int64.ofInt (400)) ∈ gT := gT_at 1714 (by decide +kernel) rfl
theorem ncX11_392 : Cond.constantLong RX11 392 (Int64.ofInt (-1)) ∈ gT := gT_at 1727 (by decide +kernel) rfl
theorem ncX11_394 : Cond.constantLong RX11 394 (Int64.ofInt (29)) ∈ gT := gT_at 1728 (by decide +kernel) rfl
theorem ncX11_396 : Cond.constantLong RX11 396 (Int64.ofInt (9)) ∈ gT := gT_at 1737 (by decide +kernel) rfl
theorem ncX11_398 : Cond.constantLong RX11 398 (Int64.ofInt (10)) ∈ gT := gT_at 1742 (by decide +kernel) rfl
theorem ncX11_400 : Cond.constantLong RX11 400 (Int64.ofInt (19)) ∈ gT := gT_at 1759 (by decide +kernel) rfl
theorem ncX11_402 : Cond.constantLong RX11 402 (Int64.ofInt (129)) ∈ gT := gT_at 1760 (by decide +kernel) rfl
theorem ncX11_404 : Cond.constantLong RX11 404 (Int64.ofInt (1000)) ∈ gT := gT_at 1761 (by decide +kernel) rfl
theorem ncX11_406 : Cond.constantLong RX11 406 (Int64.ofInt (1599)) ∈ gT := gT_at 1762 (by decide +kernel) rfl
theorem ncX11_408 : Cond.constantLong RX11 408 (Int64.ofInt (99)) ∈ gT := gT_at 1763 (by decide +kernel) rfl
theorem ncX11_410 : Cond.constantLong RX11 410 (Int64.ofInt (30)) ∈ gT := gT_at 1764 (by decide +kernel) rfl
theorem ncX11_412 : Cond.constantLong RX11 412 (Int64.ofInt (10000)) ∈ gT := gT_at 1765 (by decide +kernel) rfl
theorem ncX11_414 : Cond.constantLong RX11 414 (Int64.ofInt (15999)) ∈ gT := gT_at 1766 (by decide +kernel) rfl
theorem ncX11_416 : Cond.constantLong RX11 416 (Int64.ofInt (20000)) ∈ gT := gT_at 1767 (by decide +kernel) rfl
theorem ncX11_418 : Cond.constantLong RX11 418 (Int64.ofInt (25999)) ∈ gT := gT_at 1768 (by decide +kernel) rfl
theorem ncX11_445 : Cond.constant RX11 445 (Int32.ofInt (1103515245)) ∈ gT := gT_at 1802 (by decide +kernel) rfl
theorem ncX11_452 : Cond.constantLong RX11 452 (Int64.ofInt (40)) ∈ gT := gT_at 1793 (by decide +kernel) rfl
theorem ncX11_466 : Cond.constantLong RX11 466 (Int64.ofInt (1000000000000000)) ∈ gT := gT_at 1848 (by decide +kernel) rfl
theorem ncX11_468 : Cond.constant RX11 468 (Int32.ofInt (268435456)) ∈ gT := gT_at 1839 (by decide +kernel) rfl
theorem ncX11_482 : Cond.constantLong RX11 482 (Int64.ofInt (8)) ∈ gT := gT_at 1893 (by decide +kernel) rfl
theorem ncX11_518 : Cond.constantLong RX11 518 (Int64.ofInt (-7)) ∈ gT := gT_at 1948 (by decide +kernel) rfl
theorem ncJ11_76 : Cond.constant RJ11 76 (Int32.ofInt (56320)) ∈ gT := gT_at 606 (by decide +kernel) rfl
theorem ncJ11_110 : Cond.constant RJ11 110 (Int32.ofInt (55232)) ∈ gT := gT_at 602 (by decide +kernel) rfl
theorem ncJ6_265 : Cond.constant RJ6 265 (Int32.ofInt (1431655765)) ∈ gT := gT_at 1127 (by decide +kernel) rfl
theorem ncJ6_266 : Cond.constant RJ6 266 (Int32.ofInt (858993459)) ∈ gT := gT_at 1128 (by decide +kernel) rfl
theorem ncJ6_267 : Cond.constant RJ6 267 (Int32.ofInt (252645135)) ∈ gT := gT_at 1129 (by decide +kernel) rfl
theorem ncJ2_227 : Cond.constant RJ2 227 (Int32.ofInt (65536)) ∈ gT := gT_at 563 (by decide +kernel) rfl
