def tG : List Cond := lw_tbl.filter goodWord
theorem tG_in {w : Cond} (h : w ∈ lw_tbl) (hg : goodWord w = true) : w ∈ tG := List.mem_filter.mpr ⟨h, hg⟩
theorem tG_sub {w : Cond} (h : w ∈ tG) : w ∈ lw_tbl := (List.mem_filter.mp h).1
theorem tG_good {w : Cond} (h : w ∈ tG) : goodWord w = true := (List.mem_filter.mp h).2
theorem tb_in {w : Cond} (h : w ∈ tables_1) : w ∈ lw_tbl := List.mem_append_right _ h
theorem t1_in {w : Cond} (h : w ∈ tables_1_1) (hg : goodWord w = true) : w ∈ tG := tG_in (tb_in (List.mem_append_left _ h)) hg
theorem t2_in {w : Cond} (h : w ∈ tables_1_2) (hg : goodWord w = true) : w ∈ tG := tG_in (tb_in (List.mem_append_right _ (List.mem_append_left _ h))) hg
theorem t3_in {w : Cond} (h : w ∈ tables_1_3) (hg : goodWord w = true) : w ∈ tG := tG_in (tb_in (List.mem_append_right _ (List.mem_append_right _ (List.mem_append_left _ h)))) hg
theorem t4_in {w : Cond} (h : w ∈ tables_1_4) (hg : goodWord w = true) : w ∈ tG := tG_in (tb_in (List.mem_append_right _ (List.mem_append_right _ (List.mem_append_right _ (h))))) hg
theorem pr1_in {q : MethodName × Nat} (h : q ∈ lw_privs_1) : q ∈ lw_privs := List.mem_append_left _ h
theorem pr2_in {q : MethodName × Nat} (h : q ∈ lw_privs_2) : q ∈ lw_privs := List.mem_append_right _ (List.mem_append_left _ h)
theorem pr3_in {q : MethodName × Nat} (h : q ∈ lw_privs_3) : q ∈ lw_privs := List.mem_append_right _ (List.mem_append_right _ (h))
theorem pv_in {y : MethodName} {n : Nat} (h : (y, n) ∈ lw_privs) : Cond.selects y.cls y y ∈ tG := tG_in (List.mem_append_left _ (List.mem_map.mpr ⟨(y, n), h, rfl⟩)) rfl
def wT (y : MethodName) (c : ByteArray) (n : Nat) (r : Option FieldType) : List Cond := Cond.code y c n r :: tG
theorem gdG {ws : List Cond} (h : ∀ w ∈ ws, w ∈ tG) : GoodIn tG ws := fun w hw => ⟨h w hw, good_of_word (tG_good (h w hw))⟩
theorem gdW {y : MethodName} {c : ByteArray} {n : Nat} {r : Option FieldType} (h : Cond.code y c n r ∈ tG) : ∀ w ∈ wT y c n r, w ∈ tG := by
  intro w hw
  rcases List.mem_cons.mp hw with rfl | hw
  · exact h
  · exact hw
def biV (C : String) (y : MethodName) (c : ByteArray) (n : Nat) (r : Option FieldType) : Prop := Cond.instanceMethod y ∈ tG ∧ Cond.selects C y y ∈ tG ∧ Cond.initialized C ∈ tG ∧ Cond.code y c n r ∈ tG
def biS (y : MethodName) (c : ByteArray) (n : Nat) (r : Option FieldType) : Prop := Cond.static y ∈ tG ∧ Cond.initialized y.cls ∈ tG ∧ Cond.code y c n r ∈ tG
theorem gdV {own C : String} {idx n : Nat} {y : MethodName} {c : ByteArray} {r : Option FieldType} (h1 : Cond.methodLink own idx y ∈ tG) (h : biV C y c n r) : GoodIn tG (wsV own idx C y (wT y c n r)) := gdG (by
  intro w hw
  rcases List.mem_append.mp hw with hw | hw
  · simp only [List.mem_cons, List.not_mem_nil, or_false] at hw
    rcases hw with rfl | rfl | rfl | rfl
    · exact h1
    · exact h.1
    · exact h.2.1
    · exact h.2.2.1
  · exact gdW h.2.2.2 w hw)
theorem gdS {own : String} {idx n : Nat} {y : MethodName} {c : ByteArray} {r : Option FieldType} (h1 : Cond.methodLink own idx y ∈ tG) (h : biS y c n r) : GoodIn tG (va_wsS own idx y (wT y c n r)) := gdG (by
  intro w hw
  rcases List.mem_append.mp hw with hw | hw
  · simp only [List.mem_cons, List.not_mem_nil, or_false] at hw
    rcases hw with rfl | rfl | rfl
    · exact h1
    · exact h.1
    · exact h.2.1
  · exact gdW h.2.2 w hw)
theorem fl_X0_0 : u_lay RX0 TX0 0 ∈ tG := t2_in (List.mem_of_getElem? (i := 0) rfl) rfl
theorem fl_X0_1 : u_lay RX0 TX0 1 ∈ tG := t2_in (List.mem_of_getElem? (i := 2) rfl) rfl
theorem fl_X0_2 : u_lay RX0 TX0 2 ∈ tG := t2_in (List.mem_of_getElem? (i := 4) rfl) rfl
theorem fl_X0_3 : u_lay RX0 TX0 3 ∈ tG := t2_in (List.mem_of_getElem? (i := 6) rfl) rfl
theorem fl_X0_4 : u_lay RX0 TX0 4 ∈ tG := t2_in (List.mem_of_getElem? (i := 8) rfl) rfl
theorem nn_X0 : ∀ w ∈ wsX00, w ∈ tG := by
  intro w hw
  obtain ⟨k, hk, rfl⟩ := List.mem_map.mp hw
  have hk := List.mem_range.mp hk
  match k, hk with
  | 0, _ => exact fl_X0_0
  | 1, _ => exact fl_X0_1
  | 2, _ => exact fl_X0_2
  | 3, _ => exact fl_X0_3
  | 4, _ => exact fl_X0_4
  | k + 5, hk => exact absurd hk (by omega)
theorem fl_X1_0 : u_lay RX1 TX1 0 ∈ tG := t1_in (List.mem_of_getElem? (i := 90) rfl) rfl
theorem fl_X1_1 : u_lay RX1 TX1 1 ∈ tG := t1_in (List.mem_of_getElem? (i := 92) rfl) rfl
theorem fl_X1_2 : u_lay RX1 TX1 2 ∈ tG := t1_in (List.mem_of_getElem? (i := 94) rfl) rfl
theorem nn_X1 : ∀ w ∈ wsX10, w ∈ tG := by
  intro w hw
  obtain ⟨k, hk, rfl⟩ := List.mem_map.mp hw
  have hk := List.mem_range.mp hk
  match k, hk with
  | 0, _ => exact fl_X1_0
  | 1, _ => exact fl_X1_1
  | 2, _ => exact fl_X1_2
  | k + 3, hk => exact absurd hk (by omega)
theorem fl_X2_0 : u_lay RX2 TX2 0 ∈ tG := t1_in (List.mem_of_getElem? (i := 213) rfl) rfl
theorem fl_X2_1 : u_lay RX2 TX2 1 ∈ tG := t1_in (List.mem_of_getElem? (i := 215) rfl) rfl
theorem fl_X2_2 : u_lay RX2 TX2 2 ∈ tG := t1_in (List.mem_of_getElem? (i := 217) rfl) rfl
theorem fl_X2_3 : u_lay RX2 TX2 3 ∈ tG := t1_in (List.mem_of_getElem? (i := 219) rfl) rfl
theorem fl_X2_4 : u_lay RX2 TX2 4 ∈ tG := t1_in (List.mem_of_getElem? (i := 221) rfl) rfl
theorem fl_X2_5 : u_lay RX2 TX2 5 ∈ tG := t1_in (List.mem_of_getElem? (i := 223) rfl) rfl
theorem nn_X2 : ∀ w ∈ wsX20, w ∈ tG := by
  intro w hw
  obtain ⟨k, hk, rfl⟩ := List.mem_map.mp hw
  have hk := List.mem_range.mp hk
  match k, hk with
  | 0, _ => exact fl_X2_0
  | 1, _ => exact fl_X2_1
  | 2, _ => exact fl_X2_2
  | 3, _ => exact fl_X2_3
  | 4, _ => exact fl_X2_4
  | 5, _ => exact fl_X2_5
  | k + 6, hk => exact absurd hk (by omega)
theorem fl_X3_0 : u_lay RX3 TX3 0 ∈ tG := t1_in (List.mem_of_getElem? (i := 173) rfl) rfl
theorem fl_X3_1 : u_lay RX3 TX3 1 ∈ tG := t1_in (List.mem_of_getElem? (i := 175) rfl) rfl
theorem fl_X3_2 : u_lay RX3 TX3 2 ∈ tG := t1_in (List.mem_of_getElem? (i := 177) rfl) rfl
theorem fl_X3_3 : u_lay RX3 TX3 3 ∈ tG := t1_in (List.mem_of_getElem? (i := 179) rfl) rfl
theorem nn_X3 : ∀ w ∈ wsX30, w ∈ tG := by
  intro w hw
  obtain ⟨k, hk, rfl⟩ := List.mem_map.mp hw
  have hk := List.mem_range.mp hk
  match k, hk with
  | 0, _ => exact fl_X3_0
  | 1, _ => exact fl_X3_1
  | 2, _ => exact fl_X3_2
  | 3, _ => exact fl_X3_3
  | k + 4, hk => exact absurd hk (by omega)
theorem fl_X4_0 : u_lay RX4 TX4 0 ∈ tG := t1_in (List.mem_of_getElem? (i := 138) rfl) rfl
theorem fl_X4_1 : u_lay RX4 TX4 1 ∈ tG := t1_in (List.mem_of_getElem? (i := 140) rfl) rfl
theorem fl_X4_2 : u_lay RX4 TX4 2 ∈ tG := t1_in (List.mem_of_getElem? (i := 142) rfl) rfl
theorem fl_X4_3 : u_lay RX4 TX4 3 ∈ tG := t1_in (List.mem_of_getElem? (i := 144) rfl) rfl
theorem fl_X4_4 : u_lay RX4 TX4 4 ∈ tG := t1_in (List.mem_of_getElem? (i := 146) rfl) rfl
theorem fl_X4_5 : u_lay RX4 TX4 5 ∈ tG := t1_in (List.mem_of_getElem? (i := 148) rfl) rfl
theorem fl_X4_6 : u_lay RX4 TX4 6 ∈ tG := t1_in (List.mem_of_getElem? (i := 150) rfl) rfl
theorem fl_X4_7 : u_lay RX4 TX4 7 ∈ tG := t1_in (List.mem_of_getElem? (i := 152) rfl) rfl
theorem fl_X4_8 : u_lay RX4 TX4 8 ∈ tG := t1_in (List.mem_of_getElem? (i := 154) rfl) rfl
theorem fl_X4_9 : u_lay RX4 TX4 9 ∈ tG := t1_in (List.mem_of_getElem? (i := 156) rfl) rfl
theorem fl_X4_10 : u_lay RX4 TX4 10 ∈ tG := t1_in (List.mem_of_getElem? (i := 158) rfl) rfl
theorem fl_X4_11 : u_lay RX4 TX4 11 ∈ tG := t1_in (List.mem_of_getElem? (i := 160) rfl) rfl
theorem nn_X4 : ∀ w ∈ wsX40, w ∈ tG := by
  intro w hw
  obtain ⟨k, hk, rfl⟩ := List.mem_map.mp hw
  have hk := List.mem_range.mp hk
  match k, hk with
  | 0, _ => exact fl_X4_0
  | 1, _ => exact fl_X4_1
  | 2, _ => exact fl_X4_2
  | 3, _ => exact fl_X4_3
  | 4, _ => exact fl_X4_4
  | 5, _ => exact fl_X4_5
  | 6, _ => exact fl_X4_6
  | 7, _ => exact fl_X4_7
  | 8, _ => exact fl_X4_8
  | 9, _ => exact fl_X4_9
  | 10, _ => exact fl_X4_10
  | 11, _ => exact fl_X4_11
  | k + 12, hk => exact absurd hk (by omega)
theorem fl_X6_0 : u_lay RX6 TX6 0 ∈ tG := t1_in (List.mem_of_getElem? (i := 110) rfl) rfl
theorem fl_X6_1 : u_lay RX6 TX6 1 ∈ tG := t1_in (List.mem_of_getElem? (i := 112) rfl) rfl
theorem fl_X6_2 : u_lay RX6 TX6 2 ∈ tG := t1_in (List.mem_of_getElem? (i := 114) rfl) rfl
theorem fl_X6_3 : u_lay RX6 TX6 3 ∈ tG := t1_in (List.mem_of_getElem? (i := 116) rfl) rfl
theorem nn_X6 : ∀ w ∈ wsX60, w ∈ tG := by
  intro w hw
  obtain ⟨k, hk, rfl⟩ := List.mem_map.mp hw
  have hk := List.mem_range.mp hk
  match k, hk with
  | 0, _ => exact fl_X6_0
  | 1, _ => exact fl_X6_1
  | 2, _ => exact fl_X6_2
  | 3, _ => exact fl_X6_3
  | k + 4, hk => exact absurd hk (by omega)
theorem fl_X7_0 : u_lay RX7 TX7 0 ∈ tG := t1_in (List.mem_of_getElem? (i := 59) rfl) rfl
theorem fl_X7_1 : u_lay RX7 TX7 1 ∈ tG := t1_in (List.mem_of_getElem? (i := 61) rfl) rfl
theorem fl_X7_2 : u_lay RX7 TX7 2 ∈ tG := t1_in (List.mem_of_getElem? (i := 63) rfl) rfl
theorem fl_X7_3 : u_lay RX7 TX7 3 ∈ tG := t1_in (List.mem_of_getElem? (i := 65) rfl) rfl
theorem fl_X7_4 : u_lay RX7 TX7 4 ∈ tG := t1_in (List.mem_of_getElem? (i := 67) rfl) rfl
theorem fl_X7_5 : u_lay RX7 TX7 5 ∈ tG := t1_in (List.mem_of_getElem? (i := 69) rfl) rfl
theorem fl_X7_6 : u_lay RX7 TX7 6 ∈ tG := t1_in (List.mem_of_getElem? (i := 71) rfl) rfl
theorem fl_X7_7 : u_lay RX7 TX7 7 ∈ tG := t1_in (List.mem_of_getElem? (i := 73) rfl) rfl
theorem nn_X7 : ∀ w ∈ wsX70, w ∈ tG := by
  intro w hw
  obtain ⟨k, hk, rfl⟩ := List.mem_map.mp hw
  have hk := List.mem_range.mp hk
  match k, hk with
  | 0, _ => exact fl_X7_0
  | 1, _ => exact fl_X7_1
  | 2, _ => exact fl_X7_2
  | 3, _ => exact fl_X7_3
  | 4, _ => exact fl_X7_4
  | 5, _ => exact fl_X7_5
  | 6, _ => exact fl_X7_6
  | 7, _ => exact fl_X7_7
  | k + 8, hk => exact absurd hk (by omega)
theorem fl_X8_0 : u_lay RX8 TX8 0 ∈ tG := t1_in (List.mem_of_getElem? (i := 192) rfl) rfl
theorem fl_X8_1 : u_lay RX8 TX8 1 ∈ tG := t1_in (List.mem_of_getElem? (i := 194) rfl) rfl
theorem fl_X8_2 : u_lay RX8 TX8 2 ∈ tG := t1_in (List.mem_of_getElem? (i := 196) rfl) rfl
theorem fl_X8_3 : u_lay RX8 TX8 3 ∈ tG := t1_in (List.mem_of_getElem? (i := 198) rfl) rfl
theorem nn_X8 : ∀ w ∈ wsX80, w ∈ tG := by
  intro w hw
  obtain ⟨k, hk, rfl⟩ := List.mem_map.mp hw
  have hk := List.mem_range.mp hk
  match k, hk with
  | 0, _ => exact fl_X8_0
  | 1, _ => exact fl_X8_1
  | 2, _ => exact fl_X8_2
  | 3, _ => exact fl_X8_3
  | k + 4, hk => exact absurd hk (by omega)
theorem fl_X9_0 : u_lay RX9 TX9 0 ∈ tG := t2_in (List.mem_of_getElem? (i := 20) rfl) rfl
theorem fl_X9_1 : u_lay RX9 TX9 1 ∈ tG := t2_in (List.mem_of_getElem? (i := 22) rfl) rfl
theorem fl_X9_2 : u_lay RX9 TX9 2 ∈ tG := t2_in (List.mem_of_getElem? (i := 24) rfl) rfl
theorem fl_X9_3 : u_lay RX9 TX9 3 ∈ tG := t2_in (List.mem_of_getElem? (i := 26) rfl) rfl
theorem fl_X9_4 : u_lay RX9 TX9 4 ∈ tG := t2_in (List.mem_of_getElem? (i := 28) rfl) rfl
theorem fl_X9_5 : u_lay RX9 TX9 5 ∈ tG := t2_in (List.mem_of_getElem? (i := 30) rfl) rfl
theorem fl_X9_6 : u_lay RX9 TX9 6 ∈ tG := t2_in (List.mem_of_getElem? (i := 32) rfl) rfl
theorem fl_X9_7 : u_lay RX9 TX9 7 ∈ tG := t2_in (List.mem_of_getElem? (i := 34) rfl) rfl
theorem fl_X9_8 : u_lay RX9 TX9 8 ∈ tG := t2_in (List.mem_of_getElem? (i := 36) rfl) rfl
theorem nn_X9 : ∀ w ∈ wsX90, w ∈ tG := by
  intro w hw
  obtain ⟨k, hk, rfl⟩ := List.mem_map.mp hw
  have hk := List.mem_range.mp hk
  match k, hk with
  | 0, _ => exact fl_X9_0
  | 1, _ => exact fl_X9_1
  | 2, _ => exact fl_X9_2
  | 3, _ => exact fl_X9_3
  | 4, _ => exact fl_X9_4
  | 5, _ => exact fl_X9_5
  | 6, _ => exact fl_X9_6
  | 7, _ => exact fl_X9_7
  | 8, _ => exact fl_X9_8
  | k + 9, hk => exact absurd hk (by omega)
theorem kf_X0_9 : Cond.fieldLink RX0 9 "CoalitionChecker$Formula" "kinds" "[I" ∈ tG := t1_in (List.mem_of_getElem? (i := 231) rfl) rfl
theorem kf_X0_15 : Cond.fieldLink RX0 15 "CoalitionChecker$Formula" "firsts" "[I" ∈ tG := t1_in (List.mem_of_getElem? (i := 232) rfl) rfl
theorem kf_X0_18 : Cond.fieldLink RX0 18 "CoalitionChecker$Formula" "seconds" "[I" ∈ tG := t1_in (List.mem_of_getElem? (i := 233) rfl) rfl
theorem kf_X0_21 : Cond.fieldLink RX0 21 "CoalitionChecker$Formula" "details" "[I" ∈ tG := t1_in (List.mem_of_getElem? (i := 234) rfl) rfl
theorem kf_X0_24 : Cond.fieldLink RX0 24 "CoalitionChecker$Formula" "count" "I" ∈ tG := t1_in (List.mem_of_getElem? (i := 235) rfl) rfl
theorem kf_X1_11 : Cond.fieldLink RX1 11 "CoalitionChecker$History" "ring" "[LCoalitionChecker$Structure;" ∈ tG := t1_in (List.mem_of_getElem? (i := 86) rfl) rfl
theorem kf_X1_17 : Cond.fieldLink RX1 17 "CoalitionChecker$History" "oldest" "I" ∈ tG := t1_in (List.mem_of_getElem? (i := 87) rfl) rfl
theorem kf_X1_21 : Cond.fieldLink RX1 21 "CoalitionChecker$History" "count" "I" ∈ tG := t1_in (List.mem_of_getElem? (i := 88) rfl) rfl
theorem kf_X2_9 : Cond.fieldLink RX2 9 "CoalitionChecker$Likeness" "classNumbers" "[I" ∈ tG := t1_in (List.mem_of_getElem? (i := 209) rfl) rfl
theorem kf_X2_15 : Cond.fieldLink RX2 15 "CoalitionChecker$Likeness" "finer" "[I" ∈ tG := t1_in (List.mem_of_getElem? (i := 210) rfl) rfl
theorem kf_X2_18 : Cond.fieldLink RX2 18 "CoalitionChecker$Likeness" "oneSpread" "[I" ∈ tG := t1_in (List.mem_of_getElem? (i := 211) rfl) rfl
theorem kf_X2_21 : Cond.fieldLink RX2 21 "CoalitionChecker$Likeness" "otherSpread" "[I" ∈ tG := t1_in (List.mem_of_getElem? (i := 212) rfl) rfl
theorem kf_X2_24 : Cond.fieldLink RX2 24 "CoalitionChecker$Likeness" "structure" "LCoalitionChecker$Structure;" ∈ tG := t1_in (List.mem_of_getElem? (i := 207) rfl) rfl
theorem kf_X2_28 : Cond.fieldLink RX2 28 "CoalitionChecker$Likeness" "steps" "LCoalitionChecker$Steps;" ∈ tG := t1_in (List.mem_of_getElem? (i := 208) rfl) rfl
theorem kf_X2_42 : Cond.fieldLink RX2 42 "CoalitionChecker$Structure" "stateCount" "I" ∈ tG := t1_in (List.mem_of_getElem? (i := 55) rfl) rfl
theorem kf_X2_76 : Cond.fieldLink RX2 76 "CoalitionChecker$Structure" "coalitionLimit" "I" ∈ tG := t1_in (List.mem_of_getElem? (i := 41) rfl) rfl
theorem kf_X2_89 : Cond.fieldLink RX2 89 "CoalitionChecker$Structure" "moveLimit" "I" ∈ tG := t1_in (List.mem_of_getElem? (i := 45) rfl) rfl
theorem kf_X3_9 : Cond.fieldLink RX3 9 "CoalitionChecker$Meaning" "sets" "[I" ∈ tG := t1_in (List.mem_of_getElem? (i := 171) rfl) rfl
theorem kf_X3_15 : Cond.fieldLink RX3 15 "CoalitionChecker$Meaning" "ranks" "[I" ∈ tG := t1_in (List.mem_of_getElem? (i := 172) rfl) rfl
theorem kf_X3_18 : Cond.fieldLink RX3 18 "CoalitionChecker$Meaning" "structure" "LCoalitionChecker$Structure;" ∈ tG := t1_in (List.mem_of_getElem? (i := 169) rfl) rfl
theorem kf_X3_22 : Cond.fieldLink RX3 22 "CoalitionChecker$Meaning" "steps" "LCoalitionChecker$Steps;" ∈ tG := t1_in (List.mem_of_getElem? (i := 170) rfl) rfl
theorem kf_X3_26 : Cond.fieldLink RX3 26 "CoalitionChecker$Formula" "count" "I" ∈ tG := t1_in (List.mem_of_getElem? (i := 236) rfl) rfl
theorem kf_X3_81 : Cond.fieldLink RX3 81 "CoalitionChecker$Structure" "stateCount" "I" ∈ tG := t1_in (List.mem_of_getElem? (i := 57) rfl) rfl
theorem kf_X4_9 : Cond.fieldLink RX4 9 "CoalitionChecker$Reader" "text" "[I" ∈ tG := t1_in (List.mem_of_getElem? (i := 126) rfl) rfl
theorem kf_X4_15 : Cond.fieldLink RX4 15 "CoalitionChecker$Reader" "open" "[I" ∈ tG := t1_in (List.mem_of_getElem? (i := 127) rfl) rfl
theorem kf_X4_18 : Cond.fieldLink RX4 18 "CoalitionChecker$Reader" "openCoalitions" "[I" ∈ tG := t1_in (List.mem_of_getElem? (i := 128) rfl) rfl
theorem kf_X4_21 : Cond.fieldLink RX4 21 "CoalitionChecker$Reader" "operands" "[I" ∈ tG := t1_in (List.mem_of_getElem? (i := 129) rfl) rfl
theorem kf_X4_24 : Cond.fieldLink RX4 24 "CoalitionChecker$Reader" "length" "I" ∈ tG := t1_in (List.mem_of_getElem? (i := 130) rfl) rfl
theorem kf_X4_28 : Cond.fieldLink RX4 28 "CoalitionChecker$Reader" "agentCount" "I" ∈ tG := t1_in (List.mem_of_getElem? (i := 125) rfl) rfl
theorem kf_X4_37 : Cond.fieldLink RX4 37 "CoalitionChecker$Reader" "formula" "LCoalitionChecker$Formula;" ∈ tG := t1_in (List.mem_of_getElem? (i := 137) rfl) rfl
theorem kf_X4_41 : Cond.fieldLink RX4 41 "CoalitionChecker$Formula" "count" "I" ∈ tG := t1_in (List.mem_of_getElem? (i := 237) rfl) rfl
theorem kf_X4_46 : Cond.fieldLink RX4 46 "CoalitionChecker$Reader" "openCount" "I" ∈ tG := t1_in (List.mem_of_getElem? (i := 132) rfl) rfl
theorem kf_X4_49 : Cond.fieldLink RX4 49 "CoalitionChecker$Reader" "operandCount" "I" ∈ tG := t1_in (List.mem_of_getElem? (i := 133) rfl) rfl
theorem kf_X4_52 : Cond.fieldLink RX4 52 "CoalitionChecker$Reader" "mode" "I" ∈ tG := t1_in (List.mem_of_getElem? (i := 134) rfl) rfl
theorem kf_X4_89 : Cond.fieldLink RX4 89 "CoalitionChecker$Reader" "coalition" "I" ∈ tG := t1_in (List.mem_of_getElem? (i := 135) rfl) rfl
theorem kf_X4_92 : Cond.fieldLink RX4 92 "CoalitionChecker$Reader" "box" "I" ∈ tG := t1_in (List.mem_of_getElem? (i := 136) rfl) rfl
theorem kf_X6_9 : Cond.fieldLink RX6 9 "CoalitionChecker$Steps" "jointParts" "[I" ∈ tG := t1_in (List.mem_of_getElem? (i := 107) rfl) rfl
theorem kf_X6_15 : Cond.fieldLink RX6 15 "CoalitionChecker$Steps" "ownNames" "[I" ∈ tG := t1_in (List.mem_of_getElem? (i := 108) rfl) rfl
theorem kf_X6_18 : Cond.fieldLink RX6 18 "CoalitionChecker$Steps" "outcomes" "[I" ∈ tG := t1_in (List.mem_of_getElem? (i := 109) rfl) rfl
theorem kf_X6_21 : Cond.fieldLink RX6 21 "CoalitionChecker$Steps" "structure" "LCoalitionChecker$Structure;" ∈ tG := t1_in (List.mem_of_getElem? (i := 106) rfl) rfl
theorem kf_X6_35 : Cond.fieldLink RX6 35 "CoalitionChecker$Structure" "moveLimit" "I" ∈ tG := t1_in (List.mem_of_getElem? (i := 44) rfl) rfl
theorem kf_X6_41 : Cond.fieldLink RX6 41 "CoalitionChecker$Structure" "targets" "[I" ∈ tG := t1_in (List.mem_of_getElem? (i := 52) rfl) rfl
theorem kf_X6_66 : Cond.fieldLink RX6 66 "CoalitionChecker$Structure" "stateCount" "I" ∈ tG := t1_in (List.mem_of_getElem? (i := 58) rfl) rfl
theorem kf_X6_76 : Cond.fieldLink RX6 76 "CoalitionChecker$Structure" "agentCount" "I" ∈ tG := t1_in (List.mem_of_getElem? (i := 39) rfl) rfl
theorem kf_X6_79 : Cond.fieldLink RX6 79 "CoalitionChecker$Structure" "plannedActions" "[I" ∈ tG := t1_in (List.mem_of_getElem? (i := 50) rfl) rfl
theorem kf_X6_82 : Cond.fieldLink RX6 82 "CoalitionChecker$Structure" "actionCounts" "[I" ∈ tG := t1_in (List.mem_of_getElem? (i := 48) rfl) rfl
theorem kf_X7_9 : Cond.fieldLink RX7 9 "CoalitionChecker$Structure" "labelSets" "[I" ∈ tG := t1_in (List.mem_of_getElem? (i := 46) rfl) rfl
theorem kf_X7_15 : Cond.fieldLink RX7 15 "CoalitionChecker$Structure" "actionCounts" "[I" ∈ tG := t1_in (List.mem_of_getElem? (i := 47) rfl) rfl
theorem kf_X7_18 : Cond.fieldLink RX7 18 "CoalitionChecker$Structure" "plannedActions" "[I" ∈ tG := t1_in (List.mem_of_getElem? (i := 49) rfl) rfl
theorem kf_X7_21 : Cond.fieldLink RX7 21 "CoalitionChecker$Structure" "targets" "[I" ∈ tG := t1_in (List.mem_of_getElem? (i := 51) rfl) rfl
theorem kf_X7_24 : Cond.fieldLink RX7 24 "CoalitionChecker$Structure" "stateCount" "I" ∈ tG := t1_in (List.mem_of_getElem? (i := 53) rfl) rfl
theorem kf_X7_28 : Cond.fieldLink RX7 28 "CoalitionChecker$Structure" "agentCount" "I" ∈ tG := t1_in (List.mem_of_getElem? (i := 36) rfl) rfl
theorem kf_X7_31 : Cond.fieldLink RX7 31 "CoalitionChecker$Structure" "coalitionLimit" "I" ∈ tG := t1_in (List.mem_of_getElem? (i := 40) rfl) rfl
theorem kf_X7_34 : Cond.fieldLink RX7 34 "CoalitionChecker$Structure" "moveLimit" "I" ∈ tG := t1_in (List.mem_of_getElem? (i := 43) rfl) rfl
theorem kf_X8_9 : Cond.fieldLink RX8 9 "CoalitionChecker$Tactics" "held" "I" ∈ tG := t1_in (List.mem_of_getElem? (i := 191) rfl) rfl
theorem kf_X8_15 : Cond.fieldLink RX8 15 "CoalitionChecker$Tactics" "structure" "LCoalitionChecker$Structure;" ∈ tG := t1_in (List.mem_of_getElem? (i := 188) rfl) rfl
theorem kf_X8_19 : Cond.fieldLink RX8 19 "CoalitionChecker$Tactics" "steps" "LCoalitionChecker$Steps;" ∈ tG := t1_in (List.mem_of_getElem? (i := 189) rfl) rfl
theorem kf_X8_23 : Cond.fieldLink RX8 23 "CoalitionChecker$Tactics" "meaning" "LCoalitionChecker$Meaning;" ∈ tG := t1_in (List.mem_of_getElem? (i := 190) rfl) rfl
theorem kf_X8_46 : Cond.fieldLink RX8 46 "CoalitionChecker$Formula" "count" "I" ∈ tG := t1_in (List.mem_of_getElem? (i := 238) rfl) rfl
theorem kf_X8_74 : Cond.fieldLink RX8 74 "CoalitionChecker$Structure" "stateCount" "I" ∈ tG := t1_in (List.mem_of_getElem? (i := 56) rfl) rfl
theorem kf_X8_83 : Cond.fieldLink RX8 83 "CoalitionChecker$Structure" "agentCount" "I" ∈ tG := t1_in (List.mem_of_getElem? (i := 38) rfl) rfl
theorem kf_X8_99 : Cond.fieldLink RX8 99 "CoalitionChecker$Structure" "coalitionLimit" "I" ∈ tG := t1_in (List.mem_of_getElem? (i := 42) rfl) rfl
theorem kf_X9_11 : Cond.fieldLink RX9 11 "CoalitionChecker" "kept" "[LCoalitionChecker$Formula;" ∈ tG := t2_in (List.mem_of_getElem? (i := 18) rfl) rfl
theorem kf_X9_15 : Cond.fieldLink RX9 15 "CoalitionChecker" "keptCount" "I" ∈ tG := t2_in (List.mem_of_getElem? (i := 19) rfl) rfl
theorem kf_X9_33 : Cond.fieldLink RX9 33 "CoalitionChecker" "structure" "LCoalitionChecker$Structure;" ∈ tG := t2_in (List.mem_of_getElem? (i := 11) rfl) rfl
theorem kf_X9_40 : Cond.fieldLink RX9 40 "CoalitionChecker" "history" "LCoalitionChecker$History;" ∈ tG := t2_in (List.mem_of_getElem? (i := 12) rfl) rfl
theorem kf_X9_49 : Cond.fieldLink RX9 49 "CoalitionChecker" "steps" "LCoalitionChecker$Steps;" ∈ tG := t2_in (List.mem_of_getElem? (i := 13) rfl) rfl
theorem kf_X9_56 : Cond.fieldLink RX9 56 "CoalitionChecker" "reader" "LCoalitionChecker$Reader;" ∈ tG := t2_in (List.mem_of_getElem? (i := 14) rfl) rfl
theorem kf_X9_65 : Cond.fieldLink RX9 65 "CoalitionChecker" "meaning" "LCoalitionChecker$Meaning;" ∈ tG := t2_in (List.mem_of_getElem? (i := 15) rfl) rfl
theorem kf_X9_74 : Cond.fieldLink RX9 74 "CoalitionChecker" "tactics" "LCoalitionChecker$Tactics;" ∈ tG := t2_in (List.mem_of_getElem? (i := 16) rfl) rfl
theorem kf_X9_81 : Cond.fieldLink RX9 81 "CoalitionChecker" "likeness" "LCoalitionChecker$Likeness;" ∈ tG := t2_in (List.mem_of_getElem? (i := 17) rfl) rfl
theorem kf_X9_86 : Cond.fieldLink RX9 86 "CoalitionChecker$Structure" "agentCount" "I" ∈ tG := t1_in (List.mem_of_getElem? (i := 37) rfl) rfl
theorem kf_X9_89 : Cond.fieldLink RX9 89 "CoalitionChecker$Structure" "stateCount" "I" ∈ tG := t1_in (List.mem_of_getElem? (i := 54) rfl) rfl
theorem kf_X9_158 : Cond.fieldLink RX9 158 "CoalitionChecker$Reader" "length" "I" ∈ tG := t1_in (List.mem_of_getElem? (i := 131) rfl) rfl
theorem kf_X9_169 : Cond.fieldLink RX9 169 "CoalitionChecker$Formula" "count" "I" ∈ tG := t1_in (List.mem_of_getElem? (i := 239) rfl) rfl
theorem kf_X9_236 : Cond.fieldLink RX9 236 "CoalitionChecker$History" "count" "I" ∈ tG := t1_in (List.mem_of_getElem? (i := 89) rfl) rfl
theorem ki_X0 : Cond.initialized RX0 ∈ tG := t1_in (List.mem_of_getElem? (i := 10) rfl) rfl
theorem ki_X1 : Cond.initialized RX1 ∈ tG := t1_in (List.mem_of_getElem? (i := 4) rfl) rfl
theorem ki_X2 : Cond.initialized RX2 ∈ tG := t1_in (List.mem_of_getElem? (i := 9) rfl) rfl
theorem ki_X3 : Cond.initialized RX3 ∈ tG := t1_in (List.mem_of_getElem? (i := 7) rfl) rfl
theorem ki_X4 : Cond.initialized RX4 ∈ tG := t1_in (List.mem_of_getElem? (i := 6) rfl) rfl
theorem ki_X5 : Cond.initialized RX5 ∈ tG := t1_in (List.mem_of_getElem? (i := 11) rfl) rfl
theorem ki_X6 : Cond.initialized RX6 ∈ tG := t1_in (List.mem_of_getElem? (i := 5) rfl) rfl
theorem ki_X7 : Cond.initialized RX7 ∈ tG := t1_in (List.mem_of_getElem? (i := 3) rfl) rfl
theorem ki_X8 : Cond.initialized RX8 ∈ tG := t1_in (List.mem_of_getElem? (i := 8) rfl) rfl
theorem ki_X9 : Cond.initialized RX9 ∈ tG := t1_in (List.mem_of_getElem? (i := 1) rfl) rfl
theorem ki_L : Cond.initialized RL ∈ tG := t1_in (List.mem_of_getElem? (i := 0) rfl) rfl
theorem ki_Math : Cond.initialized "java/lang/Math" ∈ tG := t1_in (List.mem_of_getElem? (i := 2) rfl) rfl
theorem ki_System : Cond.initialized "java/lang/System" ∈ tG := t1_in (List.mem_of_getElem? (i := 12) rfl) rfl
theorem ki_Integer : Cond.initialized "java/lang/Integer" ∈ tG := t1_in (List.mem_of_getElem? (i := 13) rfl) rfl
theorem kc_J6_265 : Cond.constant RJ6 265 (1431655765) ∈ tG := t4_in (List.mem_of_getElem? (i := 119) rfl) rfl
theorem kc_J6_266 : Cond.constant RJ6 266 (858993459) ∈ tG := t4_in (List.mem_of_getElem? (i := 120) rfl) rfl
theorem kc_J6_267 : Cond.constant RJ6 267 (252645135) ∈ tG := t4_in (List.mem_of_getElem? (i := 121) rfl) rfl
theorem kc_L_7 : Cond.constant RL 7 (763049417) ∈ tG := t2_in (List.mem_of_getElem? (i := 139) rfl) rfl
theorem kc_L_8 : Cond.constant RL 8 (2147483647) ∈ tG := t2_in (List.mem_of_getElem? (i := 143) rfl) rfl
theorem kc_X7_81 : Cond.constantLong RX7 81 (31) ∈ tG := t2_in (List.mem_of_getElem? (i := 156) rfl) rfl
theorem kc_X8_107 : Cond.constant RX8 107 (1103515245) ∈ tG := t4_in (List.mem_of_getElem? (i := 133) rfl) rfl
theorem kc_X8_108 : Cond.constant RX8 108 (2147483647) ∈ tG := t4_in (List.mem_of_getElem? (i := 134) rfl) rfl
theorem kc_X9_237 : Cond.constantLong RX9 237 (41) ∈ tG := t2_in (List.mem_of_getElem? (i := 151) rfl) rfl
theorem kc_X9_243 : Cond.constantLong RX9 243 (31) ∈ tG := t2_in (List.mem_of_getElem? (i := 171) rfl) rfl
theorem biX0_add : biV RX0 yX0_add cX0_add 5 (some .int) := ⟨t3_in (List.mem_of_getElem? (i := 214) rfl) rfl, t3_in (List.mem_of_getElem? (i := 215) rfl) rfl, ki_X0, t3_in (List.mem_of_getElem? (i := 216) rfl) rfl⟩
theorem biX0_kind : biV RX0 yX0_kind cX0_kind 2 (some .int) := ⟨t3_in (List.mem_of_getElem? (i := 74) rfl) rfl, t3_in (List.mem_of_getElem? (i := 75) rfl) rfl, ki_X0, t3_in (List.mem_of_getElem? (i := 76) rfl) rfl⟩
theorem biX0_detail : biV RX0 yX0_detail cX0_detail 2 (some .int) := ⟨t3_in (List.mem_of_getElem? (i := 88) rfl) rfl, t3_in (List.mem_of_getElem? (i := 89) rfl) rfl, ki_X0, t3_in (List.mem_of_getElem? (i := 90) rfl) rfl⟩
theorem biX0_first : biV RX0 yX0_first cX0_first 2 (some .int) := ⟨t3_in (List.mem_of_getElem? (i := 79) rfl) rfl, t3_in (List.mem_of_getElem? (i := 80) rfl) rfl, ki_X0, t3_in (List.mem_of_getElem? (i := 81) rfl) rfl⟩
theorem biX0_second : biV RX0 yX0_second cX0_second 2 (some .int) := ⟨t3_in (List.mem_of_getElem? (i := 84) rfl) rfl, t3_in (List.mem_of_getElem? (i := 85) rfl) rfl, ki_X0, t3_in (List.mem_of_getElem? (i := 86) rfl) rfl⟩
theorem biX0_topKind : biV RX0 yX0_topKind cX0_topKind 1 (some .int) := ⟨t4_in (List.mem_of_getElem? (i := 45) rfl) rfl, t4_in (List.mem_of_getElem? (i := 46) rfl) rfl, ki_X0, t4_in (List.mem_of_getElem? (i := 47) rfl) rfl⟩
theorem biX0_topCoalition : biV RX0 yX0_topCoalition cX0_topCoalition 1 (some .int) := ⟨t4_in (List.mem_of_getElem? (i := 50) rfl) rfl, t4_in (List.mem_of_getElem? (i := 51) rfl) rfl, ki_X0, t4_in (List.mem_of_getElem? (i := 52) rfl) rfl⟩
theorem biX0_hasStrategy : biV RX0 yX0_hasStrategy cX0_hasStrategy 1 (some .boolean) := ⟨t4_in (List.mem_of_getElem? (i := 41) rfl) rfl, t4_in (List.mem_of_getElem? (i := 42) rfl) rfl, ki_X0, t4_in (List.mem_of_getElem? (i := 43) rfl) rfl⟩
theorem biX1_keep : biV RX1 yX1_keep cX1_keep 3 none := ⟨t2_in (List.mem_of_getElem? (i := 181) rfl) rfl, t2_in (List.mem_of_getElem? (i := 182) rfl) rfl, ki_X1, t2_in (List.mem_of_getElem? (i := 183) rfl) rfl⟩
theorem biX1_restore : biV RX1 yX1_restore cX1_restore 3 (some .boolean) := ⟨t2_in (List.mem_of_getElem? (i := 124) rfl) rfl, t2_in (List.mem_of_getElem? (i := 125) rfl) rfl, ki_X1, t2_in (List.mem_of_getElem? (i := 126) rfl) rfl⟩
theorem biX1_slotAt : biV RX1 yX1_slotAt cX1_slotAt 3 (some (.object "CoalitionChecker$Structure")) := ⟨t2_in (List.mem_of_getElem? (i := 129) rfl) rfl, pv_in (n := 3) (pr1_in (List.mem_of_getElem? (i := 5) rfl)), ki_X1, t2_in (List.mem_of_getElem? (i := 130) rfl) rfl⟩
theorem biX2_classNumber : biV RX2 yX2_classNumber cX2_classNumber 2 (some .int) := ⟨t2_in (List.mem_of_getElem? (i := 72) rfl) rfl, t2_in (List.mem_of_getElem? (i := 73) rfl) rfl, ki_X2, t2_in (List.mem_of_getElem? (i := 74) rfl) rfl⟩
theorem biX2_divide : biV RX2 yX2_divide cX2_divide 4 (some .int) := ⟨t2_in (List.mem_of_getElem? (i := 56) rfl) rfl, t2_in (List.mem_of_getElem? (i := 57) rfl) rfl, ki_X2, t2_in (List.mem_of_getElem? (i := 58) rfl) rfl⟩
theorem biX2_refine : biV RX2 yX2_refine cX2_refine 4 (some .int) := ⟨t2_in (List.mem_of_getElem? (i := 65) rfl) rfl, pv_in (n := 6) (pr1_in (List.mem_of_getElem? (i := 0) rfl)), ki_X2, t2_in (List.mem_of_getElem? (i := 66) rfl) rfl⟩
theorem biX2_firstLike : biV RX2 yX2_firstLike cX2_firstLike 3 (some .int) := ⟨t2_in (List.mem_of_getElem? (i := 69) rfl) rfl, pv_in (n := 6) (pr1_in (List.mem_of_getElem? (i := 1) rfl)), ki_X2, t2_in (List.mem_of_getElem? (i := 70) rfl) rfl⟩
theorem biX2_areAlike : biV RX2 yX2_areAlike cX2_areAlike 4 (some .boolean) := ⟨t2_in (List.mem_of_getElem? (i := 85) rfl) rfl, pv_in (n := 6) (pr1_in (List.mem_of_getElem? (i := 2) rfl)), ki_X2, t2_in (List.mem_of_getElem? (i := 86) rfl) rfl⟩
theorem biX2_answers : biV RX2 yX2_answers cX2_answers 5 (some .boolean) := ⟨t2_in (List.mem_of_getElem? (i := 95) rfl) rfl, pv_in (n := 6) (pr1_in (List.mem_of_getElem? (i := 3) rfl)), ki_X2, t2_in (List.mem_of_getElem? (i := 96) rfl) rfl⟩
theorem biX2_hasWithin : biV RX2 yX2_hasWithin cX2_hasWithin 4 (some .boolean) := ⟨t2_in (List.mem_of_getElem? (i := 99) rfl) rfl, pv_in (n := 6) (pr1_in (List.mem_of_getElem? (i := 4) rfl)), ki_X2, t2_in (List.mem_of_getElem? (i := 100) rfl) rfl⟩
theorem biX3_look : biV RX3 yX3_look cX3_look 7 none := ⟨t3_in (List.mem_of_getElem? (i := 70) rfl) rfl, t3_in (List.mem_of_getElem? (i := 71) rfl) rfl, ki_X3, t3_in (List.mem_of_getElem? (i := 72) rfl) rfl⟩
theorem biX3_setOf : biV RX3 yX3_setOf cX3_setOf 2 (some .int) := ⟨t3_in (List.mem_of_getElem? (i := 131) rfl) rfl, t3_in (List.mem_of_getElem? (i := 132) rfl) rfl, ki_X3, t3_in (List.mem_of_getElem? (i := 133) rfl) rfl⟩
theorem biX3_whole : biV RX3 yX3_whole cX3_whole 2 (some .int) := ⟨t3_in (List.mem_of_getElem? (i := 139) rfl) rfl, t3_in (List.mem_of_getElem? (i := 140) rfl) rfl, ki_X3, t3_in (List.mem_of_getElem? (i := 141) rfl) rfl⟩
theorem biX3_goalSet : biV RX3 yX3_goalSet cX3_goalSet 5 (some .int) := ⟨t4_in (List.mem_of_getElem? (i := 55) rfl) rfl, t4_in (List.mem_of_getElem? (i := 56) rfl) rfl, ki_X3, t4_in (List.mem_of_getElem? (i := 57) rfl) rfl⟩
theorem biX3_rankOf : biV RX3 yX3_rankOf cX3_rankOf 2 (some .int) := ⟨t4_in (List.mem_of_getElem? (i := 82) rfl) rfl, t4_in (List.mem_of_getElem? (i := 83) rfl) rfl, ki_X3, t4_in (List.mem_of_getElem? (i := 84) rfl) rfl⟩
theorem biX3_statesBelow : biV RX3 yX3_statesBelow cX3_statesBelow 5 (some .int) := ⟨t4_in (List.mem_of_getElem? (i := 86) rfl) rfl, t4_in (List.mem_of_getElem? (i := 87) rfl) rfl, ki_X3, t4_in (List.mem_of_getElem? (i := 88) rfl) rfl⟩
theorem biX3_labelled : biV RX3 yX3_labelled cX3_labelled 4 (some .int) := ⟨t3_in (List.mem_of_getElem? (i := 93) rfl) rfl, pv_in (n := 4) (pr1_in (List.mem_of_getElem? (i := 12) rfl)), ki_X3, t3_in (List.mem_of_getElem? (i := 94) rfl) rfl⟩
theorem biX3_plainSet : biV RX3 yX3_plainSet cX3_plainSet 4 (some .int) := ⟨t3_in (List.mem_of_getElem? (i := 98) rfl) rfl, pv_in (n := 4) (pr1_in (List.mem_of_getElem? (i := 13) rfl)), ki_X3, t3_in (List.mem_of_getElem? (i := 99) rfl) rfl⟩
theorem biX3_strongSet : biV RX3 yX3_strongSet cX3_strongSet 6 (some .int) := ⟨t3_in (List.mem_of_getElem? (i := 103) rfl) rfl, pv_in (n := 4) (pr1_in (List.mem_of_getElem? (i := 14) rfl)), ki_X3, t3_in (List.mem_of_getElem? (i := 104) rfl) rfl⟩
theorem biX3_boxSet : biV RX3 yX3_boxSet cX3_boxSet 6 (some .int) := ⟨t3_in (List.mem_of_getElem? (i := 124) rfl) rfl, pv_in (n := 4) (pr2_in (List.mem_of_getElem? (i := 1) rfl)), ki_X3, t3_in (List.mem_of_getElem? (i := 125) rfl) rfl⟩
theorem biX3_reached : biV RX3 yX3_reached cX3_reached 9 (some .int) := ⟨t3_in (List.mem_of_getElem? (i := 115) rfl) rfl, pv_in (n := 4) (pr1_in (List.mem_of_getElem? (i := 15) rfl)), ki_X3, t3_in (List.mem_of_getElem? (i := 116) rfl) rfl⟩
theorem biX3_kept : biV RX3 yX3_kept cX3_kept 7 (some .int) := ⟨t3_in (List.mem_of_getElem? (i := 120) rfl) rfl, pv_in (n := 4) (pr2_in (List.mem_of_getElem? (i := 0) rfl)), ki_X3, t3_in (List.mem_of_getElem? (i := 121) rfl) rfl⟩
theorem biX3_unavoidable : biV RX3 yX3_unavoidable cX3_unavoidable 8 (some .int) := ⟨t3_in (List.mem_of_getElem? (i := 128) rfl) rfl, pv_in (n := 4) (pr2_in (List.mem_of_getElem? (i := 2) rfl)), ki_X3, t3_in (List.mem_of_getElem? (i := 129) rfl) rfl⟩
theorem biX4_append : biV RX4 yX4_append cX4_append 2 (some .boolean) := ⟨t3_in (List.mem_of_getElem? (i := 57) rfl) rfl, t3_in (List.mem_of_getElem? (i := 58) rfl) rfl, ki_X4, t3_in (List.mem_of_getElem? (i := 59) rfl) rfl⟩
theorem biX4_parse : biV RX4 yX4_parse cX4_parse 3 (some .int) := ⟨t3_in (List.mem_of_getElem? (i := 197) rfl) rfl, t3_in (List.mem_of_getElem? (i := 198) rfl) rfl, ki_X4, t3_in (List.mem_of_getElem? (i := 199) rfl) rfl⟩
theorem biX4_take : biV RX4 yX4_take cX4_take 2 (some .boolean) := ⟨t3_in (List.mem_of_getElem? (i := 203) rfl) rfl, pv_in (n := 12) (pr2_in (List.mem_of_getElem? (i := 3) rfl)), ki_X4, t3_in (List.mem_of_getElem? (i := 204) rfl) rfl⟩
theorem biX4_takeUnit : biV RX4 yX4_takeUnit cX4_takeUnit 2 (some .boolean) := ⟨t3_in (List.mem_of_getElem? (i := 207) rfl) rfl, pv_in (n := 12) (pr2_in (List.mem_of_getElem? (i := 4) rfl)), ki_X4, t3_in (List.mem_of_getElem? (i := 208) rfl) rfl⟩
theorem biX4_takeAgent : biV RX4 yX4_takeAgent cX4_takeAgent 3 (some .boolean) := ⟨t3_in (List.mem_of_getElem? (i := 228) rfl) rfl, pv_in (n := 12) (pr2_in (List.mem_of_getElem? (i := 8) rfl)), ki_X4, t3_in (List.mem_of_getElem? (i := 229) rfl) rfl⟩
theorem biX4_takeGoal : biV RX4 yX4_takeGoal cX4_takeGoal 2 (some .boolean) := ⟨t3_in (List.mem_of_getElem? (i := 232) rfl) rfl, pv_in (n := 12) (pr2_in (List.mem_of_getElem? (i := 9) rfl)), ki_X4, t3_in (List.mem_of_getElem? (i := 233) rfl) rfl⟩
theorem biX4_takeAfterUnit : biV RX4 yX4_takeAfterUnit cX4_takeAfterUnit 2 (some .boolean) := ⟨t3_in (List.mem_of_getElem? (i := 236) rfl) rfl, pv_in (n := 12) (pr2_in (List.mem_of_getElem? (i := 10) rfl)), ki_X4, t3_in (List.mem_of_getElem? (i := 237) rfl) rfl⟩
theorem biX4_takeUntil : biV RX4 yX4_takeUntil cX4_takeUntil 2 (some .boolean) := ⟨t4_in (List.mem_of_getElem? (i := 19) rfl) rfl, pv_in (n := 12) (pr2_in (List.mem_of_getElem? (i := 15) rfl)), ki_X4, t4_in (List.mem_of_getElem? (i := 20) rfl) rfl⟩
theorem biX4_takeBracket : biV RX4 yX4_takeBracket cX4_takeBracket 2 (some .boolean) := ⟨t4_in (List.mem_of_getElem? (i := 23) rfl) rfl, pv_in (n := 12) (pr3_in (List.mem_of_getElem? (i := 0) rfl)), ki_X4, t4_in (List.mem_of_getElem? (i := 24) rfl) rfl⟩
theorem biX4_addLeaf : biV RX4 yX4_addLeaf cX4_addLeaf 3 (some .boolean) := ⟨t3_in (List.mem_of_getElem? (i := 211) rfl) rfl, pv_in (n := 12) (pr2_in (List.mem_of_getElem? (i := 5) rfl)), ki_X4, t3_in (List.mem_of_getElem? (i := 212) rfl) rfl⟩
theorem biX4_closePrefixes : biV RX4 yX4_closePrefixes cX4_closePrefixes 2 none := ⟨t4_in (List.mem_of_getElem? (i := 27) rfl) rfl, pv_in (n := 12) (pr3_in (List.mem_of_getElem? (i := 1) rfl)), ki_X4, t4_in (List.mem_of_getElem? (i := 28) rfl) rfl⟩
theorem biX4_isPrefix : biS yX4_isPrefix cX4_isPrefix 2 (some .boolean) := ⟨t4_in (List.mem_of_getElem? (i := 11) rfl) rfl, ki_X4, t4_in (List.mem_of_getElem? (i := 12) rfl) rfl⟩
theorem biX4_closeIf : biV RX4 yX4_closeIf cX4_closeIf 2 none := ⟨t4_in (List.mem_of_getElem? (i := 0) rfl) rfl, pv_in (n := 12) (pr2_in (List.mem_of_getElem? (i := 11) rfl)), ki_X4, t4_in (List.mem_of_getElem? (i := 1) rfl) rfl⟩
theorem biX4_close : biV RX4 yX4_close cX4_close 5 none := ⟨t4_in (List.mem_of_getElem? (i := 8) rfl) rfl, pv_in (n := 12) (pr2_in (List.mem_of_getElem? (i := 13) rfl)), ki_X4, t4_in (List.mem_of_getElem? (i := 9) rfl) rfl⟩
theorem biX4_topOpen : biV RX4 yX4_topOpen cX4_topOpen 1 (some .int) := ⟨t4_in (List.mem_of_getElem? (i := 4) rfl) rfl, pv_in (n := 12) (pr2_in (List.mem_of_getElem? (i := 12) rfl)), ki_X4, t4_in (List.mem_of_getElem? (i := 5) rfl) rfl⟩
theorem biX4_push : biV RX4 yX4_push cX4_push 3 (some .boolean) := ⟨t3_in (List.mem_of_getElem? (i := 224) rfl) rfl, pv_in (n := 12) (pr2_in (List.mem_of_getElem? (i := 7) rfl)), ki_X4, t3_in (List.mem_of_getElem? (i := 225) rfl) rfl⟩
theorem biX4_pushOperand : biV RX4 yX4_pushOperand cX4_pushOperand 2 none := ⟨t3_in (List.mem_of_getElem? (i := 220) rfl) rfl, pv_in (n := 12) (pr2_in (List.mem_of_getElem? (i := 6) rfl)), ki_X4, t3_in (List.mem_of_getElem? (i := 221) rfl) rfl⟩
theorem biX4_popOperand : biV RX4 yX4_popOperand cX4_popOperand 1 (some .int) := ⟨t4_in (List.mem_of_getElem? (i := 15) rfl) rfl, pv_in (n := 12) (pr2_in (List.mem_of_getElem? (i := 14) rfl)), ki_X4, t4_in (List.mem_of_getElem? (i := 16) rfl) rfl⟩
theorem biX5_at : biS yX5_at cX5_at 2 (some .int) := ⟨t2_in (List.mem_of_getElem? (i := 76) rfl) rfl, ki_X5, t2_in (List.mem_of_getElem? (i := 77) rfl) rfl⟩
theorem biX5_put : biS yX5_put cX5_put 3 none := ⟨t2_in (List.mem_of_getElem? (i := 60) rfl) rfl, ki_X5, t2_in (List.mem_of_getElem? (i := 61) rfl) rfl⟩
theorem biX5_copy : biS yX5_copy cX5_copy 2 none := ⟨t2_in (List.mem_of_getElem? (i := 105) rfl) rfl, ki_X5, t2_in (List.mem_of_getElem? (i := 106) rfl) rfl⟩
theorem biX6_spread : biV RX6 yX6_spread cX6_spread 8 none := ⟨t2_in (List.mem_of_getElem? (i := 88) rfl) rfl, t2_in (List.mem_of_getElem? (i := 89) rfl) rfl, ki_X6, t2_in (List.mem_of_getElem? (i := 90) rfl) rfl⟩
theorem biX6_isForced : biS yX6_isForced cX6_isForced 2 (some .boolean) := ⟨t2_in (List.mem_of_getElem? (i := 102) rfl) rfl, ki_X6, t2_in (List.mem_of_getElem? (i := 103) rfl) rfl⟩
theorem biX6_leastForcing : biV RX6 yX6_leastForcing cX6_leastForcing 4 (some .int) := ⟨t3_in (List.mem_of_getElem? (i := 17) rfl) rfl, t3_in (List.mem_of_getElem? (i := 18) rfl) rfl, ki_X6, t3_in (List.mem_of_getElem? (i := 19) rfl) rfl⟩
theorem biX6_isJointAction : biV RX6 yX6_isJointAction cX6_isJointAction 4 (some .boolean) := ⟨t3_in (List.mem_of_getElem? (i := 31) rfl) rfl, t3_in (List.mem_of_getElem? (i := 32) rfl) rfl, ki_X6, t3_in (List.mem_of_getElem? (i := 33) rfl) rfl⟩
theorem biX6_leastLeaving : biV RX6 yX6_leastLeaving cX6_leastLeaving 7 (some .int) := ⟨t3_in (List.mem_of_getElem? (i := 35) rfl) rfl, t3_in (List.mem_of_getElem? (i := 36) rfl) rfl, ki_X6, t3_in (List.mem_of_getElem? (i := 37) rfl) rfl⟩
theorem biX6_countForced : biV RX6 yX6_countForced cX6_countForced 5 (some .int) := ⟨t3_in (List.mem_of_getElem? (i := 48) rfl) rfl, t3_in (List.mem_of_getElem? (i := 49) rfl) rfl, ki_X6, t3_in (List.mem_of_getElem? (i := 50) rfl) rfl⟩
theorem biX6_forcing : biV RX6 yX6_forcing cX6_forcing 7 (some .int) := ⟨t3_in (List.mem_of_getElem? (i := 106) rfl) rfl, t3_in (List.mem_of_getElem? (i := 107) rfl) rfl, ki_X6, t3_in (List.mem_of_getElem? (i := 108) rfl) rfl⟩
theorem biX6_chosenJoint : biV RX6 yX6_chosenJoint cX6_chosenJoint 9 (some .int) := ⟨t3_in (List.mem_of_getElem? (i := 110) rfl) rfl, t3_in (List.mem_of_getElem? (i := 111) rfl) rfl, ki_X6, t3_in (List.mem_of_getElem? (i := 112) rfl) rfl⟩
theorem biX6_follow : biV RX6 yX6_follow cX6_follow 9 (some .int) := ⟨t4_in (List.mem_of_getElem? (i := 136) rfl) rfl, t4_in (List.mem_of_getElem? (i := 137) rfl) rfl, ki_X6, t4_in (List.mem_of_getElem? (i := 138) rfl) rfl⟩
theorem biX6_leastWithin : biV RX6 yX6_leastWithin cX6_leastWithin 3 (some .int) := ⟨t3_in (List.mem_of_getElem? (i := 23) rfl) rfl, pv_in (n := 4) (pr1_in (List.mem_of_getElem? (i := 9) rfl)), ki_X6, t3_in (List.mem_of_getElem? (i := 24) rfl) rfl⟩
theorem biX6_jointPart : biV RX6 yX6_jointPart cX6_jointPart 3 (some .int) := ⟨t3_in (List.mem_of_getElem? (i := 41) rfl) rfl, pv_in (n := 4) (pr1_in (List.mem_of_getElem? (i := 10) rfl)), ki_X6, t3_in (List.mem_of_getElem? (i := 42) rfl) rfl⟩
theorem biX6_partOf : biS yX6_partOf cX6_partOf 6 (some .int) := ⟨t1_in (List.mem_of_getElem? (i := 104) rfl) rfl, ki_X6, t1_in (List.mem_of_getElem? (i := 105) rfl) rfl⟩
theorem biX7_copyFrom : biV RX7 yX7_copyFrom cX7_copyFrom 2 none := ⟨t2_in (List.mem_of_getElem? (i := 132) rfl) rfl, t2_in (List.mem_of_getElem? (i := 133) rfl) rfl, ki_X7, t2_in (List.mem_of_getElem? (i := 134) rfl) rfl⟩
theorem biX7_hasState : biV RX7 yX7_hasState cX7_hasState 2 (some .boolean) := ⟨t2_in (List.mem_of_getElem? (i := 115) rfl) rfl, t2_in (List.mem_of_getElem? (i := 116) rfl) rfl, ki_X7, t2_in (List.mem_of_getElem? (i := 117) rfl) rfl⟩
theorem biX7_hasPlace : biV RX7 yX7_hasPlace cX7_hasPlace 3 (some .boolean) := ⟨t2_in (List.mem_of_getElem? (i := 177) rfl) rfl, t2_in (List.mem_of_getElem? (i := 178) rfl) rfl, ki_X7, t2_in (List.mem_of_getElem? (i := 179) rfl) rfl⟩
theorem biX7_hasCoalition : biV RX7 yX7_hasCoalition cX7_hasCoalition 2 (some .boolean) := ⟨t3_in (List.mem_of_getElem? (i := 5) rfl) rfl, t3_in (List.mem_of_getElem? (i := 6) rfl) rfl, ki_X7, t3_in (List.mem_of_getElem? (i := 7) rfl) rfl⟩
theorem biX7_hasSet : biV RX7 yX7_hasSet cX7_hasSet 2 (some .boolean) := ⟨t3_in (List.mem_of_getElem? (i := 9) rfl) rfl, t3_in (List.mem_of_getElem? (i := 10) rfl) rfl, ki_X7, t3_in (List.mem_of_getElem? (i := 11) rfl) rfl⟩
theorem biX7_allStates : biV RX7 yX7_allStates cX7_allStates 1 (some .int) := ⟨t3_in (List.mem_of_getElem? (i := 13) rfl) rfl, t3_in (List.mem_of_getElem? (i := 14) rfl) rfl, ki_X7, t3_in (List.mem_of_getElem? (i := 15) rfl) rfl⟩
theorem biX7_labelSet : biV RX7 yX7_labelSet cX7_labelSet 2 (some .int) := ⟨t2_in (List.mem_of_getElem? (i := 79) rfl) rfl, t2_in (List.mem_of_getElem? (i := 80) rfl) rfl, ki_X7, t2_in (List.mem_of_getElem? (i := 81) rfl) rfl⟩
theorem biX7_setLabelSet : biV RX7 yX7_setLabelSet cX7_setLabelSet 3 none := ⟨t2_in (List.mem_of_getElem? (i := 211) rfl) rfl, t2_in (List.mem_of_getElem? (i := 212) rfl) rfl, ki_X7, t2_in (List.mem_of_getElem? (i := 213) rfl) rfl⟩
theorem biX7_actionCount : biV RX7 yX7_actionCount cX7_actionCount 3 (some .int) := ⟨t2_in (List.mem_of_getElem? (i := 159) rfl) rfl, t2_in (List.mem_of_getElem? (i := 160) rfl) rfl, ki_X7, t2_in (List.mem_of_getElem? (i := 161) rfl) rfl⟩
theorem biX7_setActionCount : biV RX7 yX7_setActionCount cX7_setActionCount 4 none := ⟨t2_in (List.mem_of_getElem? (i := 186) rfl) rfl, t2_in (List.mem_of_getElem? (i := 187) rfl) rfl, ki_X7, t2_in (List.mem_of_getElem? (i := 188) rfl) rfl⟩
theorem biX7_plannedAction : biV RX7 yX7_plannedAction cX7_plannedAction 3 (some .int) := ⟨t2_in (List.mem_of_getElem? (i := 163) rfl) rfl, t2_in (List.mem_of_getElem? (i := 164) rfl) rfl, ki_X7, t2_in (List.mem_of_getElem? (i := 165) rfl) rfl⟩
theorem biX7_setPlannedAction : biV RX7 yX7_setPlannedAction cX7_setPlannedAction 4 none := ⟨t3_in (List.mem_of_getElem? (i := 150) rfl) rfl, t3_in (List.mem_of_getElem? (i := 151) rfl) rfl, ki_X7, t3_in (List.mem_of_getElem? (i := 152) rfl) rfl⟩
theorem biX7_target : biV RX7 yX7_target cX7_target 3 (some .int) := ⟨t2_in (List.mem_of_getElem? (i := 167) rfl) rfl, t2_in (List.mem_of_getElem? (i := 168) rfl) rfl, ki_X7, t2_in (List.mem_of_getElem? (i := 169) rfl) rfl⟩
theorem biX7_setTarget : biV RX7 yX7_setTarget cX7_setTarget 4 none := ⟨t2_in (List.mem_of_getElem? (i := 202) rfl) rfl, t2_in (List.mem_of_getElem? (i := 203) rfl) rfl, ki_X7, t2_in (List.mem_of_getElem? (i := 204) rfl) rfl⟩
theorem biX7_possibleMoves : biV RX7 yX7_possibleMoves cX7_possibleMoves 4 (some .int) := ⟨t3_in (List.mem_of_getElem? (i := 179) rfl) rfl, t3_in (List.mem_of_getElem? (i := 180) rfl) rfl, ki_X7, t3_in (List.mem_of_getElem? (i := 181) rfl) rfl⟩
theorem biX7_grow : biV RX7 yX7_grow cX7_grow 3 (some .int) := ⟨t3_in (List.mem_of_getElem? (i := 165) rfl) rfl, t3_in (List.mem_of_getElem? (i := 166) rfl) rfl, ki_X7, t3_in (List.mem_of_getElem? (i := 167) rfl) rfl⟩
theorem biX7_redirect : biV RX7 yX7_redirect cX7_redirect 8 (some .int) := ⟨t2_in (List.mem_of_getElem? (i := 229) rfl) rfl, t2_in (List.mem_of_getElem? (i := 230) rfl) rfl, ki_X7, t2_in (List.mem_of_getElem? (i := 231) rfl) rfl⟩
theorem biX7_mix : biV RX7 yX7_mix cX7_mix 8 (some .long) := ⟨t2_in (List.mem_of_getElem? (i := 153) rfl) rfl, t2_in (List.mem_of_getElem? (i := 154) rfl) rfl, ki_X7, t2_in (List.mem_of_getElem? (i := 155) rfl) rfl⟩
theorem biX7_leadBack : biV RX7 yX7_leadBack cX7_leadBack 3 none := ⟨t2_in (List.mem_of_getElem? (i := 192) rfl) rfl, pv_in (n := 8) (pr1_in (List.mem_of_getElem? (i := 6) rfl)), ki_X7, t2_in (List.mem_of_getElem? (i := 193) rfl) rfl⟩
theorem biX7_isWithinActions : biV RX7 yX7_isWithinActions cX7_isWithinActions 4 (some .boolean) := ⟨t2_in (List.mem_of_getElem? (i := 196) rfl) rfl, pv_in (n := 8) (pr1_in (List.mem_of_getElem? (i := 7) rfl)), ki_X7, t2_in (List.mem_of_getElem? (i := 197) rfl) rfl⟩
theorem biX7_actionIn : biS yX7_actionIn cX7_actionIn 4 (some .int) := ⟨t2_in (List.mem_of_getElem? (i := 199) rfl) rfl, ki_X7, t2_in (List.mem_of_getElem? (i := 200) rfl) rfl⟩
theorem biX8_prepare : biV RX8 yX8_prepare cX8_prepare 2 none := ⟨t4_in (List.mem_of_getElem? (i := 64) rfl) rfl, t4_in (List.mem_of_getElem? (i := 65) rfl) rfl, ki_X8, t4_in (List.mem_of_getElem? (i := 66) rfl) rfl⟩
theorem biX8_jointAt : biV RX8 yX8_jointAt cX8_jointAt 4 (some .int) := ⟨t4_in (List.mem_of_getElem? (i := 75) rfl) rfl, t4_in (List.mem_of_getElem? (i := 76) rfl) rfl, ki_X8, t4_in (List.mem_of_getElem? (i := 77) rfl) rfl⟩
theorem biX8_follow : biV RX8 yX8_follow cX8_follow 8 (some .int) := ⟨t4_in (List.mem_of_getElem? (i := 71) rfl) rfl, t4_in (List.mem_of_getElem? (i := 72) rfl) rfl, ki_X8, t4_in (List.mem_of_getElem? (i := 73) rfl) rfl⟩
theorem biX8_run : biV RX8 yX8_run cX8_run 8 (some .int) := ⟨t4_in (List.mem_of_getElem? (i := 127) rfl) rfl, t4_in (List.mem_of_getElem? (i := 128) rfl) rfl, ki_X8, t4_in (List.mem_of_getElem? (i := 129) rfl) rfl⟩
theorem biX8_fewest : biV RX8 yX8_fewest cX8_fewest 5 (some .int) := ⟨t4_in (List.mem_of_getElem? (i := 113) rfl) rfl, t4_in (List.mem_of_getElem? (i := 114) rfl) rfl, ki_X8, t4_in (List.mem_of_getElem? (i := 115) rfl) rfl⟩
theorem biX8_nextSeed : biS yX8_nextSeed cX8_nextSeed 1 (some .int) := ⟨t4_in (List.mem_of_getElem? (i := 131) rfl) rfl, ki_X8, t4_in (List.mem_of_getElem? (i := 132) rfl) rfl⟩
theorem biX9_agents : biV RX9 yX9_agents cX9_agents 1 (some .int) := ⟨t2_in (List.mem_of_getElem? (i := 40) rfl) rfl, t2_in (List.mem_of_getElem? (i := 41) rfl) rfl, ki_X9, t2_in (List.mem_of_getElem? (i := 42) rfl) rfl⟩
theorem biX9_addState : biV RX9 yX9_addState cX9_addState 1 (some .int) := ⟨t3_in (List.mem_of_getElem? (i := 161) rfl) rfl, t3_in (List.mem_of_getElem? (i := 162) rfl) rfl, ki_X9, t3_in (List.mem_of_getElem? (i := 163) rfl) rfl⟩
theorem biX9_states : biV RX9 yX9_states cX9_states 1 (some .int) := ⟨t3_in (List.mem_of_getElem? (i := 183) rfl) rfl, t3_in (List.mem_of_getElem? (i := 184) rfl) rfl, ki_X9, t3_in (List.mem_of_getElem? (i := 185) rfl) rfl⟩
theorem biX9_setActions : biV RX9 yX9_setActions cX9_setActions 5 (some .int) := ⟨t2_in (List.mem_of_getElem? (i := 173) rfl) rfl, t2_in (List.mem_of_getElem? (i := 174) rfl) rfl, ki_X9, t2_in (List.mem_of_getElem? (i := 175) rfl) rfl⟩
theorem biX9_actions : biV RX9 yX9_actions cX9_actions 3 (some .int) := ⟨t3_in (List.mem_of_getElem? (i := 171) rfl) rfl, t3_in (List.mem_of_getElem? (i := 172) rfl) rfl, ki_X9, t3_in (List.mem_of_getElem? (i := 173) rfl) rfl⟩
theorem biX9_label : biV RX9 yX9_label cX9_label 6 (some .int) := ⟨t2_in (List.mem_of_getElem? (i := 206) rfl) rfl, t2_in (List.mem_of_getElem? (i := 207) rfl) rfl, ki_X9, t2_in (List.mem_of_getElem? (i := 208) rfl) rfl⟩
theorem biX9_labels : biV RX9 yX9_labels cX9_labels 2 (some .int) := ⟨t2_in (List.mem_of_getElem? (i := 215) rfl) rfl, t2_in (List.mem_of_getElem? (i := 216) rfl) rfl, ki_X9, t2_in (List.mem_of_getElem? (i := 217) rfl) rfl⟩
theorem biX9_setMove : biV RX9 yX9_setMove cX9_setMove 5 (some .int) := ⟨t2_in (List.mem_of_getElem? (i := 219) rfl) rfl, t2_in (List.mem_of_getElem? (i := 220) rfl) rfl, ki_X9, t2_in (List.mem_of_getElem? (i := 221) rfl) rfl⟩
theorem biX9_setAll : biV RX9 yX9_setAll cX9_setAll 5 (some .int) := ⟨t2_in (List.mem_of_getElem? (i := 225) rfl) rfl, t2_in (List.mem_of_getElem? (i := 226) rfl) rfl, ki_X9, t2_in (List.mem_of_getElem? (i := 227) rfl) rfl⟩
theorem biX9_next : biV RX9 yX9_next cX9_next 4 (some .int) := ⟨t2_in (List.mem_of_getElem? (i := 233) rfl) rfl, t2_in (List.mem_of_getElem? (i := 234) rfl) rfl, ki_X9, t2_in (List.mem_of_getElem? (i := 235) rfl) rfl⟩
theorem biX9_moves : biV RX9 yX9_moves cX9_moves 2 (some .int) := ⟨t3_in (List.mem_of_getElem? (i := 175) rfl) rfl, t3_in (List.mem_of_getElem? (i := 176) rfl) rfl, ki_X9, t3_in (List.mem_of_getElem? (i := 177) rfl) rfl⟩
theorem biX9_force : biV RX9 yX9_force cX9_force 4 (some .int) := ⟨t2_in (List.mem_of_getElem? (i := 237) rfl) rfl, t2_in (List.mem_of_getElem? (i := 238) rfl) rfl, ki_X9, t2_in (List.mem_of_getElem? (i := 239) rfl) rfl⟩
theorem biX9_reply : biV RX9 yX9_reply cX9_reply 5 (some .int) := ⟨t3_in (List.mem_of_getElem? (i := 27) rfl) rfl, t3_in (List.mem_of_getElem? (i := 28) rfl) rfl, ki_X9, t3_in (List.mem_of_getElem? (i := 29) rfl) rfl⟩
theorem biX9_forced : biV RX9 yX9_forced cX9_forced 3 (some .int) := ⟨t3_in (List.mem_of_getElem? (i := 44) rfl) rfl, t3_in (List.mem_of_getElem? (i := 45) rfl) rfl, ki_X9, t3_in (List.mem_of_getElem? (i := 46) rfl) rfl⟩
theorem biX9_type : biV RX9 yX9_type cX9_type 2 (some .int) := ⟨t3_in (List.mem_of_getElem? (i := 53) rfl) rfl, t3_in (List.mem_of_getElem? (i := 54) rfl) rfl, ki_X9, t3_in (List.mem_of_getElem? (i := 55) rfl) rfl⟩
theorem biX9_read : biV RX9 yX9_read cX9_read 2 (some .int) := ⟨t3_in (List.mem_of_getElem? (i := 193) rfl) rfl, t3_in (List.mem_of_getElem? (i := 194) rfl) rfl, ki_X9, t3_in (List.mem_of_getElem? (i := 195) rfl) rfl⟩
theorem biX9_forget : biV RX9 yX9_forget cX9_forget 2 (some .int) := ⟨t2_in (List.mem_of_getElem? (i := 44) rfl) rfl, t2_in (List.mem_of_getElem? (i := 45) rfl) rfl, ki_X9, t2_in (List.mem_of_getElem? (i := 46) rfl) rfl⟩
theorem biX9_formulas : biV RX9 yX9_formulas cX9_formulas 1 (some .int) := ⟨t2_in (List.mem_of_getElem? (i := 48) rfl) rfl, t2_in (List.mem_of_getElem? (i := 49) rfl) rfl, ki_X9, t2_in (List.mem_of_getElem? (i := 50) rfl) rfl⟩
theorem biX9_parts : biV RX9 yX9_parts cX9_parts 3 (some .int) := ⟨t4_in (List.mem_of_getElem? (i := 33) rfl) rfl, t4_in (List.mem_of_getElem? (i := 34) rfl) rfl, ki_X9, t4_in (List.mem_of_getElem? (i := 35) rfl) rfl⟩
theorem biX9_where : biV RX9 yX9_where cX9_where 4 (some .int) := ⟨t3_in (List.mem_of_getElem? (i := 62) rfl) rfl, t3_in (List.mem_of_getElem? (i := 63) rfl) rfl, ki_X9, t3_in (List.mem_of_getElem? (i := 64) rfl) rfl⟩
theorem biX9_holds : biV RX9 yX9_holds cX9_holds 4 (some .int) := ⟨t3_in (List.mem_of_getElem? (i := 135) rfl) rfl, t3_in (List.mem_of_getElem? (i := 136) rfl) rfl, ki_X9, t3_in (List.mem_of_getElem? (i := 137) rfl) rfl⟩
theorem biX9_rank : biV RX9 yX9_rank cX9_rank 5 (some .int) := ⟨t4_in (List.mem_of_getElem? (i := 95) rfl) rfl, t4_in (List.mem_of_getElem? (i := 96) rfl) rfl, ki_X9, t4_in (List.mem_of_getElem? (i := 97) rfl) rfl⟩
theorem biX9_strategy : biV RX9 yX9_strategy cX9_strategy 4 (some .int) := ⟨t4_in (List.mem_of_getElem? (i := 101) rfl) rfl, t4_in (List.mem_of_getElem? (i := 102) rfl) rfl, ki_X9, t4_in (List.mem_of_getElem? (i := 103) rfl) rfl⟩
theorem biX9_plan : biV RX9 yX9_plan cX9_plan 5 (some .int) := ⟨t3_in (List.mem_of_getElem? (i := 145) rfl) rfl, t3_in (List.mem_of_getElem? (i := 146) rfl) rfl, ki_X9, t3_in (List.mem_of_getElem? (i := 147) rfl) rfl⟩
theorem biX9_adopt : biV RX9 yX9_adopt cX9_adopt 3 (some .int) := ⟨t4_in (List.mem_of_getElem? (i := 60) rfl) rfl, t4_in (List.mem_of_getElem? (i := 61) rfl) rfl, ki_X9, t4_in (List.mem_of_getElem? (i := 62) rfl) rfl⟩
theorem biX9_planned : biV RX9 yX9_planned cX9_planned 3 (some .int) := ⟨t3_in (List.mem_of_getElem? (i := 154) rfl) rfl, t3_in (List.mem_of_getElem? (i := 155) rfl) rfl, ki_X9, t3_in (List.mem_of_getElem? (i := 156) rfl) rfl⟩
theorem biX9_enforced : biV RX9 yX9_enforced cX9_enforced 3 (some .int) := ⟨t4_in (List.mem_of_getElem? (i := 37) rfl) rfl, t4_in (List.mem_of_getElem? (i := 38) rfl) rfl, ki_X9, t4_in (List.mem_of_getElem? (i := 39) rfl) rfl⟩
theorem biX9_play : biV RX9 yX9_play cX9_play 6 (some .int) := ⟨t4_in (List.mem_of_getElem? (i := 123) rfl) rfl, t4_in (List.mem_of_getElem? (i := 124) rfl) rfl, ki_X9, t4_in (List.mem_of_getElem? (i := 125) rfl) rfl⟩
theorem biX9_smallest : biV RX9 yX9_smallest cX9_smallest 4 (some .int) := ⟨t4_in (List.mem_of_getElem? (i := 109) rfl) rfl, t4_in (List.mem_of_getElem? (i := 110) rfl) rfl, ki_X9, t4_in (List.mem_of_getElem? (i := 111) rfl) rfl⟩
theorem biX9_classes : biV RX9 yX9_classes cX9_classes 1 (some .int) := ⟨t2_in (List.mem_of_getElem? (i := 52) rfl) rfl, t2_in (List.mem_of_getElem? (i := 53) rfl) rfl, ki_X9, t2_in (List.mem_of_getElem? (i := 54) rfl) rfl⟩
theorem biX9_classOf : biV RX9 yX9_classOf cX9_classOf 2 (some .int) := ⟨t2_in (List.mem_of_getElem? (i := 111) rfl) rfl, t2_in (List.mem_of_getElem? (i := 112) rfl) rfl, ki_X9, t2_in (List.mem_of_getElem? (i := 113) rfl) rfl⟩
theorem biX9_undo : biV RX9 yX9_undo cX9_undo 1 (some .int) := ⟨t2_in (List.mem_of_getElem? (i := 120) rfl) rfl, t2_in (List.mem_of_getElem? (i := 121) rfl) rfl, ki_X9, t2_in (List.mem_of_getElem? (i := 122) rfl) rfl⟩
theorem biX9_fingerprint : biV RX9 yX9_fingerprint cX9_fingerprint 1 (some .long) := ⟨t2_in (List.mem_of_getElem? (i := 148) rfl) rfl, t2_in (List.mem_of_getElem? (i := 149) rfl) rfl, ki_X9, t2_in (List.mem_of_getElem? (i := 150) rfl) rfl⟩
theorem biX9_isQuestion : biV RX9 yX9_isQuestion cX9_isQuestion 3 (some .boolean) := ⟨t3_in (List.mem_of_getElem? (i := 2) rfl) rfl, pv_in (n := 9) (pr1_in (List.mem_of_getElem? (i := 8) rfl)), ki_X9, t3_in (List.mem_of_getElem? (i := 3) rfl) rfl⟩
theorem biX9_formulaOf : biV RX9 yX9_formulaOf cX9_formulaOf 2 (some (.object "CoalitionChecker$Formula")) := ⟨t3_in (List.mem_of_getElem? (i := 67) rfl) rfl, pv_in (n := 9) (pr1_in (List.mem_of_getElem? (i := 11) rfl)), ki_X9, t3_in (List.mem_of_getElem? (i := 68) rfl) rfl⟩
theorem biJ6_bitCount_0f7a4 : biS yJ6_bitCount_0f7a4 cJ6_bitCount_0f7a4 1 (some .int) := ⟨t4_in (List.mem_of_getElem? (i := 117) rfl) rfl, ki_Integer, t4_in (List.mem_of_getElem? (i := 118) rfl) rfl⟩
theorem biL_cell : biS yL_cell cL_cell 2 (some .int) := ⟨t2_in (List.mem_of_getElem? (i := 137) rfl) rfl, ki_L, t2_in (List.mem_of_getElem? (i := 138) rfl) rfl⟩
theorem biL_up : biS yL_up cL_up 2 (some .int) := ⟨t2_in (List.mem_of_getElem? (i := 141) rfl) rfl, ki_L, t2_in (List.mem_of_getElem? (i := 142) rfl) rfl⟩
theorem biL_power : biS yL_power cL_power 1 (some .int) := ⟨t4_in (List.mem_of_getElem? (i := 106) rfl) rfl, ki_L, t4_in (List.mem_of_getElem? (i := 107) rfl) rfl⟩
theorem biL_fails : biS yL_fails cL_fails 7 (some .boolean) := ⟨t2_in (List.mem_of_getElem? (i := 145) rfl) rfl, ki_L, t2_in (List.mem_of_getElem? (i := 146) rfl) rfl⟩
theorem biL_builds : biS yL_builds cL_builds 10 (some .boolean) := ⟨t3_in (List.mem_of_getElem? (i := 158) rfl) rfl, ki_L, t3_in (List.mem_of_getElem? (i := 159) rfl) rfl⟩
theorem biL_steps : biS yL_steps cL_steps 11 (some .boolean) := ⟨t3_in (List.mem_of_getElem? (i := 187) rfl) rfl, ki_L, t3_in (List.mem_of_getElem? (i := 188) rfl) rfl⟩
theorem biL_reads : biS yL_reads cL_reads 6 (some .int) := ⟨t3_in (List.mem_of_getElem? (i := 190) rfl) rfl, ki_L, t3_in (List.mem_of_getElem? (i := 191) rfl) rfl⟩
theorem biL_enforces : biS yL_enforces cL_enforces 15 (some .boolean) := ⟨t4_in (List.mem_of_getElem? (i := 30) rfl) rfl, ki_L, t4_in (List.mem_of_getElem? (i := 31) rfl) rfl⟩
theorem biL_undoes : biS yL_undoes cL_undoes 9 (some .boolean) := ⟨t4_in (List.mem_of_getElem? (i := 140) rfl) rfl, ki_L, t4_in (List.mem_of_getElem? (i := 141) rfl) rfl⟩
theorem ml_L_9 : Cond.methodLink RL 9 yX9_fingerprint ∈ tG := t2_in (List.mem_of_getElem? (i := 147) rfl) rfl
theorem ml_L_15 : Cond.methodLink RL 15 yX9_setActions ∈ tG := t2_in (List.mem_of_getElem? (i := 172) rfl) rfl
theorem ml_L_19 : Cond.methodLink RL 19 yX9_label ∈ tG := t2_in (List.mem_of_getElem? (i := 205) rfl) rfl
theorem ml_L_23 : Cond.methodLink RL 23 yX9_labels ∈ tG := t2_in (List.mem_of_getElem? (i := 214) rfl) rfl
theorem ml_L_27 : Cond.methodLink RL 27 yX9_setMove ∈ tG := t2_in (List.mem_of_getElem? (i := 218) rfl) rfl
theorem ml_L_30 : Cond.methodLink RL 30 yX9_setAll ∈ tG := t2_in (List.mem_of_getElem? (i := 224) rfl) rfl
theorem ml_L_34 : Cond.methodLink RL 34 yX9_next ∈ tG := t2_in (List.mem_of_getElem? (i := 232) rfl) rfl
theorem ml_L_38 : Cond.methodLink RL 38 yX9_force ∈ tG := t2_in (List.mem_of_getElem? (i := 236) rfl) rfl
theorem ml_L_41 : Cond.methodLink RL 41 yX9_reply ∈ tG := t3_in (List.mem_of_getElem? (i := 26) rfl) rfl
theorem ml_L_44 : Cond.methodLink RL 44 yX9_forced ∈ tG := t3_in (List.mem_of_getElem? (i := 43) rfl) rfl
theorem ml_L_47 : Cond.methodLink RL 47 yX9_type ∈ tG := t3_in (List.mem_of_getElem? (i := 52) rfl) rfl
theorem ml_L_50 : Cond.methodLink RL 50 yX9_where ∈ tG := t3_in (List.mem_of_getElem? (i := 61) rfl) rfl
theorem ml_L_53 : Cond.methodLink RL 53 yX9_holds ∈ tG := t3_in (List.mem_of_getElem? (i := 134) rfl) rfl
theorem ml_L_56 : Cond.methodLink RL 56 yX9_plan ∈ tG := t3_in (List.mem_of_getElem? (i := 144) rfl) rfl
theorem ml_L_59 : Cond.methodLink RL 59 yX9_planned ∈ tG := t3_in (List.mem_of_getElem? (i := 153) rfl) rfl
theorem ml_L_62 : Cond.methodLink RL 62 yX9_classOf ∈ tG := t2_in (List.mem_of_getElem? (i := 110) rfl) rfl
theorem ml_L_65 : Cond.methodLink RL 65 yX9_addState ∈ tG := t3_in (List.mem_of_getElem? (i := 160) rfl) rfl
theorem ml_L_69 : Cond.methodLink RL 69 yL_cell ∈ tG := t2_in (List.mem_of_getElem? (i := 136) rfl) rfl
theorem ml_L_75 : Cond.methodLink RL 75 yL_up ∈ tG := t2_in (List.mem_of_getElem? (i := 140) rfl) rfl
theorem ml_L_78 : Cond.methodLink RL 78 yX9_actions ∈ tG := t3_in (List.mem_of_getElem? (i := 170) rfl) rfl
theorem ml_L_81 : Cond.methodLink RL 81 yX9_moves ∈ tG := t3_in (List.mem_of_getElem? (i := 174) rfl) rfl
theorem ml_L_84 : Cond.methodLink RL 84 yX9_states ∈ tG := t3_in (List.mem_of_getElem? (i := 182) rfl) rfl
theorem ml_L_87 : Cond.methodLink RL 87 yX9_read ∈ tG := t3_in (List.mem_of_getElem? (i := 192) rfl) rfl
theorem ml_L_90 : Cond.methodLink RL 90 yX9_parts ∈ tG := t4_in (List.mem_of_getElem? (i := 32) rfl) rfl
theorem ml_L_93 : Cond.methodLink RL 93 yX9_enforced ∈ tG := t4_in (List.mem_of_getElem? (i := 36) rfl) rfl
theorem ml_L_96 : Cond.methodLink RL 96 yX9_adopt ∈ tG := t4_in (List.mem_of_getElem? (i := 59) rfl) rfl
theorem ml_L_99 : Cond.methodLink RL 99 yX9_rank ∈ tG := t4_in (List.mem_of_getElem? (i := 94) rfl) rfl
theorem ml_L_102 : Cond.methodLink RL 102 yX9_strategy ∈ tG := t4_in (List.mem_of_getElem? (i := 100) rfl) rfl
theorem ml_L_105 : Cond.methodLink RL 105 yL_power ∈ tG := t4_in (List.mem_of_getElem? (i := 105) rfl) rfl
theorem ml_L_108 : Cond.methodLink RL 108 yX9_smallest ∈ tG := t4_in (List.mem_of_getElem? (i := 108) rfl) rfl
theorem ml_L_111 : Cond.methodLink RL 111 yX9_play ∈ tG := t4_in (List.mem_of_getElem? (i := 122) rfl) rfl
theorem ml_L_114 : Cond.methodLink RL 114 yX9_undo ∈ tG := t2_in (List.mem_of_getElem? (i := 119) rfl) rfl
theorem ml_L_120 : Cond.methodLink RL 120 yX9_agents ∈ tG := t2_in (List.mem_of_getElem? (i := 39) rfl) rfl
theorem ml_L_123 : Cond.methodLink RL 123 yL_builds ∈ tG := t3_in (List.mem_of_getElem? (i := 157) rfl) rfl
theorem ml_L_127 : Cond.methodLink RL 127 yL_fails ∈ tG := t2_in (List.mem_of_getElem? (i := 144) rfl) rfl
theorem ml_L_131 : Cond.methodLink RL 131 yL_steps ∈ tG := t3_in (List.mem_of_getElem? (i := 186) rfl) rfl
theorem ml_L_135 : Cond.methodLink RL 135 yL_reads ∈ tG := t3_in (List.mem_of_getElem? (i := 189) rfl) rfl
theorem ml_L_139 : Cond.methodLink RL 139 yL_enforces ∈ tG := t4_in (List.mem_of_getElem? (i := 29) rfl) rfl
theorem ml_L_143 : Cond.methodLink RL 143 yX9_classes ∈ tG := t2_in (List.mem_of_getElem? (i := 51) rfl) rfl
theorem ml_L_146 : Cond.methodLink RL 146 yX9_formulas ∈ tG := t2_in (List.mem_of_getElem? (i := 47) rfl) rfl
theorem ml_L_149 : Cond.methodLink RL 149 yL_undoes ∈ tG := t4_in (List.mem_of_getElem? (i := 139) rfl) rfl
theorem ml_L_152 : Cond.methodLink RL 152 yX9_forget ∈ tG := t2_in (List.mem_of_getElem? (i := 43) rfl) rfl
theorem ml_X0_28 : Cond.methodLink RX0 28 yX5_put ∈ tG := t3_in (List.mem_of_getElem? (i := 217) rfl) rfl
theorem ml_X0_34 : Cond.methodLink RX0 34 yX5_at ∈ tG := t3_in (List.mem_of_getElem? (i := 77) rfl) rfl
theorem ml_X0_38 : Cond.methodLink RX0 38 yX0_kind ∈ tG := t4_in (List.mem_of_getElem? (i := 48) rfl) rfl
theorem ml_X0_42 : Cond.methodLink RX0 42 yX0_detail ∈ tG := t4_in (List.mem_of_getElem? (i := 53) rfl) rfl
theorem ml_X0_45 : Cond.methodLink RX0 45 yX0_topKind ∈ tG := t4_in (List.mem_of_getElem? (i := 44) rfl) rfl
theorem ml_X1_27 : Cond.methodLink RX1 27 yX1_slotAt ∈ tG := t2_in (List.mem_of_getElem? (i := 127) rfl) rfl
theorem ml_X1_31 : Cond.methodLink RX1 31 yX7_copyFrom ∈ tG := t2_in (List.mem_of_getElem? (i := 131) rfl) rfl
theorem ml_X2_32 : Cond.methodLink RX2 32 yX5_at ∈ tG := t2_in (List.mem_of_getElem? (i := 75) rfl) rfl
theorem ml_X2_38 : Cond.methodLink RX2 38 yX5_put ∈ tG := t2_in (List.mem_of_getElem? (i := 59) rfl) rfl
theorem ml_X2_54 : Cond.methodLink RX2 54 yX2_refine ∈ tG := t2_in (List.mem_of_getElem? (i := 63) rfl) rfl
theorem ml_X2_58 : Cond.methodLink RX2 58 yX5_copy ∈ tG := t2_in (List.mem_of_getElem? (i := 104) rfl) rfl
theorem ml_X2_62 : Cond.methodLink RX2 62 yX2_firstLike ∈ tG := t2_in (List.mem_of_getElem? (i := 67) rfl) rfl
theorem ml_X2_66 : Cond.methodLink RX2 66 yX2_classNumber ∈ tG := t2_in (List.mem_of_getElem? (i := 71) rfl) rfl
theorem ml_X2_69 : Cond.methodLink RX2 69 yX7_labelSet ∈ tG := t2_in (List.mem_of_getElem? (i := 78) rfl) rfl
theorem ml_X2_72 : Cond.methodLink RX2 72 yX2_areAlike ∈ tG := t2_in (List.mem_of_getElem? (i := 83) rfl) rfl
theorem ml_X2_79 : Cond.methodLink RX2 79 yX6_spread ∈ tG := t2_in (List.mem_of_getElem? (i := 87) rfl) rfl
theorem ml_X2_85 : Cond.methodLink RX2 85 yX2_answers ∈ tG := t2_in (List.mem_of_getElem? (i := 93) rfl) rfl
theorem ml_X2_92 : Cond.methodLink RX2 92 yX2_hasWithin ∈ tG := t2_in (List.mem_of_getElem? (i := 97) rfl) rfl
theorem ml_X2_96 : Cond.methodLink RX2 96 yX6_isForced ∈ tG := t2_in (List.mem_of_getElem? (i := 101) rfl) rfl
theorem ml_X3_32 : Cond.methodLink RX3 32 yX0_kind ∈ tG := t3_in (List.mem_of_getElem? (i := 73) rfl) rfl
theorem ml_X3_36 : Cond.methodLink RX3 36 yX0_first ∈ tG := t3_in (List.mem_of_getElem? (i := 78) rfl) rfl
theorem ml_X3_39 : Cond.methodLink RX3 39 yX5_at ∈ tG := t3_in (List.mem_of_getElem? (i := 82) rfl) rfl
theorem ml_X3_45 : Cond.methodLink RX3 45 yX0_second ∈ tG := t3_in (List.mem_of_getElem? (i := 83) rfl) rfl
theorem ml_X3_48 : Cond.methodLink RX3 48 yX0_detail ∈ tG := t3_in (List.mem_of_getElem? (i := 87) rfl) rfl
theorem ml_X3_51 : Cond.methodLink RX3 51 yX3_labelled ∈ tG := t3_in (List.mem_of_getElem? (i := 91) rfl) rfl
theorem ml_X3_54 : Cond.methodLink RX3 54 yX3_plainSet ∈ tG := t3_in (List.mem_of_getElem? (i := 96) rfl) rfl
theorem ml_X3_58 : Cond.methodLink RX3 58 yX3_strongSet ∈ tG := t3_in (List.mem_of_getElem? (i := 101) rfl) rfl
theorem ml_X3_62 : Cond.methodLink RX3 62 yX3_boxSet ∈ tG := t3_in (List.mem_of_getElem? (i := 122) rfl) rfl
theorem ml_X3_66 : Cond.methodLink RX3 66 yX5_put ∈ tG := t3_in (List.mem_of_getElem? (i := 117) rfl) rfl
theorem ml_X3_70 : Cond.methodLink RX3 70 yX3_look ∈ tG := t3_in (List.mem_of_getElem? (i := 142) rfl) rfl
theorem ml_X3_74 : Cond.methodLink RX3 74 yX3_setOf ∈ tG := t3_in (List.mem_of_getElem? (i := 143) rfl) rfl
theorem ml_X3_77 : Cond.methodLink RX3 77 yX0_topKind ∈ tG := t4_in (List.mem_of_getElem? (i := 58) rfl) rfl
theorem ml_X3_86 : Cond.methodLink RX3 86 yX3_rankOf ∈ tG := t4_in (List.mem_of_getElem? (i := 89) rfl) rfl
theorem ml_X3_89 : Cond.methodLink RX3 89 yX7_labelSet ∈ tG := t3_in (List.mem_of_getElem? (i := 95) rfl) rfl
theorem ml_X3_92 : Cond.methodLink RX3 92 yX7_allStates ∈ tG := t3_in (List.mem_of_getElem? (i := 100) rfl) rfl
theorem ml_X3_95 : Cond.methodLink RX3 95 yX6_forcing ∈ tG := t3_in (List.mem_of_getElem? (i := 105) rfl) rfl
theorem ml_X3_101 : Cond.methodLink RX3 101 yX3_reached ∈ tG := t3_in (List.mem_of_getElem? (i := 113) rfl) rfl
theorem ml_X3_105 : Cond.methodLink RX3 105 yX3_kept ∈ tG := t3_in (List.mem_of_getElem? (i := 118) rfl) rfl
theorem ml_X3_108 : Cond.methodLink RX3 108 yX3_unavoidable ∈ tG := t3_in (List.mem_of_getElem? (i := 126) rfl) rfl
theorem ml_X4_31 : Cond.methodLink RX4 31 yX5_put ∈ tG := t3_in (List.mem_of_getElem? (i := 60) rfl) rfl
theorem ml_X4_55 : Cond.methodLink RX4 55 yX5_at ∈ tG := t3_in (List.mem_of_getElem? (i := 200) rfl) rfl
theorem ml_X4_59 : Cond.methodLink RX4 59 yX4_take ∈ tG := t3_in (List.mem_of_getElem? (i := 201) rfl) rfl
theorem ml_X4_63 : Cond.methodLink RX4 63 yX4_closePrefixes ∈ tG := t4_in (List.mem_of_getElem? (i := 25) rfl) rfl
theorem ml_X4_66 : Cond.methodLink RX4 66 yX4_closeIf ∈ tG := t3_in (List.mem_of_getElem? (i := 238) rfl) rfl
theorem ml_X4_70 : Cond.methodLink RX4 70 yX4_takeUnit ∈ tG := t3_in (List.mem_of_getElem? (i := 205) rfl) rfl
theorem ml_X4_73 : Cond.methodLink RX4 73 yX4_takeAgent ∈ tG := t3_in (List.mem_of_getElem? (i := 226) rfl) rfl
theorem ml_X4_76 : Cond.methodLink RX4 76 yX4_takeGoal ∈ tG := t3_in (List.mem_of_getElem? (i := 230) rfl) rfl
theorem ml_X4_79 : Cond.methodLink RX4 79 yX4_takeAfterUnit ∈ tG := t3_in (List.mem_of_getElem? (i := 234) rfl) rfl
theorem ml_X4_82 : Cond.methodLink RX4 82 yX4_addLeaf ∈ tG := t3_in (List.mem_of_getElem? (i := 209) rfl) rfl
theorem ml_X4_86 : Cond.methodLink RX4 86 yX4_push ∈ tG := t3_in (List.mem_of_getElem? (i := 222) rfl) rfl
theorem ml_X4_95 : Cond.methodLink RX4 95 yX4_takeUntil ∈ tG := t4_in (List.mem_of_getElem? (i := 17) rfl) rfl
theorem ml_X4_99 : Cond.methodLink RX4 99 yX4_takeBracket ∈ tG := t4_in (List.mem_of_getElem? (i := 21) rfl) rfl
theorem ml_X4_102 : Cond.methodLink RX4 102 yX4_topOpen ∈ tG := t4_in (List.mem_of_getElem? (i := 2) rfl) rfl
theorem ml_X4_106 : Cond.methodLink RX4 106 yX4_close ∈ tG := t4_in (List.mem_of_getElem? (i := 6) rfl) rfl
theorem ml_X4_109 : Cond.methodLink RX4 109 yX0_add ∈ tG := t3_in (List.mem_of_getElem? (i := 213) rfl) rfl
theorem ml_X4_113 : Cond.methodLink RX4 113 yX4_pushOperand ∈ tG := t3_in (List.mem_of_getElem? (i := 218) rfl) rfl
theorem ml_X4_116 : Cond.methodLink RX4 116 yX4_isPrefix ∈ tG := t4_in (List.mem_of_getElem? (i := 10) rfl) rfl
theorem ml_X4_119 : Cond.methodLink RX4 119 yX4_popOperand ∈ tG := t4_in (List.mem_of_getElem? (i := 13) rfl) rfl
theorem ml_X6_25 : Cond.methodLink RX6 25 yX6_partOf ∈ tG := t1_in (List.mem_of_getElem? (i := 103) rfl) rfl
theorem ml_X6_29 : Cond.methodLink RX6 29 yX5_put ∈ tG := t2_in (List.mem_of_getElem? (i := 91) rfl) rfl
theorem ml_X6_44 : Cond.methodLink RX6 44 yX5_at ∈ tG := t2_in (List.mem_of_getElem? (i := 92) rfl) rfl
theorem ml_X6_48 : Cond.methodLink RX6 48 yX6_spread ∈ tG := t3_in (List.mem_of_getElem? (i := 20) rfl) rfl
theorem ml_X6_52 : Cond.methodLink RX6 52 yX6_leastWithin ∈ tG := t3_in (List.mem_of_getElem? (i := 21) rfl) rfl
theorem ml_X6_56 : Cond.methodLink RX6 56 yX7_target ∈ tG := t3_in (List.mem_of_getElem? (i := 38) rfl) rfl
theorem ml_X6_59 : Cond.methodLink RX6 59 yX6_jointPart ∈ tG := t3_in (List.mem_of_getElem? (i := 39) rfl) rfl
theorem ml_X6_62 : Cond.methodLink RX6 62 yX7_allStates ∈ tG := t3_in (List.mem_of_getElem? (i := 51) rfl) rfl
theorem ml_X6_69 : Cond.methodLink RX6 69 yX6_chosenJoint ∈ tG := t3_in (List.mem_of_getElem? (i := 109) rfl) rfl
theorem ml_X6_72 : Cond.methodLink RX6 72 yX6_isForced ∈ tG := t3_in (List.mem_of_getElem? (i := 25) rfl) rfl
theorem ml_X7_37 : Cond.methodLink RX7 37 yX5_copy ∈ tG := t2_in (List.mem_of_getElem? (i := 135) rfl) rfl
theorem ml_X7_43 : Cond.methodLink RX7 43 yX7_hasState ∈ tG := t2_in (List.mem_of_getElem? (i := 170) rfl) rfl
theorem ml_X7_47 : Cond.methodLink RX7 47 yX7_allStates ∈ tG := t3_in (List.mem_of_getElem? (i := 12) rfl) rfl
theorem ml_X7_51 : Cond.methodLink RX7 51 yX5_at ∈ tG := t2_in (List.mem_of_getElem? (i := 82) rfl) rfl
theorem ml_X7_55 : Cond.methodLink RX7 55 yX5_put ∈ tG := t2_in (List.mem_of_getElem? (i := 189) rfl) rfl
theorem ml_X7_59 : Cond.methodLink RX7 59 yX7_leadBack ∈ tG := t2_in (List.mem_of_getElem? (i := 190) rfl) rfl
theorem ml_X7_63 : Cond.methodLink RX7 63 yX7_target ∈ tG := t2_in (List.mem_of_getElem? (i := 166) rfl) rfl
theorem ml_X7_67 : Cond.methodLink RX7 67 yX7_setLabelSet ∈ tG := t3_in (List.mem_of_getElem? (i := 168) rfl) rfl
theorem ml_X7_71 : Cond.methodLink RX7 71 yX7_setPlannedAction ∈ tG := t3_in (List.mem_of_getElem? (i := 169) rfl) rfl
theorem ml_X7_75 : Cond.methodLink RX7 75 yX7_actionIn ∈ tG := t2_in (List.mem_of_getElem? (i := 198) rfl) rfl
theorem ml_X7_78 : Cond.methodLink RX7 78 yX7_setTarget ∈ tG := t2_in (List.mem_of_getElem? (i := 201) rfl) rfl
theorem ml_X7_83 : Cond.methodLink RX7 83 yX7_labelSet ∈ tG := t2_in (List.mem_of_getElem? (i := 157) rfl) rfl
theorem ml_X7_87 : Cond.methodLink RX7 87 yX7_actionCount ∈ tG := t2_in (List.mem_of_getElem? (i := 158) rfl) rfl
theorem ml_X7_90 : Cond.methodLink RX7 90 yX7_plannedAction ∈ tG := t2_in (List.mem_of_getElem? (i := 162) rfl) rfl
theorem ml_X7_93 : Cond.methodLink RX7 93 yX7_isWithinActions ∈ tG := t2_in (List.mem_of_getElem? (i := 194) rfl) rfl
theorem ml_X8_27 : Cond.methodLink RX8 27 yX3_look ∈ tG := t4_in (List.mem_of_getElem? (i := 67) rfl) rfl
theorem ml_X8_33 : Cond.methodLink RX8 33 yX0_topCoalition ∈ tG := t4_in (List.mem_of_getElem? (i := 68) rfl) rfl
theorem ml_X8_39 : Cond.methodLink RX8 39 yX3_goalSet ∈ tG := t4_in (List.mem_of_getElem? (i := 69) rfl) rfl
theorem ml_X8_43 : Cond.methodLink RX8 43 yX0_topKind ∈ tG := t4_in (List.mem_of_getElem? (i := 78) rfl) rfl
theorem ml_X8_49 : Cond.methodLink RX8 49 yX0_first ∈ tG := t4_in (List.mem_of_getElem? (i := 79) rfl) rfl
theorem ml_X8_53 : Cond.methodLink RX8 53 yX3_setOf ∈ tG := t4_in (List.mem_of_getElem? (i := 80) rfl) rfl
theorem ml_X8_56 : Cond.methodLink RX8 56 yX3_rankOf ∈ tG := t4_in (List.mem_of_getElem? (i := 81) rfl) rfl
theorem ml_X8_59 : Cond.methodLink RX8 59 yX3_statesBelow ∈ tG := t4_in (List.mem_of_getElem? (i := 85) rfl) rfl
theorem ml_X8_62 : Cond.methodLink RX8 62 yX6_leastForcing ∈ tG := t4_in (List.mem_of_getElem? (i := 90) rfl) rfl
theorem ml_X8_79 : Cond.methodLink RX8 79 yX8_jointAt ∈ tG := t4_in (List.mem_of_getElem? (i := 74) rfl) rfl
theorem ml_X8_86 : Cond.methodLink RX8 86 yX7_plannedAction ∈ tG := t4_in (List.mem_of_getElem? (i := 92) rfl) rfl
theorem ml_X8_89 : Cond.methodLink RX8 89 yX7_setPlannedAction ∈ tG := t4_in (List.mem_of_getElem? (i := 93) rfl) rfl
theorem ml_X8_93 : Cond.methodLink RX8 93 yX8_nextSeed ∈ tG := t4_in (List.mem_of_getElem? (i := 130) rfl) rfl
theorem ml_X8_96 : Cond.methodLink RX8 96 yX6_follow ∈ tG := t4_in (List.mem_of_getElem? (i := 135) rfl) rfl
theorem ml_X8_102 : Cond.methodLink RX8 102 yJ6_bitCount_0f7a4 ∈ tG := t4_in (List.mem_of_getElem? (i := 116) rfl) rfl
theorem ml_X9_92 : Cond.methodLink RX9 92 yX1_keep ∈ tG := t2_in (List.mem_of_getElem? (i := 180) rfl) rfl
theorem ml_X9_95 : Cond.methodLink RX9 95 yX7_grow ∈ tG := t3_in (List.mem_of_getElem? (i := 164) rfl) rfl
theorem ml_X9_99 : Cond.methodLink RX9 99 yX7_hasPlace ∈ tG := t2_in (List.mem_of_getElem? (i := 176) rfl) rfl
theorem ml_X9_103 : Cond.methodLink RX9 103 yX7_actionCount ∈ tG := t2_in (List.mem_of_getElem? (i := 184) rfl) rfl
theorem ml_X9_106 : Cond.methodLink RX9 106 yX7_setActionCount ∈ tG := t2_in (List.mem_of_getElem? (i := 185) rfl) rfl
theorem ml_X9_110 : Cond.methodLink RX9 110 yX7_hasState ∈ tG := t2_in (List.mem_of_getElem? (i := 114) rfl) rfl
theorem ml_X9_114 : Cond.methodLink RX9 114 yX7_labelSet ∈ tG := t2_in (List.mem_of_getElem? (i := 209) rfl) rfl
theorem ml_X9_118 : Cond.methodLink RX9 118 yX7_setLabelSet ∈ tG := t2_in (List.mem_of_getElem? (i := 210) rfl) rfl
theorem ml_X9_122 : Cond.methodLink RX9 122 yX7_target ∈ tG := t2_in (List.mem_of_getElem? (i := 222) rfl) rfl
theorem ml_X9_125 : Cond.methodLink RX9 125 yX7_setTarget ∈ tG := t2_in (List.mem_of_getElem? (i := 223) rfl) rfl
theorem ml_X9_128 : Cond.methodLink RX9 128 yX7_redirect ∈ tG := t2_in (List.mem_of_getElem? (i := 228) rfl) rfl
theorem ml_X9_132 : Cond.methodLink RX9 132 yX7_possibleMoves ∈ tG := t3_in (List.mem_of_getElem? (i := 178) rfl) rfl
theorem ml_X9_135 : Cond.methodLink RX9 135 yX9_isQuestion ∈ tG := t3_in (List.mem_of_getElem? (i := 0) rfl) rfl
theorem ml_X9_138 : Cond.methodLink RX9 138 yX7_hasSet ∈ tG := t3_in (List.mem_of_getElem? (i := 8) rfl) rfl
theorem ml_X9_141 : Cond.methodLink RX9 141 yX6_leastForcing ∈ tG := t3_in (List.mem_of_getElem? (i := 16) rfl) rfl
theorem ml_X9_145 : Cond.methodLink RX9 145 yX6_isJointAction ∈ tG := t3_in (List.mem_of_getElem? (i := 30) rfl) rfl
theorem ml_X9_149 : Cond.methodLink RX9 149 yX6_leastLeaving ∈ tG := t3_in (List.mem_of_getElem? (i := 34) rfl) rfl
theorem ml_X9_152 : Cond.methodLink RX9 152 yX6_countForced ∈ tG := t3_in (List.mem_of_getElem? (i := 47) rfl) rfl
theorem ml_X9_155 : Cond.methodLink RX9 155 yX4_append ∈ tG := t3_in (List.mem_of_getElem? (i := 56) rfl) rfl
theorem ml_X9_161 : Cond.methodLink RX9 161 yX4_parse ∈ tG := t3_in (List.mem_of_getElem? (i := 196) rfl) rfl
theorem ml_X9_165 : Cond.methodLink RX9 165 yX9_formulaOf ∈ tG := t3_in (List.mem_of_getElem? (i := 65) rfl) rfl
theorem ml_X9_172 : Cond.methodLink RX9 172 yX3_look ∈ tG := t3_in (List.mem_of_getElem? (i := 69) rfl) rfl
theorem ml_X9_176 : Cond.methodLink RX9 176 yX3_setOf ∈ tG := t3_in (List.mem_of_getElem? (i := 130) rfl) rfl
theorem ml_X9_179 : Cond.methodLink RX9 179 yX3_whole ∈ tG := t3_in (List.mem_of_getElem? (i := 138) rfl) rfl
theorem ml_X9_187 : Cond.methodLink RX9 187 yX0_topKind ∈ tG := t4_in (List.mem_of_getElem? (i := 98) rfl) rfl
theorem ml_X9_190 : Cond.methodLink RX9 190 yX0_topCoalition ∈ tG := t4_in (List.mem_of_getElem? (i := 49) rfl) rfl
theorem ml_X9_193 : Cond.methodLink RX9 193 yX3_goalSet ∈ tG := t4_in (List.mem_of_getElem? (i := 54) rfl) rfl
theorem ml_X9_197 : Cond.methodLink RX9 197 yX3_rankOf ∈ tG := t4_in (List.mem_of_getElem? (i := 99) rfl) rfl
theorem ml_X9_200 : Cond.methodLink RX9 200 yX0_hasStrategy ∈ tG := t4_in (List.mem_of_getElem? (i := 40) rfl) rfl
theorem ml_X9_204 : Cond.methodLink RX9 204 yX8_prepare ∈ tG := t4_in (List.mem_of_getElem? (i := 63) rfl) rfl
theorem ml_X9_207 : Cond.methodLink RX9 207 yX8_jointAt ∈ tG := t4_in (List.mem_of_getElem? (i := 104) rfl) rfl
theorem ml_X9_211 : Cond.methodLink RX9 211 yX7_plannedAction ∈ tG := t3_in (List.mem_of_getElem? (i := 148) rfl) rfl
theorem ml_X9_214 : Cond.methodLink RX9 214 yX7_setPlannedAction ∈ tG := t3_in (List.mem_of_getElem? (i := 149) rfl) rfl
theorem ml_X9_217 : Cond.methodLink RX9 217 yX8_follow ∈ tG := t4_in (List.mem_of_getElem? (i := 70) rfl) rfl
theorem ml_X9_220 : Cond.methodLink RX9 220 yX8_run ∈ tG := t4_in (List.mem_of_getElem? (i := 126) rfl) rfl
theorem ml_X9_223 : Cond.methodLink RX9 223 yX8_fewest ∈ tG := t4_in (List.mem_of_getElem? (i := 112) rfl) rfl
theorem ml_X9_226 : Cond.methodLink RX9 226 yX2_divide ∈ tG := t2_in (List.mem_of_getElem? (i := 55) rfl) rfl
theorem ml_X9_229 : Cond.methodLink RX9 229 yX2_classNumber ∈ tG := t2_in (List.mem_of_getElem? (i := 118) rfl) rfl
theorem ml_X9_232 : Cond.methodLink RX9 232 yX1_restore ∈ tG := t2_in (List.mem_of_getElem? (i := 123) rfl) rfl
theorem ml_X9_239 : Cond.methodLink RX9 239 yX7_mix ∈ tG := t2_in (List.mem_of_getElem? (i := 152) rfl) rfl
theorem ml_X9_245 : Cond.methodLink RX9 245 yX7_hasCoalition ∈ tG := t3_in (List.mem_of_getElem? (i := 4) rfl) rfl
theorem ml_X2_48 : Cond.methodLink RX2 48 Lib.Math.min.name ∈ tG := t2_in (List.mem_of_getElem? (i := 62) rfl) rfl
theorem ml_X5_7 : Cond.methodLink RX5 7 arraycopyName ∈ tG := t2_in (List.mem_of_getElem? (i := 107) rfl) rfl
theorem ml_X8_68 : Cond.methodLink RX8 68 Lib.Math.max.name ∈ tG := t4_in (List.mem_of_getElem? (i := 91) rfl) rfl
theorem ml_X9_19 : Cond.methodLink RX9 19 Lib.Math.min.name ∈ tG := t1_in (List.mem_of_getElem? (i := 24) rfl) rfl
theorem ml_X9_25 : Cond.methodLink RX9 25 Lib.Math.max.name ∈ tG := t1_in (List.mem_of_getElem? (i := 27) rfl) rfl
theorem st_Mmax : Cond.static Lib.Math.max.name ∈ tG := t1_in (List.mem_of_getElem? (i := 28) rfl) rfl
theorem co_Mmax : Cond.code Lib.Math.max.name Lib.Math.max.code 2 (some .int) ∈ tG := t1_in (List.mem_of_getElem? (i := 29) rfl) rfl
theorem st_Mmin : Cond.static Lib.Math.min.name ∈ tG := t1_in (List.mem_of_getElem? (i := 25) rfl) rfl
theorem co_Mmin : Cond.code Lib.Math.min.name Lib.Math.min.code 2 (some .int) ∈ tG := t1_in (List.mem_of_getElem? (i := 26) rfl) rfl
theorem st_arr : Cond.static arraycopyName ∈ tG := t2_in (List.mem_of_getElem? (i := 108) rfl) rfl
theorem na_arr : Cond.native arraycopyName ∈ tG := t2_in (List.mem_of_getElem? (i := 109) rfl) rfl
