/-! words by their places -/
theorem aw_t1 {w : Cond} (i : Nat) (h : tables_1_1[i]? = some w) (g : goodWord w = true) : w ∈ aw := List.mem_filter.mpr ⟨List.mem_append_right _ (List.mem_append_left _ (List.mem_of_getElem? h)), g⟩
theorem aw_t2 {w : Cond} (i : Nat) (h : tables_1_2[i]? = some w) (g : goodWord w = true) : w ∈ aw := List.mem_filter.mpr ⟨List.mem_append_right _ (List.mem_append_right _ (List.mem_append_left _ (List.mem_of_getElem? h))), g⟩
theorem aw_t3 {w : Cond} (i : Nat) (h : tables_1_3[i]? = some w) (g : goodWord w = true) : w ∈ aw := List.mem_filter.mpr ⟨List.mem_append_right _ (List.mem_append_right _ (List.mem_append_right _ (List.mem_append_left _ (List.mem_of_getElem? h)))), g⟩
theorem aw_t4 {w : Cond} (i : Nat) (h : tables_1_4[i]? = some w) (g : goodWord w = true) : w ∈ aw := List.mem_filter.mpr ⟨List.mem_append_right _ (List.mem_append_right _ (List.mem_append_right _ (List.mem_append_right _ (List.mem_append_left _ (List.mem_of_getElem? h))))), g⟩
theorem aw_t5 {w : Cond} (i : Nat) (h : tables_1_5[i]? = some w) (g : goodWord w = true) : w ∈ aw := List.mem_filter.mpr ⟨List.mem_append_right _ (List.mem_append_right _ (List.mem_append_right _ (List.mem_append_right _ (List.mem_append_right _ (List.mem_append_left _ (List.mem_of_getElem? h)))))), g⟩
theorem aw_t6 {w : Cond} (i : Nat) (h : tables_1_6[i]? = some w) (g : goodWord w = true) : w ∈ aw := List.mem_filter.mpr ⟨List.mem_append_right _ (List.mem_append_right _ (List.mem_append_right _ (List.mem_append_right _ (List.mem_append_right _ (List.mem_append_right _ (List.mem_append_left _ (List.mem_of_getElem? h))))))), g⟩
theorem aw_t7 {w : Cond} (i : Nat) (h : tables_1_7[i]? = some w) (g : goodWord w = true) : w ∈ aw := List.mem_filter.mpr ⟨List.mem_append_right _ (List.mem_append_right _ (List.mem_append_right _ (List.mem_append_right _ (List.mem_append_right _ (List.mem_append_right _ (List.mem_append_right _ (List.mem_append_left _ (List.mem_of_getElem? h)))))))), g⟩
theorem aw_t8 {w : Cond} (i : Nat) (h : tables_1_8[i]? = some w) (g : goodWord w = true) : w ∈ aw := List.mem_filter.mpr ⟨List.mem_append_right _ (List.mem_append_right _ (List.mem_append_right _ (List.mem_append_right _ (List.mem_append_right _ (List.mem_append_right _ (List.mem_append_right _ (List.mem_append_right _ (List.mem_of_getElem? h)))))))), g⟩
theorem aw_list {ws : List Cond} (ps : List Nat) (h : ps.filterMap (fun i => tables_1[i]?) = ws) (g : ws.all goodWord = true) : ∀ w ∈ ws, w ∈ aw := fun w hw => by
  have h1 := List.all_eq_true.mp g w hw
  rw [← h] at hw
  obtain ⟨i, -, hi⟩ := List.mem_filterMap.mp hw
  exact aw_t i hi h1
theorem inA0 : ∀ w ∈ u_ws RX0 TX0 2, w ∈ aw := aw_list [100, 102] (by decide +kernel) (by decide +kernel)
theorem inA1 : ∀ w ∈ u_ws RX1 TX1 2, w ∈ aw := aw_list [47, 49] (by decide +kernel) (by decide +kernel)
theorem inA2 : ∀ w ∈ u_ws RX2 TX2 3, w ∈ aw := aw_list [65, 67, 69] (by decide +kernel) (by decide +kernel)
theorem inA3 : ∀ w ∈ u_ws RX3 TX3 2, w ∈ aw := aw_list [158, 160] (by decide +kernel) (by decide +kernel)
theorem inA4 : ∀ w ∈ u_ws RX4 TX4 4, w ∈ aw := aw_list [82, 84, 86, 88] (by decide +kernel) (by decide +kernel)
theorem inA5 : ∀ w ∈ u_ws RX5 TX5 7, w ∈ aw := aw_list [134, 136, 138, 140, 142, 144, 146] (by decide +kernel) (by decide +kernel)
theorem inA6 : ∀ w ∈ u_ws RX6 TX6 3, w ∈ aw := aw_list [114, 116, 118] (by decide +kernel) (by decide +kernel)
theorem inA7 : ∀ w ∈ u_ws RX7 TX7 14, w ∈ aw := aw_list [177, 179, 181, 183, 185, 187, 189, 191, 193, 195, 197, 199, 201, 203] (by decide +kernel) (by decide +kernel)
theorem inA8 : ∀ w ∈ u_ws RX8 TX8 21, w ∈ aw := aw_list [1323, 1325, 1327, 1329, 1331, 1333, 1335, 1337, 1339, 1341, 1343, 1345, 1347, 1349, 1351, 1353, 1355, 1357, 1359, 1361, 1363] (by decide +kernel) (by decide +kernel)
theorem qMs_min : Cond.static Lib.Math.min.name ∈ aw := aw_t2 115 rfl rfl
theorem qMc_min : Cond.code Lib.Math.min.name Lib.Math.min.code 2 (some .int) ∈ aw := aw_t2 116 rfl rfl
theorem qMs_max : Cond.static Lib.Math.max.name ∈ aw := aw_t2 112 rfl rfl
theorem qMc_max : Cond.code Lib.Math.max.name Lib.Math.max.code 2 (some .int) ∈ aw := aw_t2 113 rfl rfl
theorem qMs_abs : Cond.static Lib.Math.abs.name ∈ aw := aw_t2 94 rfl rfl
theorem qMc_abs : Cond.code Lib.Math.abs.name Lib.Math.abs.code 1 (some .int) ∈ aw := aw_t2 95 rfl rfl
theorem qMi : Cond.initialized "java/lang/Math" ∈ aw := aw_t1 19 rfl rfl
theorem qFX1_15 : Cond.fieldLink RX1 15 "WhalePolo$Game" "counts" "[I" ∈ aw := aw_t1 46 rfl rfl
theorem qFX1_9 : Cond.fieldLink RX1 9 "WhalePolo$Game" "whales" "[I" ∈ aw := aw_t1 45 rfl rfl
theorem mX7_isEdge : MS yX7_isEdge cX7_isEdge 2 (some .boolean) 1 := ⟨⟨aw_t1 1 rfl rfl, aw_t2 14 rfl rfl, ⟨by decide +kernel, by decide +kernel⟩, by decide +kernel⟩, aw_t2 13 rfl rfl⟩
theorem mX1_count : MV yX1_count cX1_count 2 (some .int) 1 := ⟨⟨aw_t1 2 rfl rfl, aw_t1 213 rfl rfl, ⟨by decide +kernel, by decide +kernel⟩, by decide +kernel⟩, aw_t1 211 rfl rfl, aw_t1 212 rfl rfl⟩
theorem qLX1_28 : Cond.methodLink RX1 28 yX1_count ∈ aw := aw_t2 15 rfl rfl
theorem mX7_tideByDividing : MS yX7_tideByDividing cX7_tideByDividing 2 (some .int) 1 := ⟨⟨aw_t1 1 rfl rfl, aw_t1 227 rfl rfl, ⟨by decide +kernel, by decide +kernel⟩, by decide +kernel⟩, aw_t1 226 rfl rfl⟩
theorem mX1_of : MV yX1_of cX1_of 4 (some .int) 2 := ⟨⟨aw_t1 2 rfl rfl, aw_t1 239 rfl rfl, ⟨by decide +kernel, by decide +kernel⟩, by decide +kernel⟩, aw_t1 237 rfl rfl, aw_t1 238 rfl rfl⟩
theorem qLX1_32 : Cond.methodLink RX1 32 yX1_of ∈ aw := aw_t1 236 rfl rfl
theorem mX1_countOf : MV yX1_countOf cX1_countOf 4 (some .int) 1 := ⟨⟨aw_t1 2 rfl rfl, aw_t2 163 rfl rfl, ⟨by decide +kernel, by decide +kernel⟩, by decide +kernel⟩, aw_t2 161 rfl rfl, aw_t2 162 rfl rfl⟩
theorem qLX1_53 : Cond.methodLink RX1 53 yX1_countOf ∈ aw := aw_t2 172 rfl rfl
theorem mX1_setCount : MV yX1_setCount cX1_setCount 3 none 2 := ⟨⟨aw_t1 2 rfl rfl, aw_t1 44 rfl rfl, ⟨by decide +kernel, by decide +kernel⟩, by decide +kernel⟩, aw_t1 43 rfl rfl, aw_p 0 rfl rfl⟩
theorem qLX1_18 : Cond.methodLink RX1 18 yX1_setCount ∈ aw := aw_t1 41 rfl rfl
theorem mX1_set : MV yX1_set cX1_set 5 none 3 := ⟨⟨aw_t1 2 rfl rfl, aw_t3 55 rfl rfl, ⟨by decide +kernel, by decide +kernel⟩, by decide +kernel⟩, aw_t3 54 rfl rfl, aw_p 17 rfl rfl⟩
theorem qLX1_36 : Cond.methodLink RX1 36 yX1_set ∈ aw := aw_t3 52 rfl rfl
theorem mX1_firstCell : MV yX1_firstCell cX1_firstCell 4 (some .int) 1 := ⟨⟨aw_t1 2 rfl rfl, aw_t2 171 rfl rfl, ⟨by decide +kernel, by decide +kernel⟩, by decide +kernel⟩, aw_t2 169 rfl rfl, aw_t2 170 rfl rfl⟩
theorem qLX1_62 : Cond.methodLink RX1 62 yX1_firstCell ∈ aw := aw_t3 51 rfl rfl
theorem mX1_addCount : MV yX1_addCount cX1_addCount 3 none 2 := ⟨⟨aw_t1 2 rfl rfl, aw_t3 59 rfl rfl, ⟨by decide +kernel, by decide +kernel⟩, by decide +kernel⟩, aw_t3 58 rfl rfl, aw_p 18 rfl rfl⟩
theorem qLX1_65 : Cond.methodLink RX1 65 yX1_addCount ∈ aw := aw_t3 56 rfl rfl
theorem qLX1_85 : Cond.methodLink RX1 85 Lib.Math.min.name ∈ aw := aw_t3 139 rfl rfl
theorem qLX7_452 : Cond.methodLink RX7 452 Lib.Math.abs.name ∈ aw := aw_t2 93 rfl rfl
theorem mX7_between : MS yX7_between cX7_between 4 (some .int) 2 := ⟨⟨aw_t1 1 rfl rfl, aw_t2 92 rfl rfl, ⟨by decide +kernel, by decide +kernel⟩, by decide +kernel⟩, aw_t2 91 rfl rfl⟩
theorem mX1_isNearBuoy : MV yX1_isNearBuoy cX1_isNearBuoy 3 (some .boolean) 1 := ⟨⟨aw_t1 2 rfl rfl, aw_t2 89 rfl rfl, ⟨by decide +kernel, by decide +kernel⟩, by decide +kernel⟩, aw_t2 87 rfl rfl, aw_t2 88 rfl rfl⟩
theorem qLX1_59 : Cond.methodLink RX1 59 yX1_isNearBuoy ∈ aw := aw_t2 86 rfl rfl
