theorem mw_112 : Cond.classLink RL 7 RX6 ∈ gT := List.mem_filter.mpr ⟨List.mem_of_getElem? (i := 112) (by decide +kernel), rfl⟩
theorem mw_113 : Cond.instantiable RX6 16 ∈ gT := List.mem_filter.mpr ⟨List.mem_of_getElem? (i := 113) (by decide +kernel), rfl⟩
theorem mw_119 : Cond.code objectInit ⟨#[0xb1]⟩ 1 none ∈ gT := List.mem_filter.mpr ⟨List.mem_of_getElem? (i := 119) (by decide +kernel), rfl⟩
theorem mw_120 : Cond.classLink RX6 9 RX2 ∈ gT := List.mem_filter.mpr ⟨List.mem_of_getElem? (i := 120) (by decide +kernel), rfl⟩
theorem mw_121 : Cond.instantiable RX2 5 ∈ gT := List.mem_filter.mpr ⟨List.mem_of_getElem? (i := 121) (by decide +kernel), rfl⟩
theorem mw_158 : Cond.arrayClass .int ∈ gT := List.mem_filter.mpr ⟨List.mem_of_getElem? (i := 158) (by decide +kernel), rfl⟩
theorem mw_159 : Cond.classLink RX6 19 RX5 ∈ gT := List.mem_filter.mpr ⟨List.mem_of_getElem? (i := 159) (by decide +kernel), rfl⟩
theorem mw_160 : Cond.instantiable RX5 3 ∈ gT := List.mem_filter.mpr ⟨List.mem_of_getElem? (i := 160) (by decide +kernel), rfl⟩
theorem mw_165 : Cond.classLink RX5 9 RX2 ∈ gT := List.mem_filter.mpr ⟨List.mem_of_getElem? (i := 165) (by decide +kernel), rfl⟩
theorem mw_179 : Cond.classLink RX6 26 RX4 ∈ gT := List.mem_filter.mpr ⟨List.mem_of_getElem? (i := 179) (by decide +kernel), rfl⟩
theorem mw_180 : Cond.instantiable RX4 9 ∈ gT := List.mem_filter.mpr ⟨List.mem_of_getElem? (i := 180) (by decide +kernel), rfl⟩
theorem mw_185 : Cond.classLink RX4 30 RX1 ∈ gT := List.mem_filter.mpr ⟨List.mem_of_getElem? (i := 185) (by decide +kernel), rfl⟩
theorem mw_186 : Cond.instantiable RX1 11 ∈ gT := List.mem_filter.mpr ⟨List.mem_of_getElem? (i := 186) (by decide +kernel), rfl⟩
theorem mw_268 : Cond.classLink RX6 36 RX0 ∈ gT := List.mem_filter.mpr ⟨List.mem_of_getElem? (i := 268) (by decide +kernel), rfl⟩
theorem mw_269 : Cond.instantiable RX0 3 ∈ gT := List.mem_filter.mpr ⟨List.mem_of_getElem? (i := 269) (by decide +kernel), rfl⟩
theorem mw_289 : Cond.arrayClass .byte ∈ gT := List.mem_filter.mpr ⟨List.mem_of_getElem? (i := 289) (by decide +kernel), rfl⟩
theorem mw_290 : Cond.classLink RX6 43 RX3 ∈ gT := List.mem_filter.mpr ⟨List.mem_of_getElem? (i := 290) (by decide +kernel), rfl⟩
theorem mw_291 : Cond.instantiable RX3 9 ∈ gT := List.mem_filter.mpr ⟨List.mem_of_getElem? (i := 291) (by decide +kernel), rfl⟩
theorem mw_788 : Cond.classLink RL 10 RX7 ∈ gT := List.mem_filter.mpr ⟨List.mem_of_getElem? (i := 788) (by decide +kernel), rfl⟩
theorem mw_789 : Cond.instantiable RX7 16 ∈ gT := List.mem_filter.mpr ⟨List.mem_of_getElem? (i := 789) (by decide +kernel), rfl⟩
theorem mw_843 : Cond.arrayClass .boolean ∈ gT := List.mem_filter.mpr ⟨List.mem_of_getElem? (i := 843) (by decide +kernel), rfl⟩
theorem mw_166 : Cond.arrayOver (.object RX2) ∈ lw_tbl := List.mem_of_getElem? (i := 166) (by decide +kernel)
theorem mw_454 : Cond.laysStatic RX6 "TURN_FROM" "[I" ∈ lw_tbl := List.mem_of_getElem? (i := 454) (by decide +kernel)
theorem mw_456 : Cond.laysStatic RX6 "TURN_SIGN" "[I" ∈ lw_tbl := List.mem_of_getElem? (i := 456) (by decide +kernel)
