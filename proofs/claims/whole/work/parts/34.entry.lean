/-! AT THE ENTRY: what the Statement gives, in the engine's words (data printed by wip/whole/tools/entry.py) -/
def en_nm (i : Nat) : String := (["NOP", "MOVE", "RET", "CONST", "CONST_LONG", "ADD", "SUB", "MUL", "ADDI", "JUMP", "JUMP_LONG", "JEQ", "JLT", "JZ", "TABLE", "CASES"] : List String).getD i ""
def en_tm (i : Nat) : Term := .static "UnitDesk$Kind" (en_nm i) "LUnitDesk$Kind;"
def en_sc (i : Nat) : String × Nat := ([("UnitDesk$Reading", 125), ("UnitDesk$Kind", 113), ("UnitDesk$Kind", 115), ("UnitDesk$Kind", 153), ("UnitDesk$Kind", 155), ("UnitDesk$Kind", 175), ("UnitDesk$Kind", 177), ("UnitDesk$Kind", 131), ("UnitDesk$Kind", 133), ("UnitDesk$Kind", 148), ("UnitDesk$Kind", 150), ("UnitDesk$Kind", 172), ("UnitDesk$Kind", 169), ("UnitDesk$Kind", 126), ("UnitDesk$Kind", 128), ("UnitDesk$Kind", 121), ("UnitDesk$Kind", 123), ("UnitDesk$Kind", 137), ("UnitDesk$Kind", 139), ("UnitDesk$Kind", 142), ("UnitDesk$Kind", 145), ("UnitDesk$Kind", 159), ("UnitDesk$Kind", 161), ("UnitDesk$Kind", 164), ("UnitDesk$Kind", 167)] : List (String × Nat)).getD i ("", 0)
def en_st (i : Nat) : Term := .string (en_sc i).1 (en_sc i).2
abbrev en_K : Term := .static "UnitDesk" "KINDS" "[LUnitDesk$Kind;"
abbrev en_W : Term := .static "UnitDesk$1" "$SwitchMap$UnitDesk$Kind" "[I"
abbrev en_1 : Term := .static "java/lang/Integer" "DigitOnes" "[B"
abbrev en_2 : Term := .static "java/lang/Integer" "DigitTens" "[B"
abbrev en_F : List Jvm.Cond := flatC (Jvm.Cond.and given_1 narrow_1)
theorem en_a1 : ∀ i ∈ List.range 16, Jvm.Cond.exactly (en_tm i) "UnitDesk$Kind" ∈ en_F := by decide +kernel
theorem en_a2_0 : ∀ i ∈ List.range 16, Jvm.Cond.eq (.field (en_tm i) "java/lang/Enum" "ordinal" "I") (.int (kd_ordinal i)) ∈ en_F := by decide +kernel
theorem en_a2_1 : ∀ i ∈ List.range 16, Jvm.Cond.eq (.field (en_tm i) "UnitDesk$Kind" "op" "I") (.int (kd_op i)) ∈ en_F := by decide +kernel
theorem en_a2_2 : ∀ i ∈ List.range 16, Jvm.Cond.eq (.field (en_tm i) "UnitDesk$Kind" "units" "I") (.int (kd_units i)) ∈ en_F := by decide +kernel
theorem en_a2_3 : ∀ i ∈ List.range 16, Jvm.Cond.eq (.field (en_tm i) "UnitDesk$Kind" "fieldAt" "I") (.int (kd_fieldAt i)) ∈ en_F := by decide +kernel
theorem en_a2_4 : ∀ i ∈ List.range 16, Jvm.Cond.eq (.field (en_tm i) "UnitDesk$Kind" "secondRegisterAt" "I") (.int (kd_secondRegisterAt i)) ∈ en_F := by decide +kernel
theorem en_a2_5 : ∀ i ∈ List.range 16, Jvm.Cond.eq (.field (en_tm i) "UnitDesk$Kind" "goes" "Z") (.int (kd_goes i)) ∈ en_F := by decide +kernel
theorem en_a2 : ∀ i ∈ List.range 16, Jvm.Cond.eq (.field (en_tm i) "java/lang/Enum" "ordinal" "I") (.int (kd_ordinal i)) ∈ en_F ∧ Jvm.Cond.eq (.field (en_tm i) "UnitDesk$Kind" "op" "I") (.int (kd_op i)) ∈ en_F ∧ Jvm.Cond.eq (.field (en_tm i) "UnitDesk$Kind" "units" "I") (.int (kd_units i)) ∈ en_F ∧ Jvm.Cond.eq (.field (en_tm i) "UnitDesk$Kind" "fieldAt" "I") (.int (kd_fieldAt i)) ∈ en_F ∧ Jvm.Cond.eq (.field (en_tm i) "UnitDesk$Kind" "secondRegisterAt" "I") (.int (kd_secondRegisterAt i)) ∈ en_F ∧ Jvm.Cond.eq (.field (en_tm i) "UnitDesk$Kind" "goes" "Z") (.int (kd_goes i)) ∈ en_F := fun i h => ⟨en_a2_0 i h, en_a2_1 i h, en_a2_2 i h, en_a2_3 i h, en_a2_4 i h, en_a2_5 i h⟩
theorem en_a3 : ∀ i ∈ List.range 16, Jvm.Cond.eq (.field (en_tm i) "UnitDesk$Kind" "word" "Ljava/lang/String;") (en_st (kd_word i)) ∈ en_F ∧ Jvm.Cond.eq (.field (en_tm i) "UnitDesk$Kind" "arguments" "Ljava/lang/String;") (en_st (kd_arguments i)) ∈ en_F := by decide +kernel
theorem en_a4 : Jvm.Cond.arrayOf en_K (.object "UnitDesk$Kind") ∈ en_F ∧ Jvm.Cond.eq (.length en_K) (.int (Int32.ofNat 16)) ∈ en_F ∧ ∀ i ∈ List.range 16, Jvm.Cond.eq (.elem en_K (.int (Int32.ofNat i))) (en_tm i) ∈ en_F := by decide +kernel
theorem en_a5 : Jvm.Cond.arrayOf en_W .int ∈ en_F ∧ Jvm.Cond.eq (.length en_W) (.int (Int32.ofNat 16)) ∈ en_F ∧ ∀ i ∈ List.range 16, Jvm.Cond.eq (.elem en_W (.int (Int32.ofNat i))) (.int (kd_sw i)) ∈ en_F := by decide +kernel
theorem en_a9 : Jvm.Cond.eq (.static "java/lang/String" "COMPACT_STRINGS" "Z") (.int 1) ∈ en_F ∧ Jvm.Cond.isRef (.static "jdk/internal/util/Preconditions" "SIOOBE_FORMATTER" "Ljava/util/function/BiFunction;") ∈ en_F := by decide +kernel
theorem en_b1 : ∀ a ∈ List.range pm_ns, Jvm.Cond.laysStatic (pm_s a).1 (pm_s a).2.1 (pm_s a).2.2 ∈ lw_tbl ∧ Jvm.Cond.initialized (pm_s a).1 ∈ lw_tbl := by decide +kernel
theorem en_b2 : Jvm.Cond.stringRef "UnitDesk$Reading" 125 " v" ∈ lw_tbl ∧ Jvm.Cond.arrayOver (.object "UnitDesk$Item") ∈ lw_tbl := by decide +kernel
theorem en_b3 : ∀ y ∈ eg_xs, (Jvm.Cond.privateMethod y ∈ lw_tbl ∧ Jvm.Cond.instanceMethod y ∈ lw_tbl ∧ y.cls ≠ "java/lang/invoke/MethodHandle" ∧ y.cls ≠ "java/lang/invoke/VarHandle") ∧ Jvm.Cond.instantiable "java/lang/StringBuilder" 4 ∈ lw_tbl := by decide +kernel
theorem en_b4 : ∀ b ∈ List.range 11, 1 ≤ b → Jvm.Cond.instantiable (pm_c b).1 (pm_c b).2.2 ∈ lw_tbl := by decide +kernel
theorem en_b5 : ∀ b ∈ List.range 11, 1 ≤ b → ∀ w ∈ u_ws (pm_c b).1 (pm_c b).2.1 (pm_c b).2.2, w ∈ lw_tbl := by decide +kernel
