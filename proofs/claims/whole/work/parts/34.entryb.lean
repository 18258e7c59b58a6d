theorem en_a6_0 : ∀ i ∈ List.range' 0 10, Jvm.Cond.eq (.elem en_1 (.int (Int32.ofNat i))) (.int (kd_ones i)) ∈ en_F := by decide +kernel
theorem en_a6_1 : ∀ i ∈ List.range' 10 10, Jvm.Cond.eq (.elem en_1 (.int (Int32.ofNat i))) (.int (kd_ones i)) ∈ en_F := by decide +kernel
theorem en_a6_2 : ∀ i ∈ List.range' 20 10, Jvm.Cond.eq (.elem en_1 (.int (Int32.ofNat i))) (.int (kd_ones i)) ∈ en_F := by decide +kernel
theorem en_a6_3 : ∀ i ∈ List.range' 30 10, Jvm.Cond.eq (.elem en_1 (.int (Int32.ofNat i))) (.int (kd_ones i)) ∈ en_F := by decide +kernel
theorem en_a6_4 : ∀ i ∈ List.range' 40 10, Jvm.Cond.eq (.elem en_1 (.int (Int32.ofNat i))) (.int (kd_ones i)) ∈ en_F := by decide +kernel
theorem en_a6_5 : ∀ i ∈ List.range' 50 10, Jvm.Cond.eq (.elem en_1 (.int (Int32.ofNat i))) (.int (kd_ones i)) ∈ en_F := by decide +kernel
theorem en_a6_6 : ∀ i ∈ List.range' 60 10, Jvm.Cond.eq (.elem en_1 (.int (Int32.ofNat i))) (.int (kd_ones i)) ∈ en_F := by decide +kernel
theorem en_a6_7 : ∀ i ∈ List.range' 70 10, Jvm.Cond.eq (.elem en_1 (.int (Int32.ofNat i))) (.int (kd_ones i)) ∈ en_F := by decide +kernel
theorem en_a6_8 : ∀ i ∈ List.range' 80 10, Jvm.Cond.eq (.elem en_1 (.int (Int32.ofNat i))) (.int (kd_ones i)) ∈ en_F := by decide +kernel
theorem en_a6_9 : ∀ i ∈ List.range' 90 10, Jvm.Cond.eq (.elem en_1 (.int (Int32.ofNat i))) (.int (kd_ones i)) ∈ en_F := by decide +kernel
theorem en_a6_x : Jvm.Cond.arrayOf en_1 .byte ∈ en_F ∧ Jvm.Cond.eq (.length en_1) (.int (Int32.ofNat 100)) ∈ en_F := by decide +kernel
theorem en_a6 : Jvm.Cond.arrayOf en_1 .byte ∈ en_F ∧ Jvm.Cond.eq (.length en_1) (.int (Int32.ofNat 100)) ∈ en_F ∧ ∀ i ∈ List.range 100, Jvm.Cond.eq (.elem en_1 (.int (Int32.ofNat i))) (.int (kd_ones i)) ∈ en_F := by
  refine ⟨en_a6_x.1, en_a6_x.2, fun i hi => ?_⟩
  have h := List.mem_range.mp hi
  have h9 : (0 ≤ i ∧ i < 0 + 10) ∨ (10 ≤ i ∧ i < 10 + 10) ∨ (20 ≤ i ∧ i < 20 + 10) ∨ (30 ≤ i ∧ i < 30 + 10) ∨ (40 ≤ i ∧ i < 40 + 10) ∨ (50 ≤ i ∧ i < 50 + 10) ∨ (60 ≤ i ∧ i < 60 + 10) ∨ (70 ≤ i ∧ i < 70 + 10) ∨ (80 ≤ i ∧ i < 80 + 10) ∨ (90 ≤ i ∧ i < 90 + 10) := by omega
  rcases h9 with h | h | h | h | h | h | h | h | h | h
  · exact en_a6_0 i (List.mem_range'_1.mpr h)
  · exact en_a6_1 i (List.mem_range'_1.mpr h)
  · exact en_a6_2 i (List.mem_range'_1.mpr h)
  · exact en_a6_3 i (List.mem_range'_1.mpr h)
  · exact en_a6_4 i (List.mem_range'_1.mpr h)
  · exact en_a6_5 i (List.mem_range'_1.mpr h)
  · exact en_a6_6 i (List.mem_range'_1.mpr h)
  · exact en_a6_7 i (List.mem_range'_1.mpr h)
  · exact en_a6_8 i (List.mem_range'_1.mpr h)
  · exact en_a6_9 i (List.mem_range'_1.mpr h)
