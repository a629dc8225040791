theorem mv_0 : Cond.methodLink RX0 3 objectInit ∈ ct_UW := ct_w1 134 (by decide +kernel) rfl
theorem mv_1 : Cond.instanceMethod objectInit ∈ ct_UW := ct_w1 23 (by decide +kernel) rfl
theorem mv_2 : Cond.code objectInit ⟨#[0xb1]⟩ 1 none ∈ ct_UW := ct_w1 24 (by decide +kernel) rfl
theorem mv_3 : Cond.arrayClass .int ∈ ct_UW := ct_w1 90 (by decide +kernel) rfl
theorem mv_4 : Cond.fieldLink RX0 9 "CellTransactions$CellLog" "numbers" "[I" ∈ ct_UW := ct_w1 138 (by decide +kernel) rfl
theorem mv_5 : Cond.methodLink RX4 1 objectInit ∈ ct_UW := ct_w1 151 (by decide +kernel) rfl
theorem mv_6 : Cond.classLink RX4 7 RX0 ∈ ct_UW := ct_w1 152 (by decide +kernel) rfl
theorem mv_7 : Cond.instantiable RX0 2 ∈ ct_UW := ct_w1 130 (by decide +kernel) rfl
theorem mv_8 : Cond.initialized RX0 ∈ ct_UW := ct_w1 8 (by decide +kernel) rfl
theorem mv_9 : Cond.instanceMethod yX0_init ∈ ct_UW := ct_w1 132 (by decide +kernel) rfl
theorem mv_10 : Cond.code yX0_init cX0_init 1 none ∈ ct_UW := ct_w1 133 (by decide +kernel) rfl
theorem mv_11 : Cond.fieldLink RX4 10 "CellTransactions$OpenBlock" "writes" "LCellTransactions$CellLog;" ∈ ct_UW := ct_w1 163 (by decide +kernel) rfl
theorem mv_12 : Cond.methodLink RX9 3 objectInit ∈ ct_UW := ct_w1 128 (by decide +kernel) rfl
theorem mv_13 : Cond.classLink RX9 9 RX0 ∈ ct_UW := ct_w1 129 (by decide +kernel) rfl
theorem mv_14 : Cond.fieldLink RX9 12 "CellTransactions$Worker" "reads" "LCellTransactions$CellLog;" ∈ ct_UW := ct_w1 195 (by decide +kernel) rfl
theorem mv_15 : Cond.fieldLink RX9 18 "CellTransactions$Worker" "writes" "LCellTransactions$CellLog;" ∈ ct_UW := ct_w1 198 (by decide +kernel) rfl
theorem mv_16 : Cond.classLink RX9 21 RX4 ∈ ct_UW := ct_w1 145 (by decide +kernel) rfl
theorem mv_17 : Cond.fieldLink RX9 23 "CellTransactions$Worker" "open" "[LCellTransactions$OpenBlock;" ∈ ct_UW := ct_w1 201 (by decide +kernel) rfl
theorem mv_18 : Cond.fieldLink RX9 27 "CellTransactions$Worker" "program" "LCellTransactions$Program;" ∈ ct_UW := ct_w1 176 (by decide +kernel) rfl
theorem mv_19 : Cond.instantiable RX4 5 ∈ ct_UW := ct_w1 147 (by decide +kernel) rfl
theorem mv_20 : Cond.initialized RX4 ∈ ct_UW := ct_w1 9 (by decide +kernel) rfl
theorem mv_21 : Cond.instanceMethod yX4_init ∈ ct_UW := ct_w1 149 (by decide +kernel) rfl
theorem mv_22 : Cond.code yX4_init cX4_init 1 none ∈ ct_UW := ct_w1 150 (by decide +kernel) rfl
theorem mv_23 : Cond.methodLink RX10 3 objectInit ∈ ct_UW := ct_w1 121 (by decide +kernel) rfl
theorem mv_24 : Cond.fieldLink RX10 9 "CellTransactions$World" "values" "[I" ∈ ct_UW := ct_w1 227 (by decide +kernel) rfl
theorem mv_25 : Cond.fieldLink RX10 15 "CellTransactions$World" "versions" "[I" ∈ ct_UW := ct_w1 231 (by decide +kernel) rfl
theorem mv_26 : Cond.classLink RX10 18 RX9 ∈ ct_UW := ct_w1 122 (by decide +kernel) rfl
theorem mv_27 : Cond.fieldLink RX10 20 "CellTransactions$World" "workers" "[LCellTransactions$Worker;" ∈ ct_UW := ct_w1 234 (by decide +kernel) rfl
theorem mv_28 : Cond.fieldLink RX10 24 "CellTransactions$World" "firstCells" "[I" ∈ ct_UW := ct_w2 0 (by decide +kernel) rfl
theorem mv_29 : Cond.fieldLink RX10 27 "CellTransactions$World" "secondCells" "[I" ∈ ct_UW := ct_w2 1 (by decide +kernel) rfl
theorem mv_30 : Cond.fieldLink RX10 30 "CellTransactions$World" "leastSums" "[I" ∈ ct_UW := ct_w2 2 (by decide +kernel) rfl
theorem mv_31 : Cond.instantiable RX9 10 ∈ ct_UW := ct_w1 124 (by decide +kernel) rfl
theorem mv_32 : Cond.initialized RX9 ∈ ct_UW := ct_w1 7 (by decide +kernel) rfl
theorem mv_33 : Cond.methodLink RX10 33 yX9_init ∈ ct_UW := ct_w1 125 (by decide +kernel) rfl
theorem mv_34 : Cond.instanceMethod yX9_init ∈ ct_UW := ct_w1 126 (by decide +kernel) rfl
theorem mv_35 : Cond.code yX9_init cX9_init 3 none ∈ ct_UW := ct_w1 127 (by decide +kernel) rfl
theorem mv_36 : Cond.methodLink RX2 3 objectInit ∈ ct_UW := ct_w2 52 (by decide +kernel) rfl
theorem mv_37 : Cond.arrayClass .long ∈ ct_UW := ct_w2 67 (by decide +kernel) rfl
theorem mv_38 : Cond.fieldLink RX2 9 "CellTransactions$KeySet" "keys" "[J" ∈ ct_UW := ct_w2 53 (by decide +kernel) rfl
theorem mv_39 : Cond.fieldLink RX2 13 "CellTransactions$KeySet" "table" "[I" ∈ ct_UW := ct_w2 59 (by decide +kernel) rfl
theorem mv_40 : Cond.methodLink RX3 3 objectInit ∈ ct_UW := ct_w1 74 (by decide +kernel) rfl
theorem mv_41 : Cond.fieldLink RX3 9 "CellTransactions$Observations" "cells" "[I" ∈ ct_UW := ct_w1 75 (by decide +kernel) rfl
theorem mv_42 : Cond.fieldLink RX3 15 "CellTransactions$Observations" "values" "[I" ∈ ct_UW := ct_w1 76 (by decide +kernel) rfl
theorem mv_43 : Cond.methodLink RX5 3 objectInit ∈ ct_UW := ct_w1 95 (by decide +kernel) rfl
theorem mv_44 : Cond.arrayClass .char ∈ ct_UW := ct_w1 53 (by decide +kernel) rfl
theorem mv_45 : Cond.fieldLink RX5 9 "CellTransactions$Program" "signs" "[C" ∈ ct_UW := ct_w1 96 (by decide +kernel) rfl
theorem mv_46 : Cond.fieldLink RX5 15 "CellTransactions$Program" "numbers" "[I" ∈ ct_UW := ct_w1 98 (by decide +kernel) rfl
theorem mv_47 : Cond.fieldLink RX5 19 "CellTransactions$Program" "partners" "[I" ∈ ct_UW := ct_w1 100 (by decide +kernel) rfl
theorem mv_48 : Cond.fieldLink RX5 22 "CellTransactions$Program" "unmatched" "[I" ∈ ct_UW := ct_w1 102 (by decide +kernel) rfl
theorem mv_49 : Cond.methodLink RX7 3 objectInit ∈ ct_UW := ct_w1 36 (by decide +kernel) rfl
theorem mv_50 : Cond.fieldLink RX7 9 "CellTransactions$SetupCheck" "awaited" "[C" ∈ ct_UW := ct_w1 41 (by decide +kernel) rfl
theorem mv_51 : Cond.methodLink RX8 3 objectInit ∈ ct_UW := ct_w1 30 (by decide +kernel) rfl
theorem mv_52 : Cond.fieldLink RX8 9 "CellTransactions$SetupText" "signs" "[C" ∈ ct_UW := ct_w1 54 (by decide +kernel) rfl
theorem mv_53 : Cond.classLink RX8 15 RX7 ∈ ct_UW := ct_w1 31 (by decide +kernel) rfl
theorem mv_54 : Cond.instantiable RX7 5 ∈ ct_UW := ct_w1 32 (by decide +kernel) rfl
theorem mv_55 : Cond.initialized RX7 ∈ ct_UW := ct_w1 3 (by decide +kernel) rfl
theorem mv_56 : Cond.instanceMethod yX7_init ∈ ct_UW := ct_w1 34 (by decide +kernel) rfl
theorem mv_57 : Cond.code yX7_init cX7_init 1 none ∈ ct_UW := ct_w1 35 (by decide +kernel) rfl
theorem mv_58 : Cond.fieldLink RX8 18 "CellTransactions$SetupText" "check" "LCellTransactions$SetupCheck;" ∈ ct_UW := ct_w1 57 (by decide +kernel) rfl
theorem mv_59 : Cond.methodLink RX1 3 objectInit ∈ ct_UW := ct_w2 27 (by decide +kernel) rfl
theorem mv_60 : Cond.classLink RX1 9 RX10 ∈ ct_UW := ct_w2 28 (by decide +kernel) rfl
theorem mv_61 : Cond.fieldLink RX1 11 "CellTransactions$History" "ring" "[LCellTransactions$World;" ∈ ct_UW := ct_w2 30 (by decide +kernel) rfl
theorem mv_62 : Cond.instantiable RX10 8 ∈ ct_UW := ct_w1 117 (by decide +kernel) rfl
theorem mv_63 : Cond.initialized RX10 ∈ ct_UW := ct_w1 6 (by decide +kernel) rfl
theorem mv_64 : Cond.methodLink RX1 17 yX10_init ∈ ct_UW := ct_w2 29 (by decide +kernel) rfl
theorem mv_65 : Cond.instanceMethod yX10_init ∈ ct_UW := ct_w1 119 (by decide +kernel) rfl
theorem mv_66 : Cond.code yX10_init cX10_init 3 none ∈ ct_UW := ct_w1 120 (by decide +kernel) rfl
theorem mv_67 : Cond.methodLink RX6 5 objectInit ∈ ct_UW := ct_w2 46 (by decide +kernel) rfl
theorem mv_68 : Cond.classLink RX6 11 RX2 ∈ ct_UW := ct_w2 47 (by decide +kernel) rfl
theorem mv_69 : Cond.instantiable RX2 3 ∈ ct_UW := ct_w2 48 (by decide +kernel) rfl
theorem mv_70 : Cond.initialized RX2 ∈ ct_UW := ct_w1 12 (by decide +kernel) rfl
theorem mv_71 : Cond.instanceMethod yX2_init ∈ ct_UW := ct_w2 50 (by decide +kernel) rfl
theorem mv_72 : Cond.code yX2_init cX2_init 1 none ∈ ct_UW := ct_w2 51 (by decide +kernel) rfl
theorem mv_73 : Cond.fieldLink RX6 14 "CellTransactions$Schedules" "points" "LCellTransactions$KeySet;" ∈ ct_UW := ct_w2 71 (by decide +kernel) rfl
theorem mv_74 : Cond.fieldLink RX6 18 "CellTransactions$Schedules" "outcomes" "LCellTransactions$KeySet;" ∈ ct_UW := ct_w2 72 (by decide +kernel) rfl
theorem mv_75 : Cond.classLink RX6 21 RX10 ∈ ct_UW := ct_w2 68 (by decide +kernel) rfl
theorem mv_76 : Cond.methodLink RX6 23 yX10_init ∈ ct_UW := ct_w2 69 (by decide +kernel) rfl
theorem mv_77 : Cond.fieldLink RX6 26 "CellTransactions$Schedules" "world" "LCellTransactions$World;" ∈ ct_UW := ct_w2 70 (by decide +kernel) rfl
theorem ki_X4_9 : ct_kI RX4 9 yX0_init cX0_init 1 0 := ⟨Or.inl (by simp [ct_nest, RX11]), mv_9, mv_8, mv_10, rfl, ⟨by decide +kernel, by decide +kernel, by decide +kernel⟩⟩
theorem ki_X9_11 : ct_kI RX9 11 yX0_init cX0_init 1 0 := ⟨Or.inl (by simp [ct_nest, RX11]), mv_9, mv_8, mv_10, rfl, ⟨by decide +kernel, by decide +kernel, by decide +kernel⟩⟩
theorem ki_X9_31 : ct_kI RX9 31 yX4_init cX4_init 1 0 := ⟨Or.inl (by simp [ct_nest, RX11]), mv_21, mv_20, mv_22, rfl, ⟨by decide +kernel, by decide +kernel, by decide +kernel⟩⟩
theorem ki_X10_33 : ct_kI RX10 33 yX9_init cX9_init 3 1 := ⟨Or.inr mv_33, mv_34, mv_32, mv_35, rfl, ⟨by decide +kernel, by decide +kernel, by decide +kernel⟩⟩
theorem ki_X8_17 : ct_kI RX8 17 yX7_init cX7_init 1 0 := ⟨Or.inl (by simp [ct_nest, RX11]), mv_56, mv_55, mv_57, rfl, ⟨by decide +kernel, by decide +kernel, by decide +kernel⟩⟩
theorem ki_X1_17 : ct_kI RX1 17 yX10_init cX10_init 3 1 := ⟨Or.inr mv_64, mv_65, mv_63, mv_66, rfl, ⟨by decide +kernel, by decide +kernel, by decide +kernel⟩⟩
theorem ki_X6_13 : ct_kI RX6 13 yX2_init cX2_init 1 0 := ⟨Or.inl (by simp [ct_nest, RX11]), mv_71, mv_70, mv_72, rfl, ⟨by decide +kernel, by decide +kernel, by decide +kernel⟩⟩
theorem ki_X6_23 : ct_kI RX6 23 yX10_init cX10_init 3 1 := ⟨Or.inr mv_76, mv_65, mv_63, mv_66, rfl, ⟨by decide +kernel, by decide +kernel, by decide +kernel⟩⟩
theorem cq_l0_1 {a : Nat} (h : ct_K 0 a) : ct_ln (a + 1) = 6 := by
  have h1 := ct_all (fun a => !(ct_kd a == 0) || ct_ln (a + 1) == 6) (by decide +kernel) h.1
  simp only [h.2, beq_self_eq_true, Bool.not_true, Bool.false_or, beq_iff_eq] at h1
  exact h1
theorem cq_l1_1 {a : Nat} (h : ct_K 1 a) : ct_ln (a + 1) = 14 := by
  have h1 := ct_all (fun a => !(ct_kd a == 1) || ct_ln (a + 1) == 14) (by decide +kernel) h.1
  simp only [h.2, beq_self_eq_true, Bool.not_true, Bool.false_or, beq_iff_eq] at h1
  exact h1
theorem cq_l2_1 {a : Nat} (h : ct_K 2 a) : ct_ln (a + 1) = 1359 := by
  have h1 := ct_all (fun a => !(ct_kd a == 2) || ct_ln (a + 1) == 1359) (by decide +kernel) h.1
  simp only [h.2, beq_self_eq_true, Bool.not_true, Bool.false_or, beq_iff_eq] at h1
  exact h1
theorem cq_l2_2 {a : Nat} (h : ct_K 2 a) : ct_ln (a + 2) = 2048 := by
  have h1 := ct_all (fun a => !(ct_kd a == 2) || ct_ln (a + 2) == 2048) (by decide +kernel) h.1
  simp only [h.2, beq_self_eq_true, Bool.not_true, Bool.false_or, beq_iff_eq] at h1
  exact h1
theorem cq_l3_1 {a : Nat} (h : ct_K 3 a) : ct_ln (a + 1) = 4 := by
  have h1 := ct_all (fun a => !(ct_kd a == 3) || ct_ln (a + 1) == 4) (by decide +kernel) h.1
  simp only [h.2, beq_self_eq_true, Bool.not_true, Bool.false_or, beq_iff_eq] at h1
  exact h1
theorem cq_l3_2 {a : Nat} (h : ct_K 3 a) : ct_ln (a + 2) = 4 := by
  have h1 := ct_all (fun a => !(ct_kd a == 3) || ct_ln (a + 2) == 4) (by decide +kernel) h.1
  simp only [h.2, beq_self_eq_true, Bool.not_true, Bool.false_or, beq_iff_eq] at h1
  exact h1
theorem cq_l5_1 {a : Nat} (h : ct_K 5 a) : ct_ln (a + 1) = 60 := by
  have h1 := ct_all (fun a => !(ct_kd a == 5) || ct_ln (a + 1) == 60) (by decide +kernel) h.1
  simp only [h.2, beq_self_eq_true, Bool.not_true, Bool.false_or, beq_iff_eq] at h1
  exact h1
theorem cq_l5_2 {a : Nat} (h : ct_K 5 a) : ct_ln (a + 2) = 60 := by
  have h1 := ct_all (fun a => !(ct_kd a == 5) || ct_ln (a + 2) == 60) (by decide +kernel) h.1
  simp only [h.2, beq_self_eq_true, Bool.not_true, Bool.false_or, beq_iff_eq] at h1
  exact h1
theorem cq_l5_3 {a : Nat} (h : ct_K 5 a) : ct_ln (a + 3) = 60 := by
  have h1 := ct_all (fun a => !(ct_kd a == 5) || ct_ln (a + 3) == 60) (by decide +kernel) h.1
  simp only [h.2, beq_self_eq_true, Bool.not_true, Bool.false_or, beq_iff_eq] at h1
  exact h1
theorem cq_l5_4 {a : Nat} (h : ct_K 5 a) : ct_ln (a + 4) = 3 := by
  have h1 := ct_all (fun a => !(ct_kd a == 5) || ct_ln (a + 4) == 3) (by decide +kernel) h.1
  simp only [h.2, beq_self_eq_true, Bool.not_true, Bool.false_or, beq_iff_eq] at h1
  exact h1
theorem cq_l7_1 {a : Nat} (h : ct_K 7 a) : ct_ln (a + 1) = 3 := by
  have h1 := ct_all (fun a => !(ct_kd a == 7) || ct_ln (a + 1) == 3) (by decide +kernel) h.1
  simp only [h.2, beq_self_eq_true, Bool.not_true, Bool.false_or, beq_iff_eq] at h1
  exact h1
theorem cq_l8_1 {a : Nat} (h : ct_K 8 a) : ct_ln (a + 1) = 60 := by
  have h1 := ct_all (fun a => !(ct_kd a == 8) || ct_ln (a + 1) == 60) (by decide +kernel) h.1
  simp only [h.2, beq_self_eq_true, Bool.not_true, Bool.false_or, beq_iff_eq] at h1
  exact h1
theorem cq_l9_5 {a : Nat} (h : ct_K 9 a) : ct_ln (a + 5) = 3 := by
  have h1 := ct_all (fun a => !(ct_kd a == 9) || ct_ln (a + 5) == 3) (by decide +kernel) h.1
  simp only [h.2, beq_self_eq_true, Bool.not_true, Bool.false_or, beq_iff_eq] at h1
  exact h1
theorem cq_l10_1 {a : Nat} (h : ct_K 10 a) : ct_ln (a + 1) = 6 := by
  have h1 := ct_all (fun a => !(ct_kd a == 10) || ct_ln (a + 1) == 6) (by decide +kernel) h.1
  simp only [h.2, beq_self_eq_true, Bool.not_true, Bool.false_or, beq_iff_eq] at h1
  exact h1
theorem cq_l10_2 {a : Nat} (h : ct_K 10 a) : ct_ln (a + 2) = 6 := by
  have h1 := ct_all (fun a => !(ct_kd a == 10) || ct_ln (a + 2) == 6) (by decide +kernel) h.1
  simp only [h.2, beq_self_eq_true, Bool.not_true, Bool.false_or, beq_iff_eq] at h1
  exact h1
theorem cq_l10_3 {a : Nat} (h : ct_K 10 a) : ct_ln (a + 3) = 3 := by
  have h1 := ct_all (fun a => !(ct_kd a == 10) || ct_ln (a + 3) == 3) (by decide +kernel) h.1
  simp only [h.2, beq_self_eq_true, Bool.not_true, Bool.false_or, beq_iff_eq] at h1
  exact h1
theorem cq_l10_4 {a : Nat} (h : ct_K 10 a) : ct_ln (a + 4) = 4 := by
  have h1 := ct_all (fun a => !(ct_kd a == 10) || ct_ln (a + 4) == 4) (by decide +kernel) h.1
  simp only [h.2, beq_self_eq_true, Bool.not_true, Bool.false_or, beq_iff_eq] at h1
  exact h1
theorem cq_l10_5 {a : Nat} (h : ct_K 10 a) : ct_ln (a + 5) = 4 := by
  have h1 := ct_all (fun a => !(ct_kd a == 10) || ct_ln (a + 5) == 4) (by decide +kernel) h.1
  simp only [h.2, beq_self_eq_true, Bool.not_true, Bool.false_or, beq_iff_eq] at h1
  exact h1
theorem cq_l10_6 {a : Nat} (h : ct_K 10 a) : ct_ln (a + 6) = 4 := by
  have h1 := ct_all (fun a => !(ct_kd a == 10) || ct_ln (a + 6) == 4) (by decide +kernel) h.1
  simp only [h.2, beq_self_eq_true, Bool.not_true, Bool.false_or, beq_iff_eq] at h1
  exact h1
theorem cq_l11_5 {a : Nat} (h : ct_K 11 a) : ct_ln (a + 5) = 3 := by
  have h1 := ct_all (fun a => !(ct_kd a == 11) || ct_ln (a + 5) == 3) (by decide +kernel) h.1
  simp only [h.2, beq_self_eq_true, Bool.not_true, Bool.false_or, beq_iff_eq] at h1
  exact h1
theorem cq_l11_6 {a : Nat} (h : ct_K 11 a) : ct_ln (a + 6) = 2 := by
  have h1 := ct_all (fun a => !(ct_kd a == 11) || ct_ln (a + 6) == 2) (by decide +kernel) h.1
  simp only [h.2, beq_self_eq_true, Bool.not_true, Bool.false_or, beq_iff_eq] at h1
  exact h1
theorem cq_l11_7 {a : Nat} (h : ct_K 11 a) : ct_ln (a + 7) = 2 := by
  have h1 := ct_all (fun a => !(ct_kd a == 11) || ct_ln (a + 7) == 2) (by decide +kernel) h.1
  simp only [h.2, beq_self_eq_true, Bool.not_true, Bool.false_or, beq_iff_eq] at h1
  exact h1
theorem cq_l12_1 {a : Nat} (h : ct_K 12 a) : ct_ln (a + 1) = 60 := by
  have h1 := ct_all (fun a => !(ct_kd a == 12) || ct_ln (a + 1) == 60) (by decide +kernel) h.1
  simp only [h.2, beq_self_eq_true, Bool.not_true, Bool.false_or, beq_iff_eq] at h1
  exact h1
theorem cq_l12_2 {a : Nat} (h : ct_K 12 a) : ct_ln (a + 2) = 3 := by
  have h1 := ct_all (fun a => !(ct_kd a == 12) || ct_ln (a + 2) == 3) (by decide +kernel) h.1
  simp only [h.2, beq_self_eq_true, Bool.not_true, Bool.false_or, beq_iff_eq] at h1
  exact h1
theorem cq_l12_3 {a : Nat} (h : ct_K 12 a) : ct_ln (a + 3) = 180 := by
  have h1 := ct_all (fun a => !(ct_kd a == 12) || ct_ln (a + 3) == 180) (by decide +kernel) h.1
  simp only [h.2, beq_self_eq_true, Bool.not_true, Bool.false_or, beq_iff_eq] at h1
  exact h1
theorem cq_l12_4 {a : Nat} (h : ct_K 12 a) : ct_ln (a + 4) = 180 := by
  have h1 := ct_all (fun a => !(ct_kd a == 12) || ct_ln (a + 4) == 180) (by decide +kernel) h.1
  simp only [h.2, beq_self_eq_true, Bool.not_true, Bool.false_or, beq_iff_eq] at h1
  exact h1
theorem cq_l12_5 {a : Nat} (h : ct_K 12 a) : ct_ln (a + 5) = 180 := by
  have h1 := ct_all (fun a => !(ct_kd a == 12) || ct_ln (a + 5) == 180) (by decide +kernel) h.1
  simp only [h.2, beq_self_eq_true, Bool.not_true, Bool.false_or, beq_iff_eq] at h1
  exact h1
theorem cq_l12_6 {a : Nat} (h : ct_K 12 a) : ct_ln (a + 6) = 180 := by
  have h1 := ct_all (fun a => !(ct_kd a == 12) || ct_ln (a + 6) == 180) (by decide +kernel) h.1
  simp only [h.2, beq_self_eq_true, Bool.not_true, Bool.false_or, beq_iff_eq] at h1
  exact h1
theorem cq_l12_7 {a : Nat} (h : ct_K 12 a) : ct_ln (a + 7) = 172 := by
  have h1 := ct_all (fun a => !(ct_kd a == 12) || ct_ln (a + 7) == 172) (by decide +kernel) h.1
  simp only [h.2, beq_self_eq_true, Bool.not_true, Bool.false_or, beq_iff_eq] at h1
  exact h1
theorem cq_l12_8 {a : Nat} (h : ct_K 12 a) : ct_ln (a + 8) = 172 := by
  have h1 := ct_all (fun a => !(ct_kd a == 12) || ct_ln (a + 8) == 172) (by decide +kernel) h.1
  simp only [h.2, beq_self_eq_true, Bool.not_true, Bool.false_or, beq_iff_eq] at h1
  exact h1
theorem cq_l12_9 {a : Nat} (h : ct_K 12 a) : ct_ln (a + 9) = 2408 := by
  have h1 := ct_all (fun a => !(ct_kd a == 12) || ct_ln (a + 9) == 2408) (by decide +kernel) h.1
  simp only [h.2, beq_self_eq_true, Bool.not_true, Bool.false_or, beq_iff_eq] at h1
  exact h1
theorem cq_l12_10 {a : Nat} (h : ct_K 12 a) : ct_ln (a + 10) = 344 := by
  have h1 := ct_all (fun a => !(ct_kd a == 12) || ct_ln (a + 10) == 344) (by decide +kernel) h.1
  simp only [h.2, beq_self_eq_true, Bool.not_true, Bool.false_or, beq_iff_eq] at h1
  exact h1
theorem cq_l12_11 {a : Nat} (h : ct_K 12 a) : ct_ln (a + 11) = 2 := by
  have h1 := ct_all (fun a => !(ct_kd a == 12) || ct_ln (a + 11) == 2) (by decide +kernel) h.1
  simp only [h.2, beq_self_eq_true, Bool.not_true, Bool.false_or, beq_iff_eq] at h1
  exact h1
theorem cq_l12_12 {a : Nat} (h : ct_K 12 a) : ct_ln (a + 12) = 4 := by
  have h1 := ct_all (fun a => !(ct_kd a == 12) || ct_ln (a + 12) == 4) (by decide +kernel) h.1
  simp only [h.2, beq_self_eq_true, Bool.not_true, Bool.false_or, beq_iff_eq] at h1
  exact h1
theorem cq_l12_13 {a : Nat} (h : ct_K 12 a) : ct_ln (a + 13) = 4 := by
  have h1 := ct_all (fun a => !(ct_kd a == 12) || ct_ln (a + 13) == 4) (by decide +kernel) h.1
  simp only [h.2, beq_self_eq_true, Bool.not_true, Bool.false_or, beq_iff_eq] at h1
  exact h1
theorem cq_l12_14 {a : Nat} (h : ct_K 12 a) : ct_ln (a + 14) = 6 := by
  have h1 := ct_all (fun a => !(ct_kd a == 12) || ct_ln (a + 14) == 6) (by decide +kernel) h.1
  simp only [h.2, beq_self_eq_true, Bool.not_true, Bool.false_or, beq_iff_eq] at h1
  exact h1
theorem cq_l12_15 {a : Nat} (h : ct_K 12 a) : ct_ln (a + 15) = 3 := by
  have h1 := ct_all (fun a => !(ct_kd a == 12) || ct_ln (a + 15) == 3) (by decide +kernel) h.1
  simp only [h.2, beq_self_eq_true, Bool.not_true, Bool.false_or, beq_iff_eq] at h1
  exact h1
theorem cq_l12_16 {a : Nat} (h : ct_K 12 a) : ct_ln (a + 16) = 3 := by
  have h1 := ct_all (fun a => !(ct_kd a == 12) || ct_ln (a + 16) == 3) (by decide +kernel) h.1
  simp only [h.2, beq_self_eq_true, Bool.not_true, Bool.false_or, beq_iff_eq] at h1
  exact h1
theorem cq_l12_17 {a : Nat} (h : ct_K 12 a) : ct_ln (a + 17) = 180 := by
  have h1 := ct_all (fun a => !(ct_kd a == 12) || ct_ln (a + 17) == 180) (by decide +kernel) h.1
  simp only [h.2, beq_self_eq_true, Bool.not_true, Bool.false_or, beq_iff_eq] at h1
  exact h1
theorem cq_l12_18 {a : Nat} (h : ct_K 12 a) : ct_ln (a + 18) = 180 := by
  have h1 := ct_all (fun a => !(ct_kd a == 12) || ct_ln (a + 18) == 180) (by decide +kernel) h.1
  simp only [h.2, beq_self_eq_true, Bool.not_true, Bool.false_or, beq_iff_eq] at h1
  exact h1
theorem cq_l12_19 {a : Nat} (h : ct_K 12 a) : ct_ln (a + 19) = 180 := by
  have h1 := ct_all (fun a => !(ct_kd a == 12) || ct_ln (a + 19) == 180) (by decide +kernel) h.1
  simp only [h.2, beq_self_eq_true, Bool.not_true, Bool.false_or, beq_iff_eq] at h1
  exact h1
theorem cq_l12_20 {a : Nat} (h : ct_K 12 a) : ct_ln (a + 20) = 180 := by
  have h1 := ct_all (fun a => !(ct_kd a == 12) || ct_ln (a + 20) == 180) (by decide +kernel) h.1
  simp only [h.2, beq_self_eq_true, Bool.not_true, Bool.false_or, beq_iff_eq] at h1
  exact h1
theorem cq_l12_21 {a : Nat} (h : ct_K 12 a) : ct_ln (a + 21) = 3 := by
  have h1 := ct_all (fun a => !(ct_kd a == 12) || ct_ln (a + 21) == 3) (by decide +kernel) h.1
  simp only [h.2, beq_self_eq_true, Bool.not_true, Bool.false_or, beq_iff_eq] at h1
  exact h1
theorem cq_l12_22 {a : Nat} (h : ct_K 12 a) : ct_ln (a + 22) = 4096 := by
  have h1 := ct_all (fun a => !(ct_kd a == 12) || ct_ln (a + 22) == 4096) (by decide +kernel) h.1
  simp only [h.2, beq_self_eq_true, Bool.not_true, Bool.false_or, beq_iff_eq] at h1
  exact h1
theorem cq_l12_23 {a : Nat} (h : ct_K 12 a) : ct_ln (a + 23) = 4096 := by
  have h1 := ct_all (fun a => !(ct_kd a == 12) || ct_ln (a + 23) == 4096) (by decide +kernel) h.1
  simp only [h.2, beq_self_eq_true, Bool.not_true, Bool.false_or, beq_iff_eq] at h1
  exact h1
theorem cq_pg {a t : Nat} (h : ct_K 10 a) (ht : t < 3) : ct_pg (a + 7 + 15 * t) = 11 + 5 * t := by
  have h1 := ct_all (fun a => !(ct_kd a == 10) || (List.range 3).all (fun t => ct_pg (a + 7 + 15 * t) == 11 + 5 * t)) (by decide +kernel) h.1
  simp only [h.2, beq_self_eq_true, Bool.not_true, Bool.false_or] at h1
  have h2 := List.all_eq_true.mp h1 t (List.mem_range.mpr ht)
  simpa using h2
abbrev rq_X0_init : Room := { frames := 1, cells := 1, slots := 6, locals := 12 }
set_option maxHeartbeats 4000000 in
set_option maxRecDepth 100000 in
theorem c_X0_init (l : Launch) (D : va_G) (cy : Nat → ClassId) (o a : Nat) (ka : ct_K 0 a) (f : Nat → va_E) (hfa : f a = .inr (0, [.int 0, .null])) : Met l yX0_init (ct_ws yX0_init cX0_init 1 none) rq_X0_init (va_Pc [.ref (o + a)] (cq_P D cy o (a + 1) f)) (cq_Q D cy o a 2 f) 1 6 (fun q => o + a ≤ q) := by
  refine cq_met l D cy o a f (by decide) rfl (Nat.le_of_ble_eq_true rfl) (fun p e s mth args below meth c C hr hlk hin hlo => ?_)
  refine cq_sub [0] [(0, .ref (o + a))] rfl ?_
  refine cq_w (fun H locs ls hl hh => lv_aload_n C.1 C.2.1 dX0_init_0 rfl (lv_at hl 0 rfl) hh) ?_
  refine cq_obj C mv_0 mv_1 mv_2 dX0_init_1 (Nat.le_of_ble_eq_true rfl) (Nat.le_of_ble_eq_true rfl) ?_
  refine cq_conv (va_up (cq_fin cy o a f) a (.inr (0, [.int 0, .null]))) (fun k hk => by
      by_cases h1 : k = a
      · rw [h1, va_up_self]; exact hfa
      · rw [va_up_ne _ _ h1]; exact (if_pos (by omega)).symm) ?_
  refine cq_w (fun H locs ls hl hh => lv_aload_n C.1 C.2.1 dX0_init_4 rfl (lv_at hl 0 rfl) hh) ?_
  refine cq_w (fun H locs ls hl hh => lv_bipush (v := (6 : Int32)) C.1 C.2.1 dX0_init_5 (by decide) hh) ?_
  refine cq_rowI C dX0_init_7 6 (6, .inl (fun _ => 0)) 1 14 .int (cq_ab_up (by omega) (cq_ab_fin (by omega))) (by rw [ct_E14 (ct_t0_1 ka), cq_l0_1 ka]; rfl) rfl (fun C h => by cases h) mv_3 rfl (fun _ => rfl) (by decide) (by decide) (Nat.le_of_ble_eq_true rfl) (Nat.le_of_ble_eq_true rfl) (Nat.le_of_ble_eq_true rfl) hlo ?_
  refine cq_putF (ci := 0) C dX0_init_9 [.int 0, .null] tyX0 tyX0_ok nmX0 (by omega) (by omega) (by simp [va_up] <;> omega) rfl ct_inX0 (k := 1) (by decide) rfl rfl rfl hin rfl mv_4 (by rfl) (by rfl) (Nat.le_of_ble_eq_true rfl) ?_
  refine cq_conv (va_up (cq_fin cy o a f) a (.inr (0, [.int 0, .ref (o + (a + 1))]))) (fun k _ => by simp only [va_up]; (repeat' split) <;> first | rfl | (exfalso; omega)) ?_
  exact cq_vret C hr hlk dX0_init_12 rfl (fun k hk => by
    by_cases h1 : k = a
    · rw [h1, va_up_self]; unfold cq_fin; rw [if_neg (by omega), ct_E0 ka] <;> rfl
    · rw [va_up_ne _ _ h1])
abbrev rq_X4_init : Room := { frames := 2, cells := 2, slots := 8, locals := 32 }
set_option maxHeartbeats 4000000 in
set_option maxRecDepth 100000 in
theorem c_X4_init (l : Launch) (D : va_G) (cy : Nat → ClassId) (o a : Nat) (ka : ct_K 4 a) (f : Nat → va_E) (hfa : f a = .inr (4, [.int 0, .int 0, .int 0, .int 0, .null])) : Met l yX4_init (ct_ws yX4_init cX4_init 1 none) rq_X4_init (va_Pc [.ref (o + a)] (cq_P D cy o (a + 1) f)) (cq_Q D cy o a 3 f) 2 8 (fun q => o + a ≤ q) := by
  refine cq_met l D cy o a f (by decide) rfl (Nat.le_of_ble_eq_true rfl) (fun p e s mth args below meth c C hr hlk hin hlo => ?_)
  refine cq_sub [0] [(0, .ref (o + a))] rfl ?_
  refine cq_w (fun H locs ls hl hh => lv_aload_n C.1 C.2.1 dX4_init_0 rfl (lv_at hl 0 rfl) hh) ?_
  refine cq_obj C mv_5 mv_1 mv_2 dX4_init_1 (Nat.le_of_ble_eq_true rfl) (Nat.le_of_ble_eq_true rfl) ?_
  refine cq_conv (va_up (cq_fin cy o a f) a (.inr (4, [.int 0, .int 0, .int 0, .int 0, .null]))) (fun k hk => by
      by_cases h1 : k = a
      · rw [h1, va_up_self]; exact hfa
      · rw [va_up_ne _ _ h1]; exact (if_pos (by omega)).symm) ?_
  refine cq_w (fun H locs ls hl hh => lv_aload_n C.1 C.2.1 dX4_init_4 rfl (lv_at hl 0 rfl) hh) ?_
  refine cq_new (ci := 0) C dX4_init_5 [.int 0, .null] tyX0 tyX0_ok ct_inX0 mv_6 mv_7 mv_8 rfl (by decide +kernel) hlo (Nat.le_of_ble_eq_true rfl) (Nat.le_of_ble_eq_true rfl) ?_
  refine cq_w (fun H locs ls hl hh => lv_dup C.1 C.2.1 dX4_init_8 rfl hh) ?_
  have kb6 : ct_K 0 (a + 1) := (ct_t4_4 ka)
  refine cq_call (b := a + 1) (sz := 2) (mc := 1) (ms := 6) (As := []) (rmg := rq_X0_init) C (c_X0_init l D cy o (a + 1) kb6 _ (va_up_self _ _ _)) dX4_init_9 ki_X4_9 (by omega) rfl rfl (Nat.le_of_ble_eq_true rfl) ⟨rfl, rfl, Nat.le_of_ble_eq_true rfl, Nat.le_of_ble_eq_true rfl⟩ ⟨Nat.le_of_ble_eq_true rfl, Nat.le_of_ble_eq_true rfl⟩ ?_
  refine cq_conv (va_up (cq_fin cy o a f) a (.inr (4, [.int 0, .int 0, .int 0, .int 0, .null]))) (fun k _ => cq_back (cq_ab_up (by omega) (cq_ab_fin (by omega))) k) ?_
  refine cq_num (N' := a + 3) (kc' := 2) (ks' := 8) rfl rfl rfl ?_
  refine cq_putF (ci := 4) C dX4_init_12 [.int 0, .int 0, .int 0, .int 0, .null] tyX4 tyX4_ok nmX4 (by omega) (by omega) (by simp [va_up] <;> omega) rfl ct_inX4 (k := 4) (by decide) rfl rfl rfl hin rfl mv_11 (by rfl) (by rfl) (Nat.le_of_ble_eq_true rfl) ?_
  refine cq_conv (va_up (cq_fin cy o a f) a (.inr (4, [.int 0, .int 0, .int 0, .int 0, .ref (o + (a + 1))]))) (fun k _ => by simp only [va_up]; (repeat' split) <;> first | rfl | (exfalso; omega)) ?_
  exact cq_vret C hr hlk dX4_init_15 rfl (fun k hk => by
    by_cases h1 : k = a
    · rw [h1, va_up_self]; unfold cq_fin; rw [if_neg (by omega), ct_E4 ka] <;> rfl
    · rw [va_up_ne _ _ h1])
abbrev rq_X9_init : Room := { frames := 3, cells := 14, slots := 58, locals := 52 }
set_option maxHeartbeats 4000000 in
set_option maxRecDepth 100000 in
theorem c_X9_init (l : Launch) (D : va_G) (cy : Nat → ClassId) (o a : Nat) (ka : ct_K 9 a) (f : Nat → va_E) (hfa : f a = .inr (9, [.null, .int 0, .int 0, .int 0, .int 0, .int 0, .null, .null, .null, .int 0])) : Met l yX9_init (ct_ws yX9_init cX9_init 3 none) rq_X9_init (va_Pc [.ref (o + a), .ref (o + ct_pg a)] (cq_P D cy o (a + 1) f)) (cq_Q D cy o a 15 f) 14 58 (fun q => o + a ≤ q) := by
  refine cq_met l D cy o a f (by decide) rfl (Nat.le_of_ble_eq_true rfl) (fun p e s mth args below meth c C hr hlk hin hlo => ?_)
  refine cq_sub [0, 1] [(0, .ref (o + a)), (1, .ref (o + ct_pg a))] rfl ?_
  refine cq_w (fun H locs ls hl hh => lv_aload_n C.1 C.2.1 dX9_init_0 rfl (lv_at hl 0 rfl) hh) ?_
  refine cq_obj C mv_12 mv_1 mv_2 dX9_init_1 (Nat.le_of_ble_eq_true rfl) (Nat.le_of_ble_eq_true rfl) ?_
  refine cq_conv (va_up (cq_fin cy o a f) a (.inr (9, [.null, .int 0, .int 0, .int 0, .int 0, .int 0, .null, .null, .null, .int 0]))) (fun k hk => by
      by_cases h1 : k = a
      · rw [h1, va_up_self]; exact hfa
      · rw [va_up_ne _ _ h1]; exact (if_pos (by omega)).symm) ?_
  refine cq_w (fun H locs ls hl hh => lv_aload_n C.1 C.2.1 dX9_init_4 rfl (lv_at hl 0 rfl) hh) ?_
  refine cq_new (ci := 0) C dX9_init_5 [.int 0, .null] tyX0 tyX0_ok ct_inX0 mv_13 mv_7 mv_8 rfl (by decide +kernel) hlo (Nat.le_of_ble_eq_true rfl) (Nat.le_of_ble_eq_true rfl) ?_
  refine cq_w (fun H locs ls hl hh => lv_dup C.1 C.2.1 dX9_init_8 rfl hh) ?_
  have kb6 : ct_K 0 (a + 1) := (ct_t9_6 ka)
  refine cq_call (b := a + 1) (sz := 2) (mc := 1) (ms := 6) (As := []) (rmg := rq_X0_init) C (c_X0_init l D cy o (a + 1) kb6 _ (va_up_self _ _ _)) dX9_init_9 ki_X9_11 (by omega) rfl rfl (Nat.le_of_ble_eq_true rfl) ⟨rfl, rfl, Nat.le_of_ble_eq_true rfl, Nat.le_of_ble_eq_true rfl⟩ ⟨Nat.le_of_ble_eq_true rfl, Nat.le_of_ble_eq_true rfl⟩ ?_
  refine cq_conv (va_up (cq_fin cy o a f) a (.inr (9, [.null, .int 0, .int 0, .int 0, .int 0, .int 0, .null, .null, .null, .int 0]))) (fun k _ => cq_back (cq_ab_up (by omega) (cq_ab_fin (by omega))) k) ?_
  refine cq_num (N' := a + 3) (kc' := 2) (ks' := 8) rfl rfl rfl ?_
  refine cq_putF (ci := 9) C dX9_init_12 [.null, .int 0, .int 0, .int 0, .int 0, .int 0, .null, .null, .null, .int 0] tyX9 tyX9_ok nmX9 (by omega) (by omega) (by simp [va_up] <;> omega) rfl ct_inX9 (k := 6) (by decide) rfl rfl rfl hin rfl mv_14 (by rfl) (by rfl) (Nat.le_of_ble_eq_true rfl) ?_
  refine cq_conv (va_up (cq_fin cy o a f) a (.inr (9, [.null, .int 0, .int 0, .int 0, .int 0, .int 0, .ref (o + (a + 1)), .null, .null, .int 0]))) (fun k _ => by simp only [va_up]; (repeat' split) <;> first | rfl | (exfalso; omega)) ?_
  refine cq_w (fun H locs ls hl hh => lv_aload_n C.1 C.2.1 dX9_init_15 rfl (lv_at hl 0 rfl) hh) ?_
  refine cq_new (ci := 0) C dX9_init_16 [.int 0, .null] tyX0 tyX0_ok ct_inX0 mv_13 mv_7 mv_8 rfl (by decide +kernel) hlo (Nat.le_of_ble_eq_true rfl) (Nat.le_of_ble_eq_true rfl) ?_
  refine cq_w (fun H locs ls hl hh => lv_dup C.1 C.2.1 dX9_init_19 rfl hh) ?_
  have kb15 : ct_K 0 (a + 3) := (ct_t9_7 ka)
  refine cq_call (b := a + 3) (sz := 2) (mc := 1) (ms := 6) (As := []) (rmg := rq_X0_init) C (c_X0_init l D cy o (a + 3) kb15 _ (va_up_self _ _ _)) dX9_init_20 ki_X9_11 (by omega) rfl rfl (Nat.le_of_ble_eq_true rfl) ⟨rfl, rfl, Nat.le_of_ble_eq_true rfl, Nat.le_of_ble_eq_true rfl⟩ ⟨Nat.le_of_ble_eq_true rfl, Nat.le_of_ble_eq_true rfl⟩ ?_
  refine cq_conv (va_up (cq_fin cy o a f) a (.inr (9, [.null, .int 0, .int 0, .int 0, .int 0, .int 0, .ref (o + (a + 1)), .null, .null, .int 0]))) (fun k _ => cq_back (cq_ab_up (by omega) (cq_ab_fin (by omega))) k) ?_
  refine cq_num (N' := a + 5) (kc' := 4) (ks' := 16) rfl rfl rfl ?_
  refine cq_putF (ci := 9) C dX9_init_23 [.null, .int 0, .int 0, .int 0, .int 0, .int 0, .ref (o + (a + 1)), .null, .null, .int 0] tyX9 tyX9_ok nmX9 (by omega) (by omega) (by simp [va_up] <;> omega) rfl ct_inX9 (k := 7) (by decide) rfl rfl rfl hin rfl mv_15 (by rfl) (by rfl) (Nat.le_of_ble_eq_true rfl) ?_
  refine cq_conv (va_up (cq_fin cy o a f) a (.inr (9, [.null, .int 0, .int 0, .int 0, .int 0, .int 0, .ref (o + (a + 1)), .ref (o + (a + 3)), .null, .int 0]))) (fun k _ => by simp only [va_up]; (repeat' split) <;> first | rfl | (exfalso; omega)) ?_
  refine cq_w (fun H locs ls hl hh => lv_aload_n C.1 C.2.1 dX9_init_26 rfl (lv_at hl 0 rfl) hh) ?_
  refine cq_w (fun H locs ls hl hh => lv_iconst (v := (3 : Int32)) C.1 C.2.1 dX9_init_27 (by decide) hh) ?_
  refine cq_newq C dX9_init_28 3 4 17 mv_16 C.2.2.2.2.2.2.2.1 rfl (by decide) (by decide) (Nat.le_of_ble_eq_true rfl) (Nat.le_of_ble_eq_true rfl) (Nat.le_of_ble_eq_true rfl) hlo ?_
  rw [cq_g0 (fun i => some (o + ((a + 5) + 1 + 3 * i)))]
  refine cq_putF (ci := 9) C dX9_init_31 [.null, .int 0, .int 0, .int 0, .int 0, .int 0, .ref (o + (a + 1)), .ref (o + (a + 3)), .null, .int 0] tyX9 tyX9_ok nmX9 (by omega) (by omega) (by simp [va_up] <;> omega) rfl ct_inX9 (k := 8) (by decide) rfl rfl rfl hin rfl mv_17 (by rfl) (by rfl) (Nat.le_of_ble_eq_true rfl) ?_
  refine cq_conv (va_up (va_up (cq_fin cy o a f) a (.inr (9, [.null, .int 0, .int 0, .int 0, .int 0, .int 0, .ref (o + (a + 1)), .ref (o + (a + 3)), .ref (o + (a + 5)), .int 0]))) (a + 5) (.inl (cy 17, 3, .inr (.inr (.inr (.inr (cq_g 0 (fun i => some (o + ((a + 5) + 1 + 3 * i)))))))))) (fun k _ => by simp only [va_up]; (repeat' split) <;> first | rfl | (exfalso; omega)) ?_
  refine cq_w (fun H locs ls hl hh => lv_aload_n C.1 C.2.1 dX9_init_34 rfl (lv_at hl 0 rfl) hh) ?_
  refine cq_w (fun H locs ls hl hh => lv_aload_n C.1 C.2.1 dX9_init_35 rfl (lv_at hl 1 rfl) hh) ?_
  refine cq_putF (ci := 9) C dX9_init_36 [.null, .int 0, .int 0, .int 0, .int 0, .int 0, .ref (o + (a + 1)), .ref (o + (a + 3)), .ref (o + (a + 5)), .int 0] tyX9 tyX9_ok nmX9 (by omega) (by omega) (by simp [va_up] <;> omega) rfl ct_inX9 (k := 0) (by decide) rfl rfl rfl hin rfl mv_18 (by rfl) (by rfl) (Nat.le_of_ble_eq_true rfl) ?_
  refine cq_conv (va_up (va_up (cq_fin cy o a f) a (.inr (9, [.ref (o + ct_pg a), .int 0, .int 0, .int 0, .int 0, .int 0, .ref (o + (a + 1)), .ref (o + (a + 3)), .ref (o + (a + 5)), .int 0]))) (a + 5) (.inl (cy 17, 3, .inr (.inr (.inr (.inr (cq_g 0 (fun i => some (o + ((a + 5) + 1 + 3 * i)))))))))) (fun k _ => by simp only [va_up]; (repeat' split) <;> first | rfl | (exfalso; omega)) ?_
  refine cq_w (fun H locs ls hl hh => lv_iconst (v := (0 : Int32)) C.1 C.2.1 dX9_init_39 (by decide) hh) ?_
  refine cq_store (lv' := [(2, .int (0 : Int32)), (0, .ref (o + a)), (1, .ref (o + ct_pg a))]) (fun H locs ls hl hh => lv_istore_n C.1 C.2.1 dX9_init_40 rfl hl (by decide) rfl hh) ?_
  refine cq_w (fun H locs ls hl hh => lv_iload_n C.1 C.2.1 dX9_init_41 rfl (lv_at hl 0 rfl) hh) ?_
  refine cq_w (fun H locs ls hl hh => lv_iconst (v := (3 : Int32)) C.1 C.2.1 dX9_init_42 (by decide) hh) ?_
  refine cq_w (fun H locs ls hl hh => lv_icmp_ge (tgt := 65) C.1 C.2.1 dX9_init_43 (by decide) (fun hc => absurd hc (by decide)) (fun _ => hh)) ?_
  refine cq_w (fun H locs ls hl hh => lv_aload_n C.1 C.2.1 dX9_init_46 rfl (lv_at hl 1 rfl) hh) ?_
  refine cq_get1 (ci := 9) C dX9_init_47 [.ref (o + ct_pg a), .int 0, .int 0, .int 0, .int 0, .int 0, .ref (o + (a + 1)), .ref (o + (a + 3)), .ref (o + (a + 5)), .int 0] (by omega) (by simp [va_up] <;> omega) rfl ct_inX9 (k := 8) (by decide) rfl mv_17 rfl ?_
  refine cq_w (fun H locs ls hl hh => lv_iload_n C.1 C.2.1 dX9_init_50 rfl (lv_at hl 0 rfl) hh) ?_
  refine cq_new (ci := 4) C dX9_init_51 [.int 0, .int 0, .int 0, .int 0, .null] tyX4 tyX4_ok ct_inX4 mv_16 mv_19 mv_20 rfl (by decide +kernel) hlo (Nat.le_of_ble_eq_true rfl) (Nat.le_of_ble_eq_true rfl) ?_
  refine cq_w (fun H locs ls hl hh => lv_dup C.1 C.2.1 dX9_init_54 rfl hh) ?_
  have kb41 : ct_K 4 (a + 6) := by
      have h1 := ct_e17 (i := 0) (ct_t9_8 ka) (by rw [cq_l9_5 ka]; decide)
      exact h1
  refine cq_call (b := a + 6) (sz := 3) (mc := 2) (ms := 8) (As := []) (rmg := rq_X4_init) C (c_X4_init l D cy o (a + 6) kb41 _ (va_up_self _ _ _)) dX9_init_55 ki_X9_31 (by omega) rfl rfl (Nat.le_of_ble_eq_true rfl) ⟨rfl, rfl, Nat.le_of_ble_eq_true rfl, Nat.le_of_ble_eq_true rfl⟩ ⟨Nat.le_of_ble_eq_true rfl, Nat.le_of_ble_eq_true rfl⟩ ?_
  refine cq_conv (va_up (va_up (cq_fin cy o a f) a (.inr (9, [.ref (o + ct_pg a), .int 0, .int 0, .int 0, .int 0, .int 0, .ref (o + (a + 1)), .ref (o + (a + 3)), .ref (o + (a + 5)), .int 0]))) (a + 5) (.inl (cy 17, 3, .inr (.inr (.inr (.inr (cq_g 0 (fun i => some (o + ((a + 5) + 1 + 3 * i)))))))))) (fun k _ => cq_back (cq_ab_up (by omega) (cq_ab_up (by omega) (cq_ab_fin (by omega)))) k) ?_
  refine cq_num (N' := a + 9) (kc' := 8) (ks' := 32) rfl rfl rfl ?_
  have hb45 : ct_K 4 (a + 6) := by
      have h1 := ct_e17 (i := 0) (ct_t9_8 ka) (by rw [cq_l9_5 ka]; decide)
      exact h1
  refine cq_aast (t0 := 4) (r := (RX4, TX4, 5)) (b := a + 6) C dX9_init_58 (cq_g 0 (fun i => some (o + ((a + 5) + 1 + 3 * i)))) (by omega) (by omega) (by rw [va_up_self]) rfl (by omega) (by rw [va_up_ne _ _ (by omega), va_up_ne _ _ (by omega)]; unfold cq_fin; rw [if_neg (by omega)]; exact ct_E4 hb45) rfl (by unfold vp_in; decide) ?_
  have hg47 : va_up (cq_g 0 (fun i => some (o + ((a + 5) + 1 + 3 * i)))) (0 : Int32).toNatClampNeg (some (o + (a + 6))) = cq_g 1 (fun i => some (o + ((a + 5) + 1 + 3 * i))) := by
      have h2 : (fun i => some (o + ((a + 5) + 1 + 3 * i))) 0 = some (o + (a + 6)) := by rfl
      rw [← h2]; exact cq_g1 0 _
  rw [hg47]
  refine cq_conv (va_up (va_up (cq_fin cy o a f) a (.inr (9, [.ref (o + ct_pg a), .int 0, .int 0, .int 0, .int 0, .int 0, .ref (o + (a + 1)), .ref (o + (a + 3)), .ref (o + (a + 5)), .int 0]))) (a + 5) (.inl (cy 17, 3, .inr (.inr (.inr (.inr (cq_g 1 (fun i => some (o + ((a + 5) + 1 + 3 * i)))))))))) (fun k _ => by simp only [va_up]; (repeat' split) <;> first | rfl | (exfalso; omega)) ?_
  refine cq_store (lv' := [(2, .int (1 : Int32)), (0, .ref (o + a)), (1, .ref (o + ct_pg a))]) (fun H locs ls hl hh => lv_iinc (k := 0) (v := (1 : Int32)) C.1 C.2.1 dX9_init_59 hl rfl (by decide) (by decide) rfl hh) ?_
  refine cq_w (fun H locs ls hl hh => lv_goto (tgt := 41) C.1 C.2.1 dX9_init_62 (by decide) hh) ?_
  refine cq_w (fun H locs ls hl hh => lv_iload_n C.1 C.2.1 dX9_init_41 rfl (lv_at hl 0 rfl) hh) ?_
  refine cq_w (fun H locs ls hl hh => lv_iconst (v := (3 : Int32)) C.1 C.2.1 dX9_init_42 (by decide) hh) ?_
  refine cq_w (fun H locs ls hl hh => lv_icmp_ge (tgt := 65) C.1 C.2.1 dX9_init_43 (by decide) (fun hc => absurd hc (by decide)) (fun _ => hh)) ?_
  refine cq_w (fun H locs ls hl hh => lv_aload_n C.1 C.2.1 dX9_init_46 rfl (lv_at hl 1 rfl) hh) ?_
  refine cq_get1 (ci := 9) C dX9_init_47 [.ref (o + ct_pg a), .int 0, .int 0, .int 0, .int 0, .int 0, .ref (o + (a + 1)), .ref (o + (a + 3)), .ref (o + (a + 5)), .int 0] (by omega) (by simp [va_up] <;> omega) rfl ct_inX9 (k := 8) (by decide) rfl mv_17 rfl ?_
  refine cq_w (fun H locs ls hl hh => lv_iload_n C.1 C.2.1 dX9_init_50 rfl (lv_at hl 0 rfl) hh) ?_
  refine cq_new (ci := 4) C dX9_init_51 [.int 0, .int 0, .int 0, .int 0, .null] tyX4 tyX4_ok ct_inX4 mv_16 mv_19 mv_20 rfl (by decide +kernel) hlo (Nat.le_of_ble_eq_true rfl) (Nat.le_of_ble_eq_true rfl) ?_
  refine cq_w (fun H locs ls hl hh => lv_dup C.1 C.2.1 dX9_init_54 rfl hh) ?_
  have kb60 : ct_K 4 (a + 9) := by
      have h1 := ct_e17 (i := 1) (ct_t9_8 ka) (by rw [cq_l9_5 ka]; decide)
      exact h1
  refine cq_call (b := a + 9) (sz := 3) (mc := 2) (ms := 8) (As := []) (rmg := rq_X4_init) C (c_X4_init l D cy o (a + 9) kb60 _ (va_up_self _ _ _)) dX9_init_55 ki_X9_31 (by omega) rfl rfl (Nat.le_of_ble_eq_true rfl) ⟨rfl, rfl, Nat.le_of_ble_eq_true rfl, Nat.le_of_ble_eq_true rfl⟩ ⟨Nat.le_of_ble_eq_true rfl, Nat.le_of_ble_eq_true rfl⟩ ?_
  refine cq_conv (va_up (va_up (cq_fin cy o a f) a (.inr (9, [.ref (o + ct_pg a), .int 0, .int 0, .int 0, .int 0, .int 0, .ref (o + (a + 1)), .ref (o + (a + 3)), .ref (o + (a + 5)), .int 0]))) (a + 5) (.inl (cy 17, 3, .inr (.inr (.inr (.inr (cq_g 1 (fun i => some (o + ((a + 5) + 1 + 3 * i)))))))))) (fun k _ => cq_back (cq_ab_up (by omega) (cq_ab_up (by omega) (cq_ab_fin (by omega)))) k) ?_
  refine cq_num (N' := a + 12) (kc' := 11) (ks' := 45) rfl rfl rfl ?_
  have hb64 : ct_K 4 (a + 9) := by
      have h1 := ct_e17 (i := 1) (ct_t9_8 ka) (by rw [cq_l9_5 ka]; decide)
      exact h1
  refine cq_aast (t0 := 4) (r := (RX4, TX4, 5)) (b := a + 9) C dX9_init_58 (cq_g 1 (fun i => some (o + ((a + 5) + 1 + 3 * i)))) (by omega) (by omega) (by rw [va_up_self]) rfl (by omega) (by rw [va_up_ne _ _ (by omega), va_up_ne _ _ (by omega)]; unfold cq_fin; rw [if_neg (by omega)]; exact ct_E4 hb64) rfl (by unfold vp_in; decide) ?_
  have hg66 : va_up (cq_g 1 (fun i => some (o + ((a + 5) + 1 + 3 * i)))) (1 : Int32).toNatClampNeg (some (o + (a + 9))) = cq_g 2 (fun i => some (o + ((a + 5) + 1 + 3 * i))) := by
      have h2 : (fun i => some (o + ((a + 5) + 1 + 3 * i))) 1 = some (o + (a + 9)) := by rfl
      rw [← h2]; exact cq_g1 1 _
  rw [hg66]
  refine cq_conv (va_up (va_up (cq_fin cy o a f) a (.inr (9, [.ref (o + ct_pg a), .int 0, .int 0, .int 0, .int 0, .int 0, .ref (o + (a + 1)), .ref (o + (a + 3)), .ref (o + (a + 5)), .int 0]))) (a + 5) (.inl (cy 17, 3, .inr (.inr (.inr (.inr (cq_g 2 (fun i => some (o + ((a + 5) + 1 + 3 * i)))))))))) (fun k _ => by simp only [va_up]; (repeat' split) <;> first | rfl | (exfalso; omega)) ?_
  refine cq_store (lv' := [(2, .int (2 : Int32)), (0, .ref (o + a)), (1, .ref (o + ct_pg a))]) (fun H locs ls hl hh => lv_iinc (k := 0) (v := (2 : Int32)) C.1 C.2.1 dX9_init_59 hl rfl (by decide) (by decide) rfl hh) ?_
  refine cq_w (fun H locs ls hl hh => lv_goto (tgt := 41) C.1 C.2.1 dX9_init_62 (by decide) hh) ?_
  refine cq_w (fun H locs ls hl hh => lv_iload_n C.1 C.2.1 dX9_init_41 rfl (lv_at hl 0 rfl) hh) ?_
  refine cq_w (fun H locs ls hl hh => lv_iconst (v := (3 : Int32)) C.1 C.2.1 dX9_init_42 (by decide) hh) ?_
  refine cq_w (fun H locs ls hl hh => lv_icmp_ge (tgt := 65) C.1 C.2.1 dX9_init_43 (by decide) (fun hc => absurd hc (by decide)) (fun _ => hh)) ?_
  refine cq_w (fun H locs ls hl hh => lv_aload_n C.1 C.2.1 dX9_init_46 rfl (lv_at hl 1 rfl) hh) ?_
  refine cq_get1 (ci := 9) C dX9_init_47 [.ref (o + ct_pg a), .int 0, .int 0, .int 0, .int 0, .int 0, .ref (o + (a + 1)), .ref (o + (a + 3)), .ref (o + (a + 5)), .int 0] (by omega) (by simp [va_up] <;> omega) rfl ct_inX9 (k := 8) (by decide) rfl mv_17 rfl ?_
  refine cq_w (fun H locs ls hl hh => lv_iload_n C.1 C.2.1 dX9_init_50 rfl (lv_at hl 0 rfl) hh) ?_
  refine cq_new (ci := 4) C dX9_init_51 [.int 0, .int 0, .int 0, .int 0, .null] tyX4 tyX4_ok ct_inX4 mv_16 mv_19 mv_20 rfl (by decide +kernel) hlo (Nat.le_of_ble_eq_true rfl) (Nat.le_of_ble_eq_true rfl) ?_
  refine cq_w (fun H locs ls hl hh => lv_dup C.1 C.2.1 dX9_init_54 rfl hh) ?_
  have kb79 : ct_K 4 (a + 12) := by
      have h1 := ct_e17 (i := 2) (ct_t9_8 ka) (by rw [cq_l9_5 ka]; decide)
      exact h1
  refine cq_call (b := a + 12) (sz := 3) (mc := 2) (ms := 8) (As := []) (rmg := rq_X4_init) C (c_X4_init l D cy o (a + 12) kb79 _ (va_up_self _ _ _)) dX9_init_55 ki_X9_31 (by omega) rfl rfl (Nat.le_of_ble_eq_true rfl) ⟨rfl, rfl, Nat.le_of_ble_eq_true rfl, Nat.le_of_ble_eq_true rfl⟩ ⟨Nat.le_of_ble_eq_true rfl, Nat.le_of_ble_eq_true rfl⟩ ?_
  refine cq_conv (va_up (va_up (cq_fin cy o a f) a (.inr (9, [.ref (o + ct_pg a), .int 0, .int 0, .int 0, .int 0, .int 0, .ref (o + (a + 1)), .ref (o + (a + 3)), .ref (o + (a + 5)), .int 0]))) (a + 5) (.inl (cy 17, 3, .inr (.inr (.inr (.inr (cq_g 2 (fun i => some (o + ((a + 5) + 1 + 3 * i)))))))))) (fun k _ => cq_back (cq_ab_up (by omega) (cq_ab_up (by omega) (cq_ab_fin (by omega)))) k) ?_
  refine cq_num (N' := a + 15) (kc' := 14) (ks' := 58) rfl rfl rfl ?_
  have hb83 : ct_K 4 (a + 12) := by
      have h1 := ct_e17 (i := 2) (ct_t9_8 ka) (by rw [cq_l9_5 ka]; decide)
      exact h1
  refine cq_aast (t0 := 4) (r := (RX4, TX4, 5)) (b := a + 12) C dX9_init_58 (cq_g 2 (fun i => some (o + ((a + 5) + 1 + 3 * i)))) (by omega) (by omega) (by rw [va_up_self]) rfl (by omega) (by rw [va_up_ne _ _ (by omega), va_up_ne _ _ (by omega)]; unfold cq_fin; rw [if_neg (by omega)]; exact ct_E4 hb83) rfl (by unfold vp_in; decide) ?_
  have hg85 : va_up (cq_g 2 (fun i => some (o + ((a + 5) + 1 + 3 * i)))) (2 : Int32).toNatClampNeg (some (o + (a + 12))) = cq_g 3 (fun i => some (o + ((a + 5) + 1 + 3 * i))) := by
      have h2 : (fun i => some (o + ((a + 5) + 1 + 3 * i))) 2 = some (o + (a + 12)) := by rfl
      rw [← h2]; exact cq_g1 2 _
  rw [hg85]
  refine cq_conv (va_up (va_up (cq_fin cy o a f) a (.inr (9, [.ref (o + ct_pg a), .int 0, .int 0, .int 0, .int 0, .int 0, .ref (o + (a + 1)), .ref (o + (a + 3)), .ref (o + (a + 5)), .int 0]))) (a + 5) (.inl (cy 17, 3, .inr (.inr (.inr (.inr (cq_g 3 (fun i => some (o + ((a + 5) + 1 + 3 * i)))))))))) (fun k _ => by simp only [va_up]; (repeat' split) <;> first | rfl | (exfalso; omega)) ?_
  refine cq_store (lv' := [(2, .int (3 : Int32)), (0, .ref (o + a)), (1, .ref (o + ct_pg a))]) (fun H locs ls hl hh => lv_iinc (k := 0) (v := (3 : Int32)) C.1 C.2.1 dX9_init_59 hl rfl (by decide) (by decide) rfl hh) ?_
  refine cq_w (fun H locs ls hl hh => lv_goto (tgt := 41) C.1 C.2.1 dX9_init_62 (by decide) hh) ?_
  refine cq_w (fun H locs ls hl hh => lv_iload_n C.1 C.2.1 dX9_init_41 rfl (lv_at hl 0 rfl) hh) ?_
  refine cq_w (fun H locs ls hl hh => lv_iconst (v := (3 : Int32)) C.1 C.2.1 dX9_init_42 (by decide) hh) ?_
  refine cq_w (fun H locs ls hl hh => lv_icmp_ge (tgt := 65) C.1 C.2.1 dX9_init_43 (by decide) (fun _ => hh) (fun hc => absurd (by decide) hc)) ?_
  refine cq_convA (fun i => some (o + ((a + 5) + 1 + 3 * i))) (fun i hi => cq_gn _ hi) ?_
  exact cq_vret C hr hlk dX9_init_65 rfl (fun k hk => by
    by_cases h2 : k = a + 5
    · rw [h2, va_up_self]; unfold cq_fin; rw [if_neg (by omega), ct_E17 (ct_t9_8 ka), cq_l9_5 ka]
    · rw [va_up_ne _ _ h2]
      by_cases h1 : k = a
      · rw [h1, va_up_self]; unfold cq_fin; rw [if_neg (by omega), ct_E9 ka] <;> rfl
      · rw [va_up_ne _ _ h1])
abbrev rq_X10_init : Room := { frames := 4, cells := 51, slots := 231, locals := 74 }
set_option maxHeartbeats 4000000 in
set_option maxRecDepth 100000 in
theorem c_X10_init (l : Launch) (D : va_G) (cy : Nat → ClassId) (o a : Nat) (ka : ct_K 10 a) (f : Nat → va_E) (hfa : f a = .inr (10, [.null, .null, .null, .int 0, .null, .null, .null, .int 0])) (h5 : f 5 = .inl (cy 18, 3, .inr (.inr (.inr (.inr (fun i => some (o + (5 + 6 + 5 * i)))))))) (h5a : 5 < a) : Met l yX10_init (ct_ws yX10_init cX10_init 3 none) rq_X10_init (va_Pc [.ref (o + a), .ref (o + 5)] (cq_P D cy o (a + 1) f)) (cq_Q D cy o a 52 f) 51 231 (fun q => o + a ≤ q) := by
  refine cq_met l D cy o a f (by decide) rfl (Nat.le_of_ble_eq_true rfl) (fun p e s mth args below meth c C hr hlk hin hlo => ?_)
  refine cq_sub [0, 1] [(0, .ref (o + a)), (1, .ref (o + 5))] rfl ?_
  refine cq_w (fun H locs ls hl hh => lv_aload_n C.1 C.2.1 dX10_init_0 rfl (lv_at hl 0 rfl) hh) ?_
  refine cq_obj C mv_23 mv_1 mv_2 dX10_init_1 (Nat.le_of_ble_eq_true rfl) (Nat.le_of_ble_eq_true rfl) ?_
  refine cq_conv (va_up (cq_fin cy o a f) a (.inr (10, [.null, .null, .null, .int 0, .null, .null, .null, .int 0]))) (fun k hk => by
      by_cases h1 : k = a
      · rw [h1, va_up_self]; exact hfa
      · rw [va_up_ne _ _ h1]; exact (if_pos (by omega)).symm) ?_
  refine cq_w (fun H locs ls hl hh => lv_aload_n C.1 C.2.1 dX10_init_4 rfl (lv_at hl 0 rfl) hh) ?_
  refine cq_w (fun H locs ls hl hh => lv_bipush (v := (6 : Int32)) C.1 C.2.1 dX10_init_5 (by decide) hh) ?_
  refine cq_rowI C dX10_init_7 6 (6, .inl (fun _ => 0)) 1 14 .int (cq_ab_up (by omega) (cq_ab_fin (by omega))) (by rw [ct_E14 (ct_t10_0 ka), cq_l10_1 ka]; rfl) rfl (fun C h => by cases h) mv_3 rfl (fun _ => rfl) (by decide) (by decide) (Nat.le_of_ble_eq_true rfl) (Nat.le_of_ble_eq_true rfl) (Nat.le_of_ble_eq_true rfl) hlo ?_
  refine cq_putF (ci := 10) C dX10_init_9 [.null, .null, .null, .int 0, .null, .null, .null, .int 0] tyX10 tyX10_ok nmX10 (by omega) (by omega) (by simp [va_up] <;> omega) rfl ct_inX10 (k := 0) (by decide) rfl rfl rfl hin rfl mv_24 (by rfl) (by rfl) (Nat.le_of_ble_eq_true rfl) ?_
  refine cq_conv (va_up (cq_fin cy o a f) a (.inr (10, [.ref (o + (a + 1)), .null, .null, .int 0, .null, .null, .null, .int 0]))) (fun k _ => by simp only [va_up]; (repeat' split) <;> first | rfl | (exfalso; omega)) ?_
  refine cq_w (fun H locs ls hl hh => lv_aload_n C.1 C.2.1 dX10_init_12 rfl (lv_at hl 0 rfl) hh) ?_
  refine cq_w (fun H locs ls hl hh => lv_bipush (v := (6 : Int32)) C.1 C.2.1 dX10_init_13 (by decide) hh) ?_
  refine cq_rowI C dX10_init_15 6 (6, .inl (fun _ => 0)) 1 14 .int (cq_ab_up (by omega) (cq_ab_fin (by omega))) (by rw [ct_E14 (ct_t10_1 ka), cq_l10_2 ka]; rfl) rfl (fun C h => by cases h) mv_3 rfl (fun _ => rfl) (by decide) (by decide) (Nat.le_of_ble_eq_true rfl) (Nat.le_of_ble_eq_true rfl) (Nat.le_of_ble_eq_true rfl) hlo ?_
  refine cq_putF (ci := 10) C dX10_init_17 [.ref (o + (a + 1)), .null, .null, .int 0, .null, .null, .null, .int 0] tyX10 tyX10_ok nmX10 (by omega) (by omega) (by simp [va_up] <;> omega) rfl ct_inX10 (k := 1) (by decide) rfl rfl rfl hin rfl mv_25 (by rfl) (by rfl) (Nat.le_of_ble_eq_true rfl) ?_
  refine cq_conv (va_up (cq_fin cy o a f) a (.inr (10, [.ref (o + (a + 1)), .ref (o + (a + 2)), .null, .int 0, .null, .null, .null, .int 0]))) (fun k _ => by simp only [va_up]; (repeat' split) <;> first | rfl | (exfalso; omega)) ?_
  refine cq_w (fun H locs ls hl hh => lv_aload_n C.1 C.2.1 dX10_init_20 rfl (lv_at hl 0 rfl) hh) ?_
  refine cq_w (fun H locs ls hl hh => lv_iconst (v := (3 : Int32)) C.1 C.2.1 dX10_init_21 (by decide) hh) ?_
  refine cq_newq C dX10_init_22 3 6 19 mv_26 C.2.2.2.2.2.2.2.2.2.1 rfl (by decide) (by decide) (Nat.le_of_ble_eq_true rfl) (Nat.le_of_ble_eq_true rfl) (Nat.le_of_ble_eq_true rfl) hlo ?_
  rw [cq_g0 (fun i => some (o + ((a + 3) + 4 + 15 * i)))]
  refine cq_putF (ci := 10) C dX10_init_25 [.ref (o + (a + 1)), .ref (o + (a + 2)), .null, .int 0, .null, .null, .null, .int 0] tyX10 tyX10_ok nmX10 (by omega) (by omega) (by simp [va_up] <;> omega) rfl ct_inX10 (k := 2) (by decide) rfl rfl rfl hin rfl mv_27 (by rfl) (by rfl) (Nat.le_of_ble_eq_true rfl) ?_
  refine cq_conv (va_up (va_up (cq_fin cy o a f) a (.inr (10, [.ref (o + (a + 1)), .ref (o + (a + 2)), .ref (o + (a + 3)), .int 0, .null, .null, .null, .int 0]))) (a + 3) (.inl (cy 19, 3, .inr (.inr (.inr (.inr (cq_g 0 (fun i => some (o + ((a + 3) + 4 + 15 * i)))))))))) (fun k _ => by simp only [va_up]; (repeat' split) <;> first | rfl | (exfalso; omega)) ?_
  refine cq_w (fun H locs ls hl hh => lv_aload_n C.1 C.2.1 dX10_init_28 rfl (lv_at hl 0 rfl) hh) ?_
  refine cq_w (fun H locs ls hl hh => lv_iconst (v := (4 : Int32)) C.1 C.2.1 dX10_init_29 (by decide) hh) ?_
  refine cq_rowI C dX10_init_30 4 (4, .inl (fun _ => 0)) 1 14 .int (cq_ab_up (by omega) (cq_ab_up (by omega) (cq_ab_fin (by omega)))) (by rw [ct_E14 (ct_t10_4 ka), cq_l10_4 ka]; rfl) rfl (fun C h => by cases h) mv_3 rfl (fun _ => rfl) (by decide) (by decide) (Nat.le_of_ble_eq_true rfl) (Nat.le_of_ble_eq_true rfl) (Nat.le_of_ble_eq_true rfl) hlo ?_
  refine cq_putF (ci := 10) C dX10_init_32 [.ref (o + (a + 1)), .ref (o + (a + 2)), .ref (o + (a + 3)), .int 0, .null, .null, .null, .int 0] tyX10 tyX10_ok nmX10 (by omega) (by omega) (by simp [va_up] <;> omega) rfl ct_inX10 (k := 4) (by decide) rfl rfl rfl hin rfl mv_28 (by rfl) (by rfl) (Nat.le_of_ble_eq_true rfl) ?_
  refine cq_conv (va_up (va_up (cq_fin cy o a f) a (.inr (10, [.ref (o + (a + 1)), .ref (o + (a + 2)), .ref (o + (a + 3)), .int 0, .ref (o + (a + 4)), .null, .null, .int 0]))) (a + 3) (.inl (cy 19, 3, .inr (.inr (.inr (.inr (cq_g 0 (fun i => some (o + ((a + 3) + 4 + 15 * i)))))))))) (fun k _ => by simp only [va_up]; (repeat' split) <;> first | rfl | (exfalso; omega)) ?_
  refine cq_w (fun H locs ls hl hh => lv_aload_n C.1 C.2.1 dX10_init_35 rfl (lv_at hl 0 rfl) hh) ?_
  refine cq_w (fun H locs ls hl hh => lv_iconst (v := (4 : Int32)) C.1 C.2.1 dX10_init_36 (by decide) hh) ?_
  refine cq_rowI C dX10_init_37 4 (4, .inl (fun _ => 0)) 1 14 .int (cq_ab_up (by omega) (cq_ab_up (by omega) (cq_ab_fin (by omega)))) (by rw [ct_E14 (ct_t10_5 ka), cq_l10_5 ka]; rfl) rfl (fun C h => by cases h) mv_3 rfl (fun _ => rfl) (by decide) (by decide) (Nat.le_of_ble_eq_true rfl) (Nat.le_of_ble_eq_true rfl) (Nat.le_of_ble_eq_true rfl) hlo ?_
  refine cq_putF (ci := 10) C dX10_init_39 [.ref (o + (a + 1)), .ref (o + (a + 2)), .ref (o + (a + 3)), .int 0, .ref (o + (a + 4)), .null, .null, .int 0] tyX10 tyX10_ok nmX10 (by omega) (by omega) (by simp [va_up] <;> omega) rfl ct_inX10 (k := 5) (by decide) rfl rfl rfl hin rfl mv_29 (by rfl) (by rfl) (Nat.le_of_ble_eq_true rfl) ?_
  refine cq_conv (va_up (va_up (cq_fin cy o a f) a (.inr (10, [.ref (o + (a + 1)), .ref (o + (a + 2)), .ref (o + (a + 3)), .int 0, .ref (o + (a + 4)), .ref (o + (a + 5)), .null, .int 0]))) (a + 3) (.inl (cy 19, 3, .inr (.inr (.inr (.inr (cq_g 0 (fun i => some (o + ((a + 3) + 4 + 15 * i)))))))))) (fun k _ => by simp only [va_up]; (repeat' split) <;> first | rfl | (exfalso; omega)) ?_
  refine cq_w (fun H locs ls hl hh => lv_aload_n C.1 C.2.1 dX10_init_42 rfl (lv_at hl 0 rfl) hh) ?_
  refine cq_w (fun H locs ls hl hh => lv_iconst (v := (4 : Int32)) C.1 C.2.1 dX10_init_43 (by decide) hh) ?_
  refine cq_rowI C dX10_init_44 4 (4, .inl (fun _ => 0)) 1 14 .int (cq_ab_up (by omega) (cq_ab_up (by omega) (cq_ab_fin (by omega)))) (by rw [ct_E14 (ct_t10_6 ka), cq_l10_6 ka]; rfl) rfl (fun C h => by cases h) mv_3 rfl (fun _ => rfl) (by decide) (by decide) (Nat.le_of_ble_eq_true rfl) (Nat.le_of_ble_eq_true rfl) (Nat.le_of_ble_eq_true rfl) hlo ?_
  refine cq_putF (ci := 10) C dX10_init_46 [.ref (o + (a + 1)), .ref (o + (a + 2)), .ref (o + (a + 3)), .int 0, .ref (o + (a + 4)), .ref (o + (a + 5)), .null, .int 0] tyX10 tyX10_ok nmX10 (by omega) (by omega) (by simp [va_up] <;> omega) rfl ct_inX10 (k := 6) (by decide) rfl rfl rfl hin rfl mv_30 (by rfl) (by rfl) (Nat.le_of_ble_eq_true rfl) ?_
  refine cq_conv (va_up (va_up (cq_fin cy o a f) a (.inr (10, [.ref (o + (a + 1)), .ref (o + (a + 2)), .ref (o + (a + 3)), .int 0, .ref (o + (a + 4)), .ref (o + (a + 5)), .ref (o + (a + 6)), .int 0]))) (a + 3) (.inl (cy 19, 3, .inr (.inr (.inr (.inr (cq_g 0 (fun i => some (o + ((a + 3) + 4 + 15 * i)))))))))) (fun k _ => by simp only [va_up]; (repeat' split) <;> first | rfl | (exfalso; omega)) ?_
  refine cq_w (fun H locs ls hl hh => lv_iconst (v := (0 : Int32)) C.1 C.2.1 dX10_init_49 (by decide) hh) ?_
  refine cq_store (lv' := [(2, .int (0 : Int32)), (0, .ref (o + a)), (1, .ref (o + 5))]) (fun H locs ls hl hh => lv_istore_n C.1 C.2.1 dX10_init_50 rfl hl (by decide) rfl hh) ?_
  refine cq_w (fun H locs ls hl hh => lv_iload_n C.1 C.2.1 dX10_init_51 rfl (lv_at hl 0 rfl) hh) ?_
  refine cq_w (fun H locs ls hl hh => lv_iconst (v := (3 : Int32)) C.1 C.2.1 dX10_init_52 (by decide) hh) ?_
  refine cq_w (fun H locs ls hl hh => lv_icmp_ge (tgt := 84) C.1 C.2.1 dX10_init_53 (by decide) (fun hc => absurd hc (by decide)) (fun _ => hh)) ?_
  refine cq_w (fun H locs ls hl hh => lv_iload_n C.1 C.2.1 dX10_init_56 rfl (lv_at hl 0 rfl) hh) ?_
  refine cq_w (fun H locs ls hl hh => lv_aload_n C.1 C.2.1 dX10_init_57 rfl (lv_at hl 2 rfl) hh) ?_
  refine cq_alen (t0 := 5) (v := (3 : Int32)) C dX10_init_58 (by omega) (by rw [va_up_ne _ _ (by omega), va_up_ne _ _ (by omega)]; unfold cq_fin; rw [if_pos (by omega)]; exact h5) rfl rfl ?_
  refine cq_w (fun H locs ls hl hh => lv_icmp_ge (tgt := 84) C.1 C.2.1 dX10_init_59 (by decide) (fun hc => absurd hc (by decide)) (fun _ => hh)) ?_
  refine cq_w (fun H locs ls hl hh => lv_aload_n C.1 C.2.1 dX10_init_62 rfl (lv_at hl 1 rfl) hh) ?_
  refine cq_get1 (ci := 10) C dX10_init_63 [.ref (o + (a + 1)), .ref (o + (a + 2)), .ref (o + (a + 3)), .int 0, .ref (o + (a + 4)), .ref (o + (a + 5)), .ref (o + (a + 6)), .int 0] (by omega) (by simp [va_up] <;> omega) rfl ct_inX10 (k := 2) (by decide) rfl mv_27 rfl ?_
  refine cq_w (fun H locs ls hl hh => lv_iload_n C.1 C.2.1 dX10_init_66 rfl (lv_at hl 0 rfl) hh) ?_
  refine cq_new (ci := 9) C dX10_init_67 [.null, .int 0, .int 0, .int 0, .int 0, .int 0, .null, .null, .null, .int 0] tyX9 tyX9_ok ct_inX9 mv_26 mv_31 mv_32 rfl (by decide +kernel) hlo (Nat.le_of_ble_eq_true rfl) (Nat.le_of_ble_eq_true rfl) ?_
  refine cq_w (fun H locs ls hl hh => lv_dup C.1 C.2.1 dX10_init_70 rfl hh) ?_
  refine cq_w (fun H locs ls hl hh => lv_aload_n C.1 C.2.1 dX10_init_71 rfl (lv_at hl 2 rfl) hh) ?_
  refine cq_w (fun H locs ls hl hh => lv_iload_n C.1 C.2.1 dX10_init_72 rfl (lv_at hl 0 rfl) hh) ?_
  refine cq_aald (t0 := 5) (v := o + (5 + 6 + 5 * 0)) C dX10_init_73 (by omega) (by rw [va_up_ne _ _ (by omega), va_up_ne _ _ (by omega), va_up_ne _ _ (by omega)]; unfold cq_fin; rw [if_pos (by omega)]; exact h5) rfl (by unfold vp_in; decide) rfl ?_
  have kb51 : ct_K 9 (a + 7) := by
      have h1 := ct_e19 (i := 0) (ct_t10_2 ka) (by rw [cq_l10_3 ka]; decide)
      exact h1
  have hp0 : ct_pg (a + 7) = 5 + 6 + 5 * 0 := cq_pg (t := 0) ka (by decide)
  rw [← hp0]
  refine cq_call (b := a + 7) (sz := 15) (mc := 14) (ms := 58) (As := [.ref (o + ct_pg (a + 7))]) (rmg := rq_X9_init) C (c_X9_init l D cy o (a + 7) kb51 _ (va_up_self _ _ _)) dX10_init_74 ki_X10_33 (by omega) rfl rfl (Nat.le_of_ble_eq_true rfl) ⟨rfl, rfl, Nat.le_of_ble_eq_true rfl, Nat.le_of_ble_eq_true rfl⟩ ⟨Nat.le_of_ble_eq_true rfl, Nat.le_of_ble_eq_true rfl⟩ ?_
  refine cq_conv (va_up (va_up (cq_fin cy o a f) a (.inr (10, [.ref (o + (a + 1)), .ref (o + (a + 2)), .ref (o + (a + 3)), .int 0, .ref (o + (a + 4)), .ref (o + (a + 5)), .ref (o + (a + 6)), .int 0]))) (a + 3) (.inl (cy 19, 3, .inr (.inr (.inr (.inr (cq_g 0 (fun i => some (o + ((a + 3) + 4 + 15 * i)))))))))) (fun k _ => cq_back (cq_ab_up (by omega) (cq_ab_up (by omega) (cq_ab_fin (by omega)))) k) ?_
  refine cq_num (N' := a + 22) (kc' := 21) (ks' := 95) rfl rfl rfl ?_
  have hb57 : ct_K 9 (a + 7) := by
      have h1 := ct_e19 (i := 0) (ct_t10_2 ka) (by rw [cq_l10_3 ka]; decide)
      exact h1
  refine cq_aast (t0 := 6) (r := (RX9, TX9, 10)) (b := a + 7) C dX10_init_77 (cq_g 0 (fun i => some (o + ((a + 3) + 4 + 15 * i)))) (by omega) (by omega) (by rw [va_up_self]) rfl (by omega) (by rw [va_up_ne _ _ (by omega), va_up_ne _ _ (by omega)]; unfold cq_fin; rw [if_neg (by omega)]; exact ct_E9 hb57) rfl (by unfold vp_in; decide) ?_
  have hg59 : va_up (cq_g 0 (fun i => some (o + ((a + 3) + 4 + 15 * i)))) (0 : Int32).toNatClampNeg (some (o + (a + 7))) = cq_g 1 (fun i => some (o + ((a + 3) + 4 + 15 * i))) := by
      have h2 : (fun i => some (o + ((a + 3) + 4 + 15 * i))) 0 = some (o + (a + 7)) := by rfl
      rw [← h2]; exact cq_g1 0 _
  rw [hg59]
  refine cq_conv (va_up (va_up (cq_fin cy o a f) a (.inr (10, [.ref (o + (a + 1)), .ref (o + (a + 2)), .ref (o + (a + 3)), .int 0, .ref (o + (a + 4)), .ref (o + (a + 5)), .ref (o + (a + 6)), .int 0]))) (a + 3) (.inl (cy 19, 3, .inr (.inr (.inr (.inr (cq_g 1 (fun i => some (o + ((a + 3) + 4 + 15 * i)))))))))) (fun k _ => by simp only [va_up]; (repeat' split) <;> first | rfl | (exfalso; omega)) ?_
  refine cq_store (lv' := [(2, .int (1 : Int32)), (0, .ref (o + a)), (1, .ref (o + 5))]) (fun H locs ls hl hh => lv_iinc (k := 0) (v := (1 : Int32)) C.1 C.2.1 dX10_init_78 hl rfl (by decide) (by decide) rfl hh) ?_
  refine cq_w (fun H locs ls hl hh => lv_goto (tgt := 51) C.1 C.2.1 dX10_init_81 (by decide) hh) ?_
  refine cq_w (fun H locs ls hl hh => lv_iload_n C.1 C.2.1 dX10_init_51 rfl (lv_at hl 0 rfl) hh) ?_
  refine cq_w (fun H locs ls hl hh => lv_iconst (v := (3 : Int32)) C.1 C.2.1 dX10_init_52 (by decide) hh) ?_
  refine cq_w (fun H locs ls hl hh => lv_icmp_ge (tgt := 84) C.1 C.2.1 dX10_init_53 (by decide) (fun hc => absurd hc (by decide)) (fun _ => hh)) ?_
  refine cq_w (fun H locs ls hl hh => lv_iload_n C.1 C.2.1 dX10_init_56 rfl (lv_at hl 0 rfl) hh) ?_
  refine cq_w (fun H locs ls hl hh => lv_aload_n C.1 C.2.1 dX10_init_57 rfl (lv_at hl 2 rfl) hh) ?_
  refine cq_alen (t0 := 5) (v := (3 : Int32)) C dX10_init_58 (by omega) (by rw [va_up_ne _ _ (by omega), va_up_ne _ _ (by omega)]; unfold cq_fin; rw [if_pos (by omega)]; exact h5) rfl rfl ?_
  refine cq_w (fun H locs ls hl hh => lv_icmp_ge (tgt := 84) C.1 C.2.1 dX10_init_59 (by decide) (fun hc => absurd hc (by decide)) (fun _ => hh)) ?_
  refine cq_w (fun H locs ls hl hh => lv_aload_n C.1 C.2.1 dX10_init_62 rfl (lv_at hl 1 rfl) hh) ?_
  refine cq_get1 (ci := 10) C dX10_init_63 [.ref (o + (a + 1)), .ref (o + (a + 2)), .ref (o + (a + 3)), .int 0, .ref (o + (a + 4)), .ref (o + (a + 5)), .ref (o + (a + 6)), .int 0] (by omega) (by simp [va_up] <;> omega) rfl ct_inX10 (k := 2) (by decide) rfl mv_27 rfl ?_
  refine cq_w (fun H locs ls hl hh => lv_iload_n C.1 C.2.1 dX10_init_66 rfl (lv_at hl 0 rfl) hh) ?_
  refine cq_new (ci := 9) C dX10_init_67 [.null, .int 0, .int 0, .int 0, .int 0, .int 0, .null, .null, .null, .int 0] tyX9 tyX9_ok ct_inX9 mv_26 mv_31 mv_32 rfl (by decide +kernel) hlo (Nat.le_of_ble_eq_true rfl) (Nat.le_of_ble_eq_true rfl) ?_
  refine cq_w (fun H locs ls hl hh => lv_dup C.1 C.2.1 dX10_init_70 rfl hh) ?_
  refine cq_w (fun H locs ls hl hh => lv_aload_n C.1 C.2.1 dX10_init_71 rfl (lv_at hl 2 rfl) hh) ?_
  refine cq_w (fun H locs ls hl hh => lv_iload_n C.1 C.2.1 dX10_init_72 rfl (lv_at hl 0 rfl) hh) ?_
  refine cq_aald (t0 := 5) (v := o + (5 + 6 + 5 * 1)) C dX10_init_73 (by omega) (by rw [va_up_ne _ _ (by omega), va_up_ne _ _ (by omega), va_up_ne _ _ (by omega)]; unfold cq_fin; rw [if_pos (by omega)]; exact h5) rfl (by unfold vp_in; decide) rfl ?_
  have kb79 : ct_K 9 (a + 22) := by
      have h1 := ct_e19 (i := 1) (ct_t10_2 ka) (by rw [cq_l10_3 ka]; decide)
      exact h1
  have hp1 : ct_pg (a + 22) = 5 + 6 + 5 * 1 := cq_pg (t := 1) ka (by decide)
  rw [← hp1]
  refine cq_call (b := a + 22) (sz := 15) (mc := 14) (ms := 58) (As := [.ref (o + ct_pg (a + 22))]) (rmg := rq_X9_init) C (c_X9_init l D cy o (a + 22) kb79 _ (va_up_self _ _ _)) dX10_init_74 ki_X10_33 (by omega) rfl rfl (Nat.le_of_ble_eq_true rfl) ⟨rfl, rfl, Nat.le_of_ble_eq_true rfl, Nat.le_of_ble_eq_true rfl⟩ ⟨Nat.le_of_ble_eq_true rfl, Nat.le_of_ble_eq_true rfl⟩ ?_
  refine cq_conv (va_up (va_up (cq_fin cy o a f) a (.inr (10, [.ref (o + (a + 1)), .ref (o + (a + 2)), .ref (o + (a + 3)), .int 0, .ref (o + (a + 4)), .ref (o + (a + 5)), .ref (o + (a + 6)), .int 0]))) (a + 3) (.inl (cy 19, 3, .inr (.inr (.inr (.inr (cq_g 1 (fun i => some (o + ((a + 3) + 4 + 15 * i)))))))))) (fun k _ => cq_back (cq_ab_up (by omega) (cq_ab_up (by omega) (cq_ab_fin (by omega)))) k) ?_
  refine cq_num (N' := a + 37) (kc' := 36) (ks' := 163) rfl rfl rfl ?_
  have hb85 : ct_K 9 (a + 22) := by
      have h1 := ct_e19 (i := 1) (ct_t10_2 ka) (by rw [cq_l10_3 ka]; decide)
      exact h1
  refine cq_aast (t0 := 6) (r := (RX9, TX9, 10)) (b := a + 22) C dX10_init_77 (cq_g 1 (fun i => some (o + ((a + 3) + 4 + 15 * i)))) (by omega) (by omega) (by rw [va_up_self]) rfl (by omega) (by rw [va_up_ne _ _ (by omega), va_up_ne _ _ (by omega)]; unfold cq_fin; rw [if_neg (by omega)]; exact ct_E9 hb85) rfl (by unfold vp_in; decide) ?_
  have hg87 : va_up (cq_g 1 (fun i => some (o + ((a + 3) + 4 + 15 * i)))) (1 : Int32).toNatClampNeg (some (o + (a + 22))) = cq_g 2 (fun i => some (o + ((a + 3) + 4 + 15 * i))) := by
      have h2 : (fun i => some (o + ((a + 3) + 4 + 15 * i))) 1 = some (o + (a + 22)) := by rfl
      rw [← h2]; exact cq_g1 1 _
  rw [hg87]
  refine cq_conv (va_up (va_up (cq_fin cy o a f) a (.inr (10, [.ref (o + (a + 1)), .ref (o + (a + 2)), .ref (o + (a + 3)), .int 0, .ref (o + (a + 4)), .ref (o + (a + 5)), .ref (o + (a + 6)), .int 0]))) (a + 3) (.inl (cy 19, 3, .inr (.inr (.inr (.inr (cq_g 2 (fun i => some (o + ((a + 3) + 4 + 15 * i)))))))))) (fun k _ => by simp only [va_up]; (repeat' split) <;> first | rfl | (exfalso; omega)) ?_
  refine cq_store (lv' := [(2, .int (2 : Int32)), (0, .ref (o + a)), (1, .ref (o + 5))]) (fun H locs ls hl hh => lv_iinc (k := 0) (v := (2 : Int32)) C.1 C.2.1 dX10_init_78 hl rfl (by decide) (by decide) rfl hh) ?_
  refine cq_w (fun H locs ls hl hh => lv_goto (tgt := 51) C.1 C.2.1 dX10_init_81 (by decide) hh) ?_
  refine cq_w (fun H locs ls hl hh => lv_iload_n C.1 C.2.1 dX10_init_51 rfl (lv_at hl 0 rfl) hh) ?_
  refine cq_w (fun H locs ls hl hh => lv_iconst (v := (3 : Int32)) C.1 C.2.1 dX10_init_52 (by decide) hh) ?_
  refine cq_w (fun H locs ls hl hh => lv_icmp_ge (tgt := 84) C.1 C.2.1 dX10_init_53 (by decide) (fun hc => absurd hc (by decide)) (fun _ => hh)) ?_
  refine cq_w (fun H locs ls hl hh => lv_iload_n C.1 C.2.1 dX10_init_56 rfl (lv_at hl 0 rfl) hh) ?_
  refine cq_w (fun H locs ls hl hh => lv_aload_n C.1 C.2.1 dX10_init_57 rfl (lv_at hl 2 rfl) hh) ?_
  refine cq_alen (t0 := 5) (v := (3 : Int32)) C dX10_init_58 (by omega) (by rw [va_up_ne _ _ (by omega), va_up_ne _ _ (by omega)]; unfold cq_fin; rw [if_pos (by omega)]; exact h5) rfl rfl ?_
  refine cq_w (fun H locs ls hl hh => lv_icmp_ge (tgt := 84) C.1 C.2.1 dX10_init_59 (by decide) (fun hc => absurd hc (by decide)) (fun _ => hh)) ?_
  refine cq_w (fun H locs ls hl hh => lv_aload_n C.1 C.2.1 dX10_init_62 rfl (lv_at hl 1 rfl) hh) ?_
  refine cq_get1 (ci := 10) C dX10_init_63 [.ref (o + (a + 1)), .ref (o + (a + 2)), .ref (o + (a + 3)), .int 0, .ref (o + (a + 4)), .ref (o + (a + 5)), .ref (o + (a + 6)), .int 0] (by omega) (by simp [va_up] <;> omega) rfl ct_inX10 (k := 2) (by decide) rfl mv_27 rfl ?_
  refine cq_w (fun H locs ls hl hh => lv_iload_n C.1 C.2.1 dX10_init_66 rfl (lv_at hl 0 rfl) hh) ?_
  refine cq_new (ci := 9) C dX10_init_67 [.null, .int 0, .int 0, .int 0, .int 0, .int 0, .null, .null, .null, .int 0] tyX9 tyX9_ok ct_inX9 mv_26 mv_31 mv_32 rfl (by decide +kernel) hlo (Nat.le_of_ble_eq_true rfl) (Nat.le_of_ble_eq_true rfl) ?_
  refine cq_w (fun H locs ls hl hh => lv_dup C.1 C.2.1 dX10_init_70 rfl hh) ?_
  refine cq_w (fun H locs ls hl hh => lv_aload_n C.1 C.2.1 dX10_init_71 rfl (lv_at hl 2 rfl) hh) ?_
  refine cq_w (fun H locs ls hl hh => lv_iload_n C.1 C.2.1 dX10_init_72 rfl (lv_at hl 0 rfl) hh) ?_
  refine cq_aald (t0 := 5) (v := o + (5 + 6 + 5 * 2)) C dX10_init_73 (by omega) (by rw [va_up_ne _ _ (by omega), va_up_ne _ _ (by omega), va_up_ne _ _ (by omega)]; unfold cq_fin; rw [if_pos (by omega)]; exact h5) rfl (by unfold vp_in; decide) rfl ?_
  have kb107 : ct_K 9 (a + 37) := by
      have h1 := ct_e19 (i := 2) (ct_t10_2 ka) (by rw [cq_l10_3 ka]; decide)
      exact h1
  have hp2 : ct_pg (a + 37) = 5 + 6 + 5 * 2 := cq_pg (t := 2) ka (by decide)
  rw [← hp2]
  refine cq_call (b := a + 37) (sz := 15) (mc := 14) (ms := 58) (As := [.ref (o + ct_pg (a + 37))]) (rmg := rq_X9_init) C (c_X9_init l D cy o (a + 37) kb107 _ (va_up_self _ _ _)) dX10_init_74 ki_X10_33 (by omega) rfl rfl (Nat.le_of_ble_eq_true rfl) ⟨rfl, rfl, Nat.le_of_ble_eq_true rfl, Nat.le_of_ble_eq_true rfl⟩ ⟨Nat.le_of_ble_eq_true rfl, Nat.le_of_ble_eq_true rfl⟩ ?_
  refine cq_conv (va_up (va_up (cq_fin cy o a f) a (.inr (10, [.ref (o + (a + 1)), .ref (o + (a + 2)), .ref (o + (a + 3)), .int 0, .ref (o + (a + 4)), .ref (o + (a + 5)), .ref (o + (a + 6)), .int 0]))) (a + 3) (.inl (cy 19, 3, .inr (.inr (.inr (.inr (cq_g 2 (fun i => some (o + ((a + 3) + 4 + 15 * i)))))))))) (fun k _ => cq_back (cq_ab_up (by omega) (cq_ab_up (by omega) (cq_ab_fin (by omega)))) k) ?_
  refine cq_num (N' := a + 52) (kc' := 51) (ks' := 231) rfl rfl rfl ?_
  have hb113 : ct_K 9 (a + 37) := by
      have h1 := ct_e19 (i := 2) (ct_t10_2 ka) (by rw [cq_l10_3 ka]; decide)
      exact h1
  refine cq_aast (t0 := 6) (r := (RX9, TX9, 10)) (b := a + 37) C dX10_init_77 (cq_g 2 (fun i => some (o + ((a + 3) + 4 + 15 * i)))) (by omega) (by omega) (by rw [va_up_self]) rfl (by omega) (by rw [va_up_ne _ _ (by omega), va_up_ne _ _ (by omega)]; unfold cq_fin; rw [if_neg (by omega)]; exact ct_E9 hb113) rfl (by unfold vp_in; decide) ?_
  have hg115 : va_up (cq_g 2 (fun i => some (o + ((a + 3) + 4 + 15 * i)))) (2 : Int32).toNatClampNeg (some (o + (a + 37))) = cq_g 3 (fun i => some (o + ((a + 3) + 4 + 15 * i))) := by
      have h2 : (fun i => some (o + ((a + 3) + 4 + 15 * i))) 2 = some (o + (a + 37)) := by rfl
      rw [← h2]; exact cq_g1 2 _
  rw [hg115]
  refine cq_conv (va_up (va_up (cq_fin cy o a f) a (.inr (10, [.ref (o + (a + 1)), .ref (o + (a + 2)), .ref (o + (a + 3)), .int 0, .ref (o + (a + 4)), .ref (o + (a + 5)), .ref (o + (a + 6)), .int 0]))) (a + 3) (.inl (cy 19, 3, .inr (.inr (.inr (.inr (cq_g 3 (fun i => some (o + ((a + 3) + 4 + 15 * i)))))))))) (fun k _ => by simp only [va_up]; (repeat' split) <;> first | rfl | (exfalso; omega)) ?_
  refine cq_store (lv' := [(2, .int (3 : Int32)), (0, .ref (o + a)), (1, .ref (o + 5))]) (fun H locs ls hl hh => lv_iinc (k := 0) (v := (3 : Int32)) C.1 C.2.1 dX10_init_78 hl rfl (by decide) (by decide) rfl hh) ?_
  refine cq_w (fun H locs ls hl hh => lv_goto (tgt := 51) C.1 C.2.1 dX10_init_81 (by decide) hh) ?_
  refine cq_w (fun H locs ls hl hh => lv_iload_n C.1 C.2.1 dX10_init_51 rfl (lv_at hl 0 rfl) hh) ?_
  refine cq_w (fun H locs ls hl hh => lv_iconst (v := (3 : Int32)) C.1 C.2.1 dX10_init_52 (by decide) hh) ?_
  refine cq_w (fun H locs ls hl hh => lv_icmp_ge (tgt := 84) C.1 C.2.1 dX10_init_53 (by decide) (fun _ => hh) (fun hc => absurd (by decide) hc)) ?_
  refine cq_convA (fun i => some (o + ((a + 3) + 4 + 15 * i))) (fun i hi => cq_gn _ hi) ?_
  exact cq_vret C hr hlk dX10_init_84 rfl (fun k hk => by
    by_cases h2 : k = a + 3
    · rw [h2, va_up_self]; unfold cq_fin; rw [if_neg (by omega), ct_E19 (ct_t10_2 ka), cq_l10_3 ka]
    · rw [va_up_ne _ _ h2]
      by_cases h1 : k = a
      · rw [h1, va_up_self]; unfold cq_fin; rw [if_neg (by omega), ct_E10 ka] <;> rfl
      · rw [va_up_ne _ _ h1])
abbrev rq_X2_init : Room := { frames := 1, cells := 2, slots := 3407, locals := 12 }
set_option maxHeartbeats 4000000 in
set_option maxRecDepth 100000 in
theorem c_X2_init (l : Launch) (D : va_G) (cy : Nat → ClassId) (o a : Nat) (ka : ct_K 2 a) (f : Nat → va_E) (hfa : f a = .inr (2, [.null, .int 0, .null])) : Met l yX2_init (ct_ws yX2_init cX2_init 1 none) rq_X2_init (va_Pc [.ref (o + a)] (cq_P D cy o (a + 1) f)) (cq_Q D cy o a 3 f) 2 3407 (fun q => o + a ≤ q) := by
  refine cq_met l D cy o a f (by decide) rfl (Nat.le_of_ble_eq_true rfl) (fun p e s mth args below meth c C hr hlk hin hlo => ?_)
  refine cq_sub [0] [(0, .ref (o + a))] rfl ?_
  refine cq_w (fun H locs ls hl hh => lv_aload_n C.1 C.2.1 dX2_init_0 rfl (lv_at hl 0 rfl) hh) ?_
  refine cq_obj C mv_36 mv_1 mv_2 dX2_init_1 (Nat.le_of_ble_eq_true rfl) (Nat.le_of_ble_eq_true rfl) ?_
  refine cq_conv (va_up (cq_fin cy o a f) a (.inr (2, [.null, .int 0, .null]))) (fun k hk => by
      by_cases h1 : k = a
      · rw [h1, va_up_self]; exact hfa
      · rw [va_up_ne _ _ h1]; exact (if_pos (by omega)).symm) ?_
  refine cq_w (fun H locs ls hl hh => lv_aload_n C.1 C.2.1 dX2_init_4 rfl (lv_at hl 0 rfl) hh) ?_
  refine cq_w (fun H locs ls hl hh => lv_sipush (v := (1359 : Int32)) C.1 C.2.1 dX2_init_5 (by decide) hh) ?_
  refine cq_rowI C dX2_init_8 1359 (1359, .inr (.inl (fun _ => 0))) 2 15 .long (cq_ab_up (by omega) (cq_ab_fin (by omega))) (by rw [ct_E15 (ct_t2_0 ka), cq_l2_1 ka]; rfl) rfl (fun C h => by cases h) mv_37 rfl (fun _ => rfl) (by decide) (by decide) (Nat.le_of_ble_eq_true rfl) (Nat.le_of_ble_eq_true rfl) (Nat.le_of_ble_eq_true rfl) hlo ?_
  refine cq_putF (ci := 2) C dX2_init_10 [.null, .int 0, .null] tyX2 tyX2_ok nmX2 (by omega) (by omega) (by simp [va_up] <;> omega) rfl ct_inX2 (k := 0) (by decide) rfl rfl rfl hin rfl mv_38 (by rfl) (by rfl) (Nat.le_of_ble_eq_true rfl) ?_
  refine cq_conv (va_up (cq_fin cy o a f) a (.inr (2, [.ref (o + (a + 1)), .int 0, .null]))) (fun k _ => by simp only [va_up]; (repeat' split) <;> first | rfl | (exfalso; omega)) ?_
  refine cq_w (fun H locs ls hl hh => lv_aload_n C.1 C.2.1 dX2_init_13 rfl (lv_at hl 0 rfl) hh) ?_
  refine cq_w (fun H locs ls hl hh => lv_sipush (v := (2048 : Int32)) C.1 C.2.1 dX2_init_14 (by decide) hh) ?_
  refine cq_rowI C dX2_init_17 2048 (2048, .inl (fun _ => 0)) 1 14 .int (cq_ab_up (by omega) (cq_ab_fin (by omega))) (by rw [ct_E14 (ct_t2_2 ka), cq_l2_2 ka]; rfl) rfl (fun C h => by cases h) mv_3 rfl (fun _ => rfl) (by decide) (by decide) (Nat.le_of_ble_eq_true rfl) (Nat.le_of_ble_eq_true rfl) (Nat.le_of_ble_eq_true rfl) hlo ?_
  refine cq_putF (ci := 2) C dX2_init_19 [.ref (o + (a + 1)), .int 0, .null] tyX2 tyX2_ok nmX2 (by omega) (by omega) (by simp [va_up] <;> omega) rfl ct_inX2 (k := 2) (by decide) rfl rfl rfl hin rfl mv_39 (by rfl) (by rfl) (Nat.le_of_ble_eq_true rfl) ?_
  refine cq_conv (va_up (cq_fin cy o a f) a (.inr (2, [.ref (o + (a + 1)), .int 0, .ref (o + (a + 2))]))) (fun k _ => by simp only [va_up]; (repeat' split) <;> first | rfl | (exfalso; omega)) ?_
  exact cq_vret C hr hlk dX2_init_22 rfl (fun k hk => by
    by_cases h1 : k = a
    · rw [h1, va_up_self]; unfold cq_fin; rw [if_neg (by omega), ct_E2 ka] <;> rfl
    · rw [va_up_ne _ _ h1])
abbrev rq_X3_init : Room := { frames := 1, cells := 2, slots := 8, locals := 12 }
set_option maxHeartbeats 4000000 in
set_option maxRecDepth 100000 in
theorem c_X3_init (l : Launch) (D : va_G) (cy : Nat → ClassId) (o a : Nat) (ka : ct_K 3 a) (f : Nat → va_E) (hfa : f a = .inr (3, [.null, .null, .int 0, .int 0])) : Met l yX3_init (ct_ws yX3_init cX3_init 1 none) rq_X3_init (va_Pc [.ref (o + a)] (cq_P D cy o (a + 1) f)) (cq_Q D cy o a 3 f) 2 8 (fun q => o + a ≤ q) := by
  refine cq_met l D cy o a f (by decide) rfl (Nat.le_of_ble_eq_true rfl) (fun p e s mth args below meth c C hr hlk hin hlo => ?_)
  refine cq_sub [0] [(0, .ref (o + a))] rfl ?_
  refine cq_w (fun H locs ls hl hh => lv_aload_n C.1 C.2.1 dX3_init_0 rfl (lv_at hl 0 rfl) hh) ?_
  refine cq_obj C mv_40 mv_1 mv_2 dX3_init_1 (Nat.le_of_ble_eq_true rfl) (Nat.le_of_ble_eq_true rfl) ?_
  refine cq_conv (va_up (cq_fin cy o a f) a (.inr (3, [.null, .null, .int 0, .int 0]))) (fun k hk => by
      by_cases h1 : k = a
      · rw [h1, va_up_self]; exact hfa
      · rw [va_up_ne _ _ h1]; exact (if_pos (by omega)).symm) ?_
  refine cq_w (fun H locs ls hl hh => lv_aload_n C.1 C.2.1 dX3_init_4 rfl (lv_at hl 0 rfl) hh) ?_
  refine cq_w (fun H locs ls hl hh => lv_iconst (v := (4 : Int32)) C.1 C.2.1 dX3_init_5 (by decide) hh) ?_
  refine cq_rowI C dX3_init_6 4 (4, .inl (fun _ => 0)) 1 14 .int (cq_ab_up (by omega) (cq_ab_fin (by omega))) (by rw [ct_E14 (ct_t3_0 ka), cq_l3_1 ka]; rfl) rfl (fun C h => by cases h) mv_3 rfl (fun _ => rfl) (by decide) (by decide) (Nat.le_of_ble_eq_true rfl) (Nat.le_of_ble_eq_true rfl) (Nat.le_of_ble_eq_true rfl) hlo ?_
  refine cq_putF (ci := 3) C dX3_init_8 [.null, .null, .int 0, .int 0] tyX3 tyX3_ok nmX3 (by omega) (by omega) (by simp [va_up] <;> omega) rfl ct_inX3 (k := 0) (by decide) rfl rfl rfl hin rfl mv_41 (by rfl) (by rfl) (Nat.le_of_ble_eq_true rfl) ?_
  refine cq_conv (va_up (cq_fin cy o a f) a (.inr (3, [.ref (o + (a + 1)), .null, .int 0, .int 0]))) (fun k _ => by simp only [va_up]; (repeat' split) <;> first | rfl | (exfalso; omega)) ?_
  refine cq_w (fun H locs ls hl hh => lv_aload_n C.1 C.2.1 dX3_init_11 rfl (lv_at hl 0 rfl) hh) ?_
  refine cq_w (fun H locs ls hl hh => lv_iconst (v := (4 : Int32)) C.1 C.2.1 dX3_init_12 (by decide) hh) ?_
  refine cq_rowI C dX3_init_13 4 (4, .inl (fun _ => 0)) 1 14 .int (cq_ab_up (by omega) (cq_ab_fin (by omega))) (by rw [ct_E14 (ct_t3_1 ka), cq_l3_2 ka]; rfl) rfl (fun C h => by cases h) mv_3 rfl (fun _ => rfl) (by decide) (by decide) (Nat.le_of_ble_eq_true rfl) (Nat.le_of_ble_eq_true rfl) (Nat.le_of_ble_eq_true rfl) hlo ?_
  refine cq_putF (ci := 3) C dX3_init_15 [.ref (o + (a + 1)), .null, .int 0, .int 0] tyX3 tyX3_ok nmX3 (by omega) (by omega) (by simp [va_up] <;> omega) rfl ct_inX3 (k := 1) (by decide) rfl rfl rfl hin rfl mv_42 (by rfl) (by rfl) (Nat.le_of_ble_eq_true rfl) ?_
  refine cq_conv (va_up (cq_fin cy o a f) a (.inr (3, [.ref (o + (a + 1)), .ref (o + (a + 2)), .int 0, .int 0]))) (fun k _ => by simp only [va_up]; (repeat' split) <;> first | rfl | (exfalso; omega)) ?_
  exact cq_vret C hr hlk dX3_init_18 rfl (fun k hk => by
    by_cases h1 : k = a
    · rw [h1, va_up_self]; unfold cq_fin; rw [if_neg (by omega), ct_E3 ka] <;> rfl
    · rw [va_up_ne _ _ h1])
abbrev rq_X5_init : Room := { frames := 1, cells := 4, slots := 183, locals := 12 }
set_option maxHeartbeats 4000000 in
set_option maxRecDepth 100000 in
theorem c_X5_init (l : Launch) (D : va_G) (cy : Nat → ClassId) (o a : Nat) (ka : ct_K 5 a) (f : Nat → va_E) (hfa : f a = .inr (5, [.null, .null, .null, .int 0, .null, .int 0])) : Met l yX5_init (ct_ws yX5_init cX5_init 1 none) rq_X5_init (va_Pc [.ref (o + a)] (cq_P D cy o (a + 1) f)) (cq_Q D cy o a 5 f) 4 183 (fun q => o + a ≤ q) := by
  refine cq_met l D cy o a f (by decide) rfl (Nat.le_of_ble_eq_true rfl) (fun p e s mth args below meth c C hr hlk hin hlo => ?_)
  refine cq_sub [0] [(0, .ref (o + a))] rfl ?_
  refine cq_w (fun H locs ls hl hh => lv_aload_n C.1 C.2.1 dX5_init_0 rfl (lv_at hl 0 rfl) hh) ?_
  refine cq_obj C mv_43 mv_1 mv_2 dX5_init_1 (Nat.le_of_ble_eq_true rfl) (Nat.le_of_ble_eq_true rfl) ?_
  refine cq_conv (va_up (cq_fin cy o a f) a (.inr (5, [.null, .null, .null, .int 0, .null, .int 0]))) (fun k hk => by
      by_cases h1 : k = a
      · rw [h1, va_up_self]; exact hfa
      · rw [va_up_ne _ _ h1]; exact (if_pos (by omega)).symm) ?_
  refine cq_w (fun H locs ls hl hh => lv_aload_n C.1 C.2.1 dX5_init_4 rfl (lv_at hl 0 rfl) hh) ?_
  refine cq_w (fun H locs ls hl hh => lv_bipush (v := (60 : Int32)) C.1 C.2.1 dX5_init_5 (by decide) hh) ?_
  refine cq_rowI C dX5_init_7 60 (60, .inl (fun _ => 0)) 0 13 .char (cq_ab_up (by omega) (cq_ab_fin (by omega))) (by rw [ct_E13 (ct_t5_0 ka), cq_l5_1 ka]; rfl) rfl (fun C h => by cases h) mv_44 rfl (fun _ => rfl) (by decide) (by decide) (Nat.le_of_ble_eq_true rfl) (Nat.le_of_ble_eq_true rfl) (Nat.le_of_ble_eq_true rfl) hlo ?_
  refine cq_putF (ci := 5) C dX5_init_9 [.null, .null, .null, .int 0, .null, .int 0] tyX5 tyX5_ok nmX5 (by omega) (by omega) (by simp [va_up] <;> omega) rfl ct_inX5 (k := 0) (by decide) rfl rfl rfl hin rfl mv_45 (by rfl) (by rfl) (Nat.le_of_ble_eq_true rfl) ?_
  refine cq_conv (va_up (cq_fin cy o a f) a (.inr (5, [.ref (o + (a + 1)), .null, .null, .int 0, .null, .int 0]))) (fun k _ => by simp only [va_up]; (repeat' split) <;> first | rfl | (exfalso; omega)) ?_
  refine cq_w (fun H locs ls hl hh => lv_aload_n C.1 C.2.1 dX5_init_12 rfl (lv_at hl 0 rfl) hh) ?_
  refine cq_w (fun H locs ls hl hh => lv_bipush (v := (60 : Int32)) C.1 C.2.1 dX5_init_13 (by decide) hh) ?_
  refine cq_rowI C dX5_init_15 60 (60, .inl (fun _ => 0)) 1 14 .int (cq_ab_up (by omega) (cq_ab_fin (by omega))) (by rw [ct_E14 (ct_t5_1 ka), cq_l5_2 ka]; rfl) rfl (fun C h => by cases h) mv_3 rfl (fun _ => rfl) (by decide) (by decide) (Nat.le_of_ble_eq_true rfl) (Nat.le_of_ble_eq_true rfl) (Nat.le_of_ble_eq_true rfl) hlo ?_
  refine cq_putF (ci := 5) C dX5_init_17 [.ref (o + (a + 1)), .null, .null, .int 0, .null, .int 0] tyX5 tyX5_ok nmX5 (by omega) (by omega) (by simp [va_up] <;> omega) rfl ct_inX5 (k := 1) (by decide) rfl rfl rfl hin rfl mv_46 (by rfl) (by rfl) (Nat.le_of_ble_eq_true rfl) ?_
  refine cq_conv (va_up (cq_fin cy o a f) a (.inr (5, [.ref (o + (a + 1)), .ref (o + (a + 2)), .null, .int 0, .null, .int 0]))) (fun k _ => by simp only [va_up]; (repeat' split) <;> first | rfl | (exfalso; omega)) ?_
  refine cq_w (fun H locs ls hl hh => lv_aload_n C.1 C.2.1 dX5_init_20 rfl (lv_at hl 0 rfl) hh) ?_
  refine cq_w (fun H locs ls hl hh => lv_bipush (v := (60 : Int32)) C.1 C.2.1 dX5_init_21 (by decide) hh) ?_
  refine cq_rowI C dX5_init_23 60 (60, .inl (fun _ => 0)) 1 14 .int (cq_ab_up (by omega) (cq_ab_fin (by omega))) (by rw [ct_E14 (ct_t5_2 ka), cq_l5_3 ka]; rfl) rfl (fun C h => by cases h) mv_3 rfl (fun _ => rfl) (by decide) (by decide) (Nat.le_of_ble_eq_true rfl) (Nat.le_of_ble_eq_true rfl) (Nat.le_of_ble_eq_true rfl) hlo ?_
  refine cq_putF (ci := 5) C dX5_init_25 [.ref (o + (a + 1)), .ref (o + (a + 2)), .null, .int 0, .null, .int 0] tyX5 tyX5_ok nmX5 (by omega) (by omega) (by simp [va_up] <;> omega) rfl ct_inX5 (k := 2) (by decide) rfl rfl rfl hin rfl mv_47 (by rfl) (by rfl) (Nat.le_of_ble_eq_true rfl) ?_
  refine cq_conv (va_up (cq_fin cy o a f) a (.inr (5, [.ref (o + (a + 1)), .ref (o + (a + 2)), .ref (o + (a + 3)), .int 0, .null, .int 0]))) (fun k _ => by simp only [va_up]; (repeat' split) <;> first | rfl | (exfalso; omega)) ?_
  refine cq_w (fun H locs ls hl hh => lv_aload_n C.1 C.2.1 dX5_init_28 rfl (lv_at hl 0 rfl) hh) ?_
  refine cq_w (fun H locs ls hl hh => lv_iconst (v := (3 : Int32)) C.1 C.2.1 dX5_init_29 (by decide) hh) ?_
  refine cq_rowI C dX5_init_30 3 (3, .inl (fun _ => 0)) 1 14 .int (cq_ab_up (by omega) (cq_ab_fin (by omega))) (by rw [ct_E14 (ct_t5_4 ka), cq_l5_4 ka]; rfl) rfl (fun C h => by cases h) mv_3 rfl (fun _ => rfl) (by decide) (by decide) (Nat.le_of_ble_eq_true rfl) (Nat.le_of_ble_eq_true rfl) (Nat.le_of_ble_eq_true rfl) hlo ?_
  refine cq_putF (ci := 5) C dX5_init_32 [.ref (o + (a + 1)), .ref (o + (a + 2)), .ref (o + (a + 3)), .int 0, .null, .int 0] tyX5 tyX5_ok nmX5 (by omega) (by omega) (by simp [va_up] <;> omega) rfl ct_inX5 (k := 4) (by decide) rfl rfl rfl hin rfl mv_48 (by rfl) (by rfl) (Nat.le_of_ble_eq_true rfl) ?_
  refine cq_conv (va_up (cq_fin cy o a f) a (.inr (5, [.ref (o + (a + 1)), .ref (o + (a + 2)), .ref (o + (a + 3)), .int 0, .ref (o + (a + 4)), .int 0]))) (fun k _ => by simp only [va_up]; (repeat' split) <;> first | rfl | (exfalso; omega)) ?_
  exact cq_vret C hr hlk dX5_init_35 rfl (fun k hk => by
    by_cases h1 : k = a
    · rw [h1, va_up_self]; unfold cq_fin; rw [if_neg (by omega), ct_E5 ka] <;> rfl
    · rw [va_up_ne _ _ h1])
abbrev rq_X7_init : Room := { frames := 1, cells := 1, slots := 3, locals := 12 }
set_option maxHeartbeats 4000000 in
set_option maxRecDepth 100000 in
theorem c_X7_init (l : Launch) (D : va_G) (cy : Nat → ClassId) (o a : Nat) (ka : ct_K 7 a) (f : Nat → va_E) (hfa : f a = .inr (7, [.int 0, .int 0, .int 0, .int 0, .null])) : Met l yX7_init (ct_ws yX7_init cX7_init 1 none) rq_X7_init (va_Pc [.ref (o + a)] (cq_P D cy o (a + 1) f)) (cq_Q D cy o a 2 f) 1 3 (fun q => o + a ≤ q) := by
  refine cq_met l D cy o a f (by decide) rfl (Nat.le_of_ble_eq_true rfl) (fun p e s mth args below meth c C hr hlk hin hlo => ?_)
  refine cq_sub [0] [(0, .ref (o + a))] rfl ?_
  refine cq_w (fun H locs ls hl hh => lv_aload_n C.1 C.2.1 dX7_init_0 rfl (lv_at hl 0 rfl) hh) ?_
  refine cq_obj C mv_49 mv_1 mv_2 dX7_init_1 (Nat.le_of_ble_eq_true rfl) (Nat.le_of_ble_eq_true rfl) ?_
  refine cq_conv (va_up (cq_fin cy o a f) a (.inr (7, [.int 0, .int 0, .int 0, .int 0, .null]))) (fun k hk => by
      by_cases h1 : k = a
      · rw [h1, va_up_self]; exact hfa
      · rw [va_up_ne _ _ h1]; exact (if_pos (by omega)).symm) ?_
  refine cq_w (fun H locs ls hl hh => lv_aload_n C.1 C.2.1 dX7_init_4 rfl (lv_at hl 0 rfl) hh) ?_
  refine cq_w (fun H locs ls hl hh => lv_iconst (v := (3 : Int32)) C.1 C.2.1 dX7_init_5 (by decide) hh) ?_
  refine cq_rowI C dX7_init_6 3 (3, .inl (fun _ => 0)) 0 13 .char (cq_ab_up (by omega) (cq_ab_fin (by omega))) (by rw [ct_E13 (ct_t7_4 ka), cq_l7_1 ka]; rfl) rfl (fun C h => by cases h) mv_44 rfl (fun _ => rfl) (by decide) (by decide) (Nat.le_of_ble_eq_true rfl) (Nat.le_of_ble_eq_true rfl) (Nat.le_of_ble_eq_true rfl) hlo ?_
  refine cq_putF (ci := 7) C dX7_init_8 [.int 0, .int 0, .int 0, .int 0, .null] tyX7 tyX7_ok nmX7 (by omega) (by omega) (by simp [va_up] <;> omega) rfl ct_inX7 (k := 4) (by decide) rfl rfl rfl hin rfl mv_50 (by rfl) (by rfl) (Nat.le_of_ble_eq_true rfl) ?_
  refine cq_conv (va_up (cq_fin cy o a f) a (.inr (7, [.int 0, .int 0, .int 0, .int 0, .ref (o + (a + 1))]))) (fun k _ => by simp only [va_up]; (repeat' split) <;> first | rfl | (exfalso; omega)) ?_
  exact cq_vret C hr hlk dX7_init_11 rfl (fun k hk => by
    by_cases h1 : k = a
    · rw [h1, va_up_self]; unfold cq_fin; rw [if_neg (by omega), ct_E7 ka] <;> rfl
    · rw [va_up_ne _ _ h1])
abbrev rq_X8_init : Room := { frames := 2, cells := 3, slots := 68, locals := 32 }
set_option maxHeartbeats 4000000 in
set_option maxRecDepth 100000 in
theorem c_X8_init (l : Launch) (D : va_G) (cy : Nat → ClassId) (o a : Nat) (ka : ct_K 8 a) (f : Nat → va_E) (hfa : f a = .inr (8, [.null, .int 0, .null])) : Met l yX8_init (ct_ws yX8_init cX8_init 1 none) rq_X8_init (va_Pc [.ref (o + a)] (cq_P D cy o (a + 1) f)) (cq_Q D cy o a 4 f) 3 68 (fun q => o + a ≤ q) := by
  refine cq_met l D cy o a f (by decide) rfl (Nat.le_of_ble_eq_true rfl) (fun p e s mth args below meth c C hr hlk hin hlo => ?_)
  refine cq_sub [0] [(0, .ref (o + a))] rfl ?_
  refine cq_w (fun H locs ls hl hh => lv_aload_n C.1 C.2.1 dX8_init_0 rfl (lv_at hl 0 rfl) hh) ?_
  refine cq_obj C mv_51 mv_1 mv_2 dX8_init_1 (Nat.le_of_ble_eq_true rfl) (Nat.le_of_ble_eq_true rfl) ?_
  refine cq_conv (va_up (cq_fin cy o a f) a (.inr (8, [.null, .int 0, .null]))) (fun k hk => by
      by_cases h1 : k = a
      · rw [h1, va_up_self]; exact hfa
      · rw [va_up_ne _ _ h1]; exact (if_pos (by omega)).symm) ?_
  refine cq_w (fun H locs ls hl hh => lv_aload_n C.1 C.2.1 dX8_init_4 rfl (lv_at hl 0 rfl) hh) ?_
  refine cq_w (fun H locs ls hl hh => lv_bipush (v := (60 : Int32)) C.1 C.2.1 dX8_init_5 (by decide) hh) ?_
  refine cq_rowI C dX8_init_7 60 (60, .inl (fun _ => 0)) 0 13 .char (cq_ab_up (by omega) (cq_ab_fin (by omega))) (by rw [ct_E13 (ct_t8_0 ka), cq_l8_1 ka]; rfl) rfl (fun C h => by cases h) mv_44 rfl (fun _ => rfl) (by decide) (by decide) (Nat.le_of_ble_eq_true rfl) (Nat.le_of_ble_eq_true rfl) (Nat.le_of_ble_eq_true rfl) hlo ?_
  refine cq_putF (ci := 8) C dX8_init_9 [.null, .int 0, .null] tyX8 tyX8_ok nmX8 (by omega) (by omega) (by simp [va_up] <;> omega) rfl ct_inX8 (k := 0) (by decide) rfl rfl rfl hin rfl mv_52 (by rfl) (by rfl) (Nat.le_of_ble_eq_true rfl) ?_
  refine cq_conv (va_up (cq_fin cy o a f) a (.inr (8, [.ref (o + (a + 1)), .int 0, .null]))) (fun k _ => by simp only [va_up]; (repeat' split) <;> first | rfl | (exfalso; omega)) ?_
  refine cq_w (fun H locs ls hl hh => lv_aload_n C.1 C.2.1 dX8_init_12 rfl (lv_at hl 0 rfl) hh) ?_
  refine cq_new (ci := 7) C dX8_init_13 [.int 0, .int 0, .int 0, .int 0, .null] tyX7 tyX7_ok ct_inX7 mv_53 mv_54 mv_55 rfl (by decide +kernel) hlo (Nat.le_of_ble_eq_true rfl) (Nat.le_of_ble_eq_true rfl) ?_
  refine cq_w (fun H locs ls hl hh => lv_dup C.1 C.2.1 dX8_init_16 rfl hh) ?_
  have kb11 : ct_K 7 (a + 2) := (ct_t8_2 ka)
  refine cq_call (b := a + 2) (sz := 2) (mc := 1) (ms := 3) (As := []) (rmg := rq_X7_init) C (c_X7_init l D cy o (a + 2) kb11 _ (va_up_self _ _ _)) dX8_init_17 ki_X8_17 (by omega) rfl rfl (Nat.le_of_ble_eq_true rfl) ⟨rfl, rfl, Nat.le_of_ble_eq_true rfl, Nat.le_of_ble_eq_true rfl⟩ ⟨Nat.le_of_ble_eq_true rfl, Nat.le_of_ble_eq_true rfl⟩ ?_
  refine cq_conv (va_up (cq_fin cy o a f) a (.inr (8, [.ref (o + (a + 1)), .int 0, .null]))) (fun k _ => cq_back (cq_ab_up (by omega) (cq_ab_fin (by omega))) k) ?_
  refine cq_num (N' := a + 4) (kc' := 3) (ks' := 68) rfl rfl rfl ?_
  refine cq_putF (ci := 8) C dX8_init_20 [.ref (o + (a + 1)), .int 0, .null] tyX8 tyX8_ok nmX8 (by omega) (by omega) (by simp [va_up] <;> omega) rfl ct_inX8 (k := 2) (by decide) rfl rfl rfl hin rfl mv_58 (by rfl) (by rfl) (Nat.le_of_ble_eq_true rfl) ?_
  refine cq_conv (va_up (cq_fin cy o a f) a (.inr (8, [.ref (o + (a + 1)), .int 0, .ref (o + (a + 2))]))) (fun k _ => by simp only [va_up]; (repeat' split) <;> first | rfl | (exfalso; omega)) ?_
  exact cq_vret C hr hlk dX8_init_23 rfl (fun k hk => by
    by_cases h1 : k = a
    · rw [h1, va_up_self]; unfold cq_fin; rw [if_neg (by omega), ct_E8 ka] <;> rfl
    · rw [va_up_ne _ _ h1])
abbrev rq_X1_init : Room := { frames := 5, cells := 729, slots := 3360, locals := 96 }
set_option maxHeartbeats 4000000 in
set_option maxRecDepth 100000 in
theorem c_X1_init (l : Launch) (D : va_G) (cy : Nat → ClassId) (o a : Nat) (ka : ct_K 1 a) (f : Nat → va_E) (hfa : f a = .inr (1, [.null, .int 0, .int 0])) (h5 : f 5 = .inl (cy 18, 3, .inr (.inr (.inr (.inr (fun i => some (o + (5 + 6 + 5 * i)))))))) (h5a : 5 < a) : Met l yX1_init (ct_ws yX1_init cX1_init 3 none) rq_X1_init (va_Pc [.ref (o + a), .ref (o + 5)] (cq_P D cy o (a + 1) f)) (cq_Q D cy o a 730 f) 729 3360 (fun q => o + a ≤ q) := by
  refine cq_met l D cy o a f (by decide) rfl (Nat.le_of_ble_eq_true rfl) (fun p e s mth args below meth c C hr hlk hin hlo => ?_)
  refine cq_sub [0, 1] [(0, .ref (o + a)), (1, .ref (o + 5))] rfl ?_
  refine cq_w (fun H locs ls hl hh => lv_aload_n C.1 C.2.1 dX1_init_0 rfl (lv_at hl 0 rfl) hh) ?_
  refine cq_obj C mv_59 mv_1 mv_2 dX1_init_1 (Nat.le_of_ble_eq_true rfl) (Nat.le_of_ble_eq_true rfl) ?_
  refine cq_conv (va_up (cq_fin cy o a f) a (.inr (1, [.null, .int 0, .int 0]))) (fun k hk => by
      by_cases h1 : k = a
      · rw [h1, va_up_self]; exact hfa
      · rw [va_up_ne _ _ h1]; exact (if_pos (by omega)).symm) ?_
  refine cq_w (fun H locs ls hl hh => lv_aload_n C.1 C.2.1 dX1_init_4 rfl (lv_at hl 0 rfl) hh) ?_
  refine cq_w (fun H locs ls hl hh => lv_bipush (v := (14 : Int32)) C.1 C.2.1 dX1_init_5 (by decide) hh) ?_
  refine cq_newq C dX1_init_7 14 7 20 mv_60 C.2.2.2.2.2.2.2.2.2.2 rfl (by decide) (by decide) (Nat.le_of_ble_eq_true rfl) (Nat.le_of_ble_eq_true rfl) (Nat.le_of_ble_eq_true rfl) hlo ?_
  rw [cq_g0 (fun i => some (o + (ct_elW (a + 1) i)))]
  refine cq_putF (ci := 1) C dX1_init_10 [.null, .int 0, .int 0] tyX1 tyX1_ok nmX1 (by omega) (by omega) (by simp [va_up] <;> omega) rfl ct_inX1 (k := 0) (by decide) rfl rfl rfl hin rfl mv_61 (by rfl) (by rfl) (Nat.le_of_ble_eq_true rfl) ?_
  refine cq_conv (va_up (va_up (cq_fin cy o a f) a (.inr (1, [.ref (o + (a + 1)), .int 0, .int 0]))) (a + 1) (.inl (cy 20, 14, .inr (.inr (.inr (.inr (cq_g 0 (fun i => some (o + (ct_elW (a + 1) i)))))))))) (fun k _ => by simp only [va_up]; (repeat' split) <;> first | rfl | (exfalso; omega)) ?_
  refine cq_w (fun H locs ls hl hh => lv_iconst (v := (0 : Int32)) C.1 C.2.1 dX1_init_13 (by decide) hh) ?_
  refine cq_store (lv' := [(2, .int (0 : Int32)), (0, .ref (o + a)), (1, .ref (o + 5))]) (fun H locs ls hl hh => lv_istore_n C.1 C.2.1 dX1_init_14 rfl hl (by decide) rfl hh) ?_
  refine cq_w (fun H locs ls hl hh => lv_iload_n C.1 C.2.1 dX1_init_15 rfl (lv_at hl 0 rfl) hh) ?_
  refine cq_w (fun H locs ls hl hh => lv_bipush (v := (14 : Int32)) C.1 C.2.1 dX1_init_16 (by decide) hh) ?_
  refine cq_w (fun H locs ls hl hh => lv_icmp_ge (tgt := 41) C.1 C.2.1 dX1_init_18 (by decide) (fun hc => absurd hc (by decide)) (fun _ => hh)) ?_
  refine cq_w (fun H locs ls hl hh => lv_aload_n C.1 C.2.1 dX1_init_21 rfl (lv_at hl 1 rfl) hh) ?_
  refine cq_get1 (ci := 1) C dX1_init_22 [.ref (o + (a + 1)), .int 0, .int 0] (by omega) (by simp [va_up] <;> omega) rfl ct_inX1 (k := 0) (by decide) rfl mv_61 rfl ?_
  refine cq_w (fun H locs ls hl hh => lv_iload_n C.1 C.2.1 dX1_init_25 rfl (lv_at hl 0 rfl) hh) ?_
  refine cq_new (ci := 10) C dX1_init_26 [.null, .null, .null, .int 0, .null, .null, .null, .int 0] tyX10 tyX10_ok ct_inX10 mv_60 mv_62 mv_63 rfl (by decide +kernel) hlo (Nat.le_of_ble_eq_true rfl) (Nat.le_of_ble_eq_true rfl) ?_
  refine cq_w (fun H locs ls hl hh => lv_dup C.1 C.2.1 dX1_init_29 rfl hh) ?_
  refine cq_w (fun H locs ls hl hh => lv_aload_n C.1 C.2.1 dX1_init_30 rfl (lv_at hl 2 rfl) hh) ?_
  have kb20 : ct_K 10 (a + 2) := by
      have h1 := ct_e20 (i := 0) (ct_t1_0 ka) (by rw [cq_l1_1 ka]; decide)
      have h2 : ct_elW (a + 1) 0 = a + 2 := by unfold ct_elW; split <;> omega
      rw [h2] at h1
      exact h1
  have h5F21 : (va_up (va_up (cq_fin cy o a f) a (.inr (1, [.ref (o + (a + 1)), .int 0, .int 0]))) (a + 1) (.inl (cy 20, 14, .inr (.inr (.inr (.inr (cq_g 0 (fun i => some (o + (ct_elW (a + 1) i)))))))))) 5 = .inl (cy 18, 3, .inr (.inr (.inr (.inr (fun i => some (o + (5 + 6 + 5 * i))))))) := by
      rw [va_up_ne _ _ (by omega), va_up_ne _ _ (by omega)]
      unfold cq_fin
      rw [if_pos (by omega)]
      exact h5
  have h5g : ∀ k, k = 5 → (va_up (va_up (va_up (cq_fin cy o a f) a (.inr (1, [.ref (o + (a + 1)), .int 0, .int 0]))) (a + 1) (.inl (cy 20, 14, .inr (.inr (.inr (.inr (cq_g 0 (fun i => some (o + (ct_elW (a + 1) i)))))))))) (a + 2) (.inr (10, [.null, .null, .null, .int 0, .null, .null, .null, .int 0]))) k = .inl (cy 18, 3, .inr (.inr (.inr (.inr (fun i => some (o + (5 + 6 + 5 * i))))))) := by
      intro k hk
      subst hk
      rw [va_up_ne _ _ (by omega)]
      exact h5F21
  refine cq_call (b := a + 2) (sz := 52) (mc := 51) (ms := 231) (As := [.ref (o + 5)]) (rmg := rq_X10_init) C (c_X10_init l D cy o (a + 2) kb20 _ (va_up_self _ _ _) (h5g 5 rfl) (by omega)) dX1_init_31 ki_X1_17 (by omega) rfl rfl (Nat.le_of_ble_eq_true rfl) ⟨rfl, rfl, Nat.le_of_ble_eq_true rfl, Nat.le_of_ble_eq_true rfl⟩ ⟨Nat.le_of_ble_eq_true rfl, Nat.le_of_ble_eq_true rfl⟩ ?_
  refine cq_conv (va_up (va_up (cq_fin cy o a f) a (.inr (1, [.ref (o + (a + 1)), .int 0, .int 0]))) (a + 1) (.inl (cy 20, 14, .inr (.inr (.inr (.inr (cq_g 0 (fun i => some (o + (ct_elW (a + 1) i)))))))))) (fun k _ => cq_back (cq_ab_up (by omega) (cq_ab_up (by omega) (cq_ab_fin (by omega)))) k) ?_
  refine cq_num (N' := a + 54) (kc' := 53) (ks' := 253) rfl rfl rfl ?_
  have hb26 : ct_K 10 (a + 2) := by
      have h1 := ct_e20 (i := 0) (ct_t1_0 ka) (by rw [cq_l1_1 ka]; decide)
      have h2 : ct_elW (a + 1) 0 = a + 2 := by unfold ct_elW; split <;> omega
      rw [h2] at h1
      exact h1
  refine cq_aast (t0 := 7) (r := (RX10, TX10, 8)) (b := a + 2) C dX1_init_34 (cq_g 0 (fun i => some (o + (ct_elW (a + 1) i)))) (by omega) (by omega) (by rw [va_up_self]) rfl (by omega) (by rw [va_up_ne _ _ (by omega), va_up_ne _ _ (by omega)]; unfold cq_fin; rw [if_neg (by omega)]; exact ct_E10 hb26) rfl (by unfold vp_in; decide) ?_
  have hg28 : va_up (cq_g 0 (fun i => some (o + (ct_elW (a + 1) i)))) (0 : Int32).toNatClampNeg (some (o + (a + 2))) = cq_g 1 (fun i => some (o + (ct_elW (a + 1) i))) := by
      have h2 : (fun i => some (o + (ct_elW (a + 1) i))) 0 = some (o + (a + 2)) := by show some _ = some _; congr 2; unfold ct_elW; split <;> omega
      rw [← h2]; exact cq_g1 0 _
  rw [hg28]
  refine cq_conv (va_up (va_up (cq_fin cy o a f) a (.inr (1, [.ref (o + (a + 1)), .int 0, .int 0]))) (a + 1) (.inl (cy 20, 14, .inr (.inr (.inr (.inr (cq_g 1 (fun i => some (o + (ct_elW (a + 1) i)))))))))) (fun k _ => by simp only [va_up]; (repeat' split) <;> first | rfl | (exfalso; omega)) ?_
  refine cq_store (lv' := [(2, .int (1 : Int32)), (0, .ref (o + a)), (1, .ref (o + 5))]) (fun H locs ls hl hh => lv_iinc (k := 0) (v := (1 : Int32)) C.1 C.2.1 dX1_init_35 hl rfl (by decide) (by decide) rfl hh) ?_
  refine cq_w (fun H locs ls hl hh => lv_goto (tgt := 15) C.1 C.2.1 dX1_init_38 (by decide) hh) ?_
  refine cq_w (fun H locs ls hl hh => lv_iload_n C.1 C.2.1 dX1_init_15 rfl (lv_at hl 0 rfl) hh) ?_
  refine cq_w (fun H locs ls hl hh => lv_bipush (v := (14 : Int32)) C.1 C.2.1 dX1_init_16 (by decide) hh) ?_
  refine cq_w (fun H locs ls hl hh => lv_icmp_ge (tgt := 41) C.1 C.2.1 dX1_init_18 (by decide) (fun hc => absurd hc (by decide)) (fun _ => hh)) ?_
  refine cq_w (fun H locs ls hl hh => lv_aload_n C.1 C.2.1 dX1_init_21 rfl (lv_at hl 1 rfl) hh) ?_
  refine cq_get1 (ci := 1) C dX1_init_22 [.ref (o + (a + 1)), .int 0, .int 0] (by omega) (by simp [va_up] <;> omega) rfl ct_inX1 (k := 0) (by decide) rfl mv_61 rfl ?_
  refine cq_w (fun H locs ls hl hh => lv_iload_n C.1 C.2.1 dX1_init_25 rfl (lv_at hl 0 rfl) hh) ?_
  refine cq_new (ci := 10) C dX1_init_26 [.null, .null, .null, .int 0, .null, .null, .null, .int 0] tyX10 tyX10_ok ct_inX10 mv_60 mv_62 mv_63 rfl (by decide +kernel) hlo (Nat.le_of_ble_eq_true rfl) (Nat.le_of_ble_eq_true rfl) ?_
  refine cq_w (fun H locs ls hl hh => lv_dup C.1 C.2.1 dX1_init_29 rfl hh) ?_
  refine cq_w (fun H locs ls hl hh => lv_aload_n C.1 C.2.1 dX1_init_30 rfl (lv_at hl 2 rfl) hh) ?_
  have kb42 : ct_K 10 (a + 54) := by
      have h1 := ct_e20 (i := 1) (ct_t1_0 ka) (by rw [cq_l1_1 ka]; decide)
      have h2 : ct_elW (a + 1) 1 = a + 54 := by unfold ct_elW; split <;> omega
      rw [h2] at h1
      exact h1
  have h5F43 : (va_up (va_up (cq_fin cy o a f) a (.inr (1, [.ref (o + (a + 1)), .int 0, .int 0]))) (a + 1) (.inl (cy 20, 14, .inr (.inr (.inr (.inr (cq_g 1 (fun i => some (o + (ct_elW (a + 1) i)))))))))) 5 = .inl (cy 18, 3, .inr (.inr (.inr (.inr (fun i => some (o + (5 + 6 + 5 * i))))))) := by
      rw [va_up_ne _ _ (by omega), va_up_ne _ _ (by omega)]
      unfold cq_fin
      rw [if_pos (by omega)]
      exact h5
  have h5g : ∀ k, k = 5 → (va_up (va_up (va_up (cq_fin cy o a f) a (.inr (1, [.ref (o + (a + 1)), .int 0, .int 0]))) (a + 1) (.inl (cy 20, 14, .inr (.inr (.inr (.inr (cq_g 1 (fun i => some (o + (ct_elW (a + 1) i)))))))))) (a + 54) (.inr (10, [.null, .null, .null, .int 0, .null, .null, .null, .int 0]))) k = .inl (cy 18, 3, .inr (.inr (.inr (.inr (fun i => some (o + (5 + 6 + 5 * i))))))) := by
      intro k hk
      subst hk
      rw [va_up_ne _ _ (by omega)]
      exact h5F43
  refine cq_call (b := a + 54) (sz := 52) (mc := 51) (ms := 231) (As := [.ref (o + 5)]) (rmg := rq_X10_init) C (c_X10_init l D cy o (a + 54) kb42 _ (va_up_self _ _ _) (h5g 5 rfl) (by omega)) dX1_init_31 ki_X1_17 (by omega) rfl rfl (Nat.le_of_ble_eq_true rfl) ⟨rfl, rfl, Nat.le_of_ble_eq_true rfl, Nat.le_of_ble_eq_true rfl⟩ ⟨Nat.le_of_ble_eq_true rfl, Nat.le_of_ble_eq_true rfl⟩ ?_
  refine cq_conv (va_up (va_up (cq_fin cy o a f) a (.inr (1, [.ref (o + (a + 1)), .int 0, .int 0]))) (a + 1) (.inl (cy 20, 14, .inr (.inr (.inr (.inr (cq_g 1 (fun i => some (o + (ct_elW (a + 1) i)))))))))) (fun k _ => cq_back (cq_ab_up (by omega) (cq_ab_up (by omega) (cq_ab_fin (by omega)))) k) ?_
  refine cq_num (N' := a + 106) (kc' := 105) (ks' := 492) rfl rfl rfl ?_
  have hb48 : ct_K 10 (a + 54) := by
      have h1 := ct_e20 (i := 1) (ct_t1_0 ka) (by rw [cq_l1_1 ka]; decide)
      have h2 : ct_elW (a + 1) 1 = a + 54 := by unfold ct_elW; split <;> omega
      rw [h2] at h1
      exact h1
  refine cq_aast (t0 := 7) (r := (RX10, TX10, 8)) (b := a + 54) C dX1_init_34 (cq_g 1 (fun i => some (o + (ct_elW (a + 1) i)))) (by omega) (by omega) (by rw [va_up_self]) rfl (by omega) (by rw [va_up_ne _ _ (by omega), va_up_ne _ _ (by omega)]; unfold cq_fin; rw [if_neg (by omega)]; exact ct_E10 hb48) rfl (by unfold vp_in; decide) ?_
  have hg50 : va_up (cq_g 1 (fun i => some (o + (ct_elW (a + 1) i)))) (1 : Int32).toNatClampNeg (some (o + (a + 54))) = cq_g 2 (fun i => some (o + (ct_elW (a + 1) i))) := by
      have h2 : (fun i => some (o + (ct_elW (a + 1) i))) 1 = some (o + (a + 54)) := by show some _ = some _; congr 2; unfold ct_elW; split <;> omega
      rw [← h2]; exact cq_g1 1 _
  rw [hg50]
  refine cq_conv (va_up (va_up (cq_fin cy o a f) a (.inr (1, [.ref (o + (a + 1)), .int 0, .int 0]))) (a + 1) (.inl (cy 20, 14, .inr (.inr (.inr (.inr (cq_g 2 (fun i => some (o + (ct_elW (a + 1) i)))))))))) (fun k _ => by simp only [va_up]; (repeat' split) <;> first | rfl | (exfalso; omega)) ?_
  refine cq_store (lv' := [(2, .int (2 : Int32)), (0, .ref (o + a)), (1, .ref (o + 5))]) (fun H locs ls hl hh => lv_iinc (k := 0) (v := (2 : Int32)) C.1 C.2.1 dX1_init_35 hl rfl (by decide) (by decide) rfl hh) ?_
  refine cq_w (fun H locs ls hl hh => lv_goto (tgt := 15) C.1 C.2.1 dX1_init_38 (by decide) hh) ?_
  refine cq_w (fun H locs ls hl hh => lv_iload_n C.1 C.2.1 dX1_init_15 rfl (lv_at hl 0 rfl) hh) ?_
  refine cq_w (fun H locs ls hl hh => lv_bipush (v := (14 : Int32)) C.1 C.2.1 dX1_init_16 (by decide) hh) ?_
  refine cq_w (fun H locs ls hl hh => lv_icmp_ge (tgt := 41) C.1 C.2.1 dX1_init_18 (by decide) (fun hc => absurd hc (by decide)) (fun _ => hh)) ?_
  refine cq_w (fun H locs ls hl hh => lv_aload_n C.1 C.2.1 dX1_init_21 rfl (lv_at hl 1 rfl) hh) ?_
  refine cq_get1 (ci := 1) C dX1_init_22 [.ref (o + (a + 1)), .int 0, .int 0] (by omega) (by simp [va_up] <;> omega) rfl ct_inX1 (k := 0) (by decide) rfl mv_61 rfl ?_
  refine cq_w (fun H locs ls hl hh => lv_iload_n C.1 C.2.1 dX1_init_25 rfl (lv_at hl 0 rfl) hh) ?_
  refine cq_new (ci := 10) C dX1_init_26 [.null, .null, .null, .int 0, .null, .null, .null, .int 0] tyX10 tyX10_ok ct_inX10 mv_60 mv_62 mv_63 rfl (by decide +kernel) hlo (Nat.le_of_ble_eq_true rfl) (Nat.le_of_ble_eq_true rfl) ?_
  refine cq_w (fun H locs ls hl hh => lv_dup C.1 C.2.1 dX1_init_29 rfl hh) ?_
  refine cq_w (fun H locs ls hl hh => lv_aload_n C.1 C.2.1 dX1_init_30 rfl (lv_at hl 2 rfl) hh) ?_
  have kb64 : ct_K 10 (a + 106) := by
      have h1 := ct_e20 (i := 2) (ct_t1_0 ka) (by rw [cq_l1_1 ka]; decide)
      have h2 : ct_elW (a + 1) 2 = a + 106 := by unfold ct_elW; split <;> omega
      rw [h2] at h1
      exact h1
  have h5F65 : (va_up (va_up (cq_fin cy o a f) a (.inr (1, [.ref (o + (a + 1)), .int 0, .int 0]))) (a + 1) (.inl (cy 20, 14, .inr (.inr (.inr (.inr (cq_g 2 (fun i => some (o + (ct_elW (a + 1) i)))))))))) 5 = .inl (cy 18, 3, .inr (.inr (.inr (.inr (fun i => some (o + (5 + 6 + 5 * i))))))) := by
      rw [va_up_ne _ _ (by omega), va_up_ne _ _ (by omega)]
      unfold cq_fin
      rw [if_pos (by omega)]
      exact h5
  have h5g : ∀ k, k = 5 → (va_up (va_up (va_up (cq_fin cy o a f) a (.inr (1, [.ref (o + (a + 1)), .int 0, .int 0]))) (a + 1) (.inl (cy 20, 14, .inr (.inr (.inr (.inr (cq_g 2 (fun i => some (o + (ct_elW (a + 1) i)))))))))) (a + 106) (.inr (10, [.null, .null, .null, .int 0, .null, .null, .null, .int 0]))) k = .inl (cy 18, 3, .inr (.inr (.inr (.inr (fun i => some (o + (5 + 6 + 5 * i))))))) := by
      intro k hk
      subst hk
      rw [va_up_ne _ _ (by omega)]
      exact h5F65
  refine cq_call (b := a + 106) (sz := 52) (mc := 51) (ms := 231) (As := [.ref (o + 5)]) (rmg := rq_X10_init) C (c_X10_init l D cy o (a + 106) kb64 _ (va_up_self _ _ _) (h5g 5 rfl) (by omega)) dX1_init_31 ki_X1_17 (by omega) rfl rfl (Nat.le_of_ble_eq_true rfl) ⟨rfl, rfl, Nat.le_of_ble_eq_true rfl, Nat.le_of_ble_eq_true rfl⟩ ⟨Nat.le_of_ble_eq_true rfl, Nat.le_of_ble_eq_true rfl⟩ ?_
  refine cq_conv (va_up (va_up (cq_fin cy o a f) a (.inr (1, [.ref (o + (a + 1)), .int 0, .int 0]))) (a + 1) (.inl (cy 20, 14, .inr (.inr (.inr (.inr (cq_g 2 (fun i => some (o + (ct_elW (a + 1) i)))))))))) (fun k _ => cq_back (cq_ab_up (by omega) (cq_ab_up (by omega) (cq_ab_fin (by omega)))) k) ?_
  refine cq_num (N' := a + 158) (kc' := 157) (ks' := 731) rfl rfl rfl ?_
  have hb70 : ct_K 10 (a + 106) := by
      have h1 := ct_e20 (i := 2) (ct_t1_0 ka) (by rw [cq_l1_1 ka]; decide)
      have h2 : ct_elW (a + 1) 2 = a + 106 := by unfold ct_elW; split <;> omega
      rw [h2] at h1
      exact h1
  refine cq_aast (t0 := 7) (r := (RX10, TX10, 8)) (b := a + 106) C dX1_init_34 (cq_g 2 (fun i => some (o + (ct_elW (a + 1) i)))) (by omega) (by omega) (by rw [va_up_self]) rfl (by omega) (by rw [va_up_ne _ _ (by omega), va_up_ne _ _ (by omega)]; unfold cq_fin; rw [if_neg (by omega)]; exact ct_E10 hb70) rfl (by unfold vp_in; decide) ?_
  have hg72 : va_up (cq_g 2 (fun i => some (o + (ct_elW (a + 1) i)))) (2 : Int32).toNatClampNeg (some (o + (a + 106))) = cq_g 3 (fun i => some (o + (ct_elW (a + 1) i))) := by
      have h2 : (fun i => some (o + (ct_elW (a + 1) i))) 2 = some (o + (a + 106)) := by show some _ = some _; congr 2; unfold ct_elW; split <;> omega
      rw [← h2]; exact cq_g1 2 _
  rw [hg72]
  refine cq_conv (va_up (va_up (cq_fin cy o a f) a (.inr (1, [.ref (o + (a + 1)), .int 0, .int 0]))) (a + 1) (.inl (cy 20, 14, .inr (.inr (.inr (.inr (cq_g 3 (fun i => some (o + (ct_elW (a + 1) i)))))))))) (fun k _ => by simp only [va_up]; (repeat' split) <;> first | rfl | (exfalso; omega)) ?_
  refine cq_store (lv' := [(2, .int (3 : Int32)), (0, .ref (o + a)), (1, .ref (o + 5))]) (fun H locs ls hl hh => lv_iinc (k := 0) (v := (3 : Int32)) C.1 C.2.1 dX1_init_35 hl rfl (by decide) (by decide) rfl hh) ?_
  refine cq_w (fun H locs ls hl hh => lv_goto (tgt := 15) C.1 C.2.1 dX1_init_38 (by decide) hh) ?_
  refine cq_w (fun H locs ls hl hh => lv_iload_n C.1 C.2.1 dX1_init_15 rfl (lv_at hl 0 rfl) hh) ?_
  refine cq_w (fun H locs ls hl hh => lv_bipush (v := (14 : Int32)) C.1 C.2.1 dX1_init_16 (by decide) hh) ?_
  refine cq_w (fun H locs ls hl hh => lv_icmp_ge (tgt := 41) C.1 C.2.1 dX1_init_18 (by decide) (fun hc => absurd hc (by decide)) (fun _ => hh)) ?_
  refine cq_w (fun H locs ls hl hh => lv_aload_n C.1 C.2.1 dX1_init_21 rfl (lv_at hl 1 rfl) hh) ?_
  refine cq_get1 (ci := 1) C dX1_init_22 [.ref (o + (a + 1)), .int 0, .int 0] (by omega) (by simp [va_up] <;> omega) rfl ct_inX1 (k := 0) (by decide) rfl mv_61 rfl ?_
  refine cq_w (fun H locs ls hl hh => lv_iload_n C.1 C.2.1 dX1_init_25 rfl (lv_at hl 0 rfl) hh) ?_
  refine cq_new (ci := 10) C dX1_init_26 [.null, .null, .null, .int 0, .null, .null, .null, .int 0] tyX10 tyX10_ok ct_inX10 mv_60 mv_62 mv_63 rfl (by decide +kernel) hlo (Nat.le_of_ble_eq_true rfl) (Nat.le_of_ble_eq_true rfl) ?_
  refine cq_w (fun H locs ls hl hh => lv_dup C.1 C.2.1 dX1_init_29 rfl hh) ?_
  refine cq_w (fun H locs ls hl hh => lv_aload_n C.1 C.2.1 dX1_init_30 rfl (lv_at hl 2 rfl) hh) ?_
  have kb86 : ct_K 10 (a + 158) := by
      have h1 := ct_e20 (i := 3) (ct_t1_0 ka) (by rw [cq_l1_1 ka]; decide)
      have h2 : ct_elW (a + 1) 3 = a + 158 := by unfold ct_elW; split <;> omega
      rw [h2] at h1
      exact h1
  have h5F87 : (va_up (va_up (cq_fin cy o a f) a (.inr (1, [.ref (o + (a + 1)), .int 0, .int 0]))) (a + 1) (.inl (cy 20, 14, .inr (.inr (.inr (.inr (cq_g 3 (fun i => some (o + (ct_elW (a + 1) i)))))))))) 5 = .inl (cy 18, 3, .inr (.inr (.inr (.inr (fun i => some (o + (5 + 6 + 5 * i))))))) := by
      rw [va_up_ne _ _ (by omega), va_up_ne _ _ (by omega)]
      unfold cq_fin
      rw [if_pos (by omega)]
      exact h5
  have h5g : ∀ k, k = 5 → (va_up (va_up (va_up (cq_fin cy o a f) a (.inr (1, [.ref (o + (a + 1)), .int 0, .int 0]))) (a + 1) (.inl (cy 20, 14, .inr (.inr (.inr (.inr (cq_g 3 (fun i => some (o + (ct_elW (a + 1) i)))))))))) (a + 158) (.inr (10, [.null, .null, .null, .int 0, .null, .null, .null, .int 0]))) k = .inl (cy 18, 3, .inr (.inr (.inr (.inr (fun i => some (o + (5 + 6 + 5 * i))))))) := by
      intro k hk
      subst hk
      rw [va_up_ne _ _ (by omega)]
      exact h5F87
  refine cq_call (b := a + 158) (sz := 52) (mc := 51) (ms := 231) (As := [.ref (o + 5)]) (rmg := rq_X10_init) C (c_X10_init l D cy o (a + 158) kb86 _ (va_up_self _ _ _) (h5g 5 rfl) (by omega)) dX1_init_31 ki_X1_17 (by omega) rfl rfl (Nat.le_of_ble_eq_true rfl) ⟨rfl, rfl, Nat.le_of_ble_eq_true rfl, Nat.le_of_ble_eq_true rfl⟩ ⟨Nat.le_of_ble_eq_true rfl, Nat.le_of_ble_eq_true rfl⟩ ?_
  refine cq_conv (va_up (va_up (cq_fin cy o a f) a (.inr (1, [.ref (o + (a + 1)), .int 0, .int 0]))) (a + 1) (.inl (cy 20, 14, .inr (.inr (.inr (.inr (cq_g 3 (fun i => some (o + (ct_elW (a + 1) i)))))))))) (fun k _ => cq_back (cq_ab_up (by omega) (cq_ab_up (by omega) (cq_ab_fin (by omega)))) k) ?_
  refine cq_num (N' := a + 210) (kc' := 209) (ks' := 970) rfl rfl rfl ?_
  have hb92 : ct_K 10 (a + 158) := by
      have h1 := ct_e20 (i := 3) (ct_t1_0 ka) (by rw [cq_l1_1 ka]; decide)
      have h2 : ct_elW (a + 1) 3 = a + 158 := by unfold ct_elW; split <;> omega
      rw [h2] at h1
      exact h1
  refine cq_aast (t0 := 7) (r := (RX10, TX10, 8)) (b := a + 158) C dX1_init_34 (cq_g 3 (fun i => some (o + (ct_elW (a + 1) i)))) (by omega) (by omega) (by rw [va_up_self]) rfl (by omega) (by rw [va_up_ne _ _ (by omega), va_up_ne _ _ (by omega)]; unfold cq_fin; rw [if_neg (by omega)]; exact ct_E10 hb92) rfl (by unfold vp_in; decide) ?_
  have hg94 : va_up (cq_g 3 (fun i => some (o + (ct_elW (a + 1) i)))) (3 : Int32).toNatClampNeg (some (o + (a + 158))) = cq_g 4 (fun i => some (o + (ct_elW (a + 1) i))) := by
      have h2 : (fun i => some (o + (ct_elW (a + 1) i))) 3 = some (o + (a + 158)) := by show some _ = some _; congr 2; unfold ct_elW; split <;> omega
      rw [← h2]; exact cq_g1 3 _
  rw [hg94]
  refine cq_conv (va_up (va_up (cq_fin cy o a f) a (.inr (1, [.ref (o + (a + 1)), .int 0, .int 0]))) (a + 1) (.inl (cy 20, 14, .inr (.inr (.inr (.inr (cq_g 4 (fun i => some (o + (ct_elW (a + 1) i)))))))))) (fun k _ => by simp only [va_up]; (repeat' split) <;> first | rfl | (exfalso; omega)) ?_
  refine cq_store (lv' := [(2, .int (4 : Int32)), (0, .ref (o + a)), (1, .ref (o + 5))]) (fun H locs ls hl hh => lv_iinc (k := 0) (v := (4 : Int32)) C.1 C.2.1 dX1_init_35 hl rfl (by decide) (by decide) rfl hh) ?_
  refine cq_w (fun H locs ls hl hh => lv_goto (tgt := 15) C.1 C.2.1 dX1_init_38 (by decide) hh) ?_
  refine cq_w (fun H locs ls hl hh => lv_iload_n C.1 C.2.1 dX1_init_15 rfl (lv_at hl 0 rfl) hh) ?_
  refine cq_w (fun H locs ls hl hh => lv_bipush (v := (14 : Int32)) C.1 C.2.1 dX1_init_16 (by decide) hh) ?_
  refine cq_w (fun H locs ls hl hh => lv_icmp_ge (tgt := 41) C.1 C.2.1 dX1_init_18 (by decide) (fun hc => absurd hc (by decide)) (fun _ => hh)) ?_
  refine cq_w (fun H locs ls hl hh => lv_aload_n C.1 C.2.1 dX1_init_21 rfl (lv_at hl 1 rfl) hh) ?_
  refine cq_get1 (ci := 1) C dX1_init_22 [.ref (o + (a + 1)), .int 0, .int 0] (by omega) (by simp [va_up] <;> omega) rfl ct_inX1 (k := 0) (by decide) rfl mv_61 rfl ?_
  refine cq_w (fun H locs ls hl hh => lv_iload_n C.1 C.2.1 dX1_init_25 rfl (lv_at hl 0 rfl) hh) ?_
  refine cq_new (ci := 10) C dX1_init_26 [.null, .null, .null, .int 0, .null, .null, .null, .int 0] tyX10 tyX10_ok ct_inX10 mv_60 mv_62 mv_63 rfl (by decide +kernel) hlo (Nat.le_of_ble_eq_true rfl) (Nat.le_of_ble_eq_true rfl) ?_
  refine cq_w (fun H locs ls hl hh => lv_dup C.1 C.2.1 dX1_init_29 rfl hh) ?_
  refine cq_w (fun H locs ls hl hh => lv_aload_n C.1 C.2.1 dX1_init_30 rfl (lv_at hl 2 rfl) hh) ?_
  have kb108 : ct_K 10 (a + 210) := by
      have h1 := ct_e20 (i := 4) (ct_t1_0 ka) (by rw [cq_l1_1 ka]; decide)
      have h2 : ct_elW (a + 1) 4 = a + 210 := by unfold ct_elW; split <;> omega
      rw [h2] at h1
      exact h1
  have h5F109 : (va_up (va_up (cq_fin cy o a f) a (.inr (1, [.ref (o + (a + 1)), .int 0, .int 0]))) (a + 1) (.inl (cy 20, 14, .inr (.inr (.inr (.inr (cq_g 4 (fun i => some (o + (ct_elW (a + 1) i)))))))))) 5 = .inl (cy 18, 3, .inr (.inr (.inr (.inr (fun i => some (o + (5 + 6 + 5 * i))))))) := by
      rw [va_up_ne _ _ (by omega), va_up_ne _ _ (by omega)]
      unfold cq_fin
      rw [if_pos (by omega)]
      exact h5
  have h5g : ∀ k, k = 5 → (va_up (va_up (va_up (cq_fin cy o a f) a (.inr (1, [.ref (o + (a + 1)), .int 0, .int 0]))) (a + 1) (.inl (cy 20, 14, .inr (.inr (.inr (.inr (cq_g 4 (fun i => some (o + (ct_elW (a + 1) i)))))))))) (a + 210) (.inr (10, [.null, .null, .null, .int 0, .null, .null, .null, .int 0]))) k = .inl (cy 18, 3, .inr (.inr (.inr (.inr (fun i => some (o + (5 + 6 + 5 * i))))))) := by
      intro k hk
      subst hk
      rw [va_up_ne _ _ (by omega)]
      exact h5F109
  refine cq_call (b := a + 210) (sz := 52) (mc := 51) (ms := 231) (As := [.ref (o + 5)]) (rmg := rq_X10_init) C (c_X10_init l D cy o (a + 210) kb108 _ (va_up_self _ _ _) (h5g 5 rfl) (by omega)) dX1_init_31 ki_X1_17 (by omega) rfl rfl (Nat.le_of_ble_eq_true rfl) ⟨rfl, rfl, Nat.le_of_ble_eq_true rfl, Nat.le_of_ble_eq_true rfl⟩ ⟨Nat.le_of_ble_eq_true rfl, Nat.le_of_ble_eq_true rfl⟩ ?_
  refine cq_conv (va_up (va_up (cq_fin cy o a f) a (.inr (1, [.ref (o + (a + 1)), .int 0, .int 0]))) (a + 1) (.inl (cy 20, 14, .inr (.inr (.inr (.inr (cq_g 4 (fun i => some (o + (ct_elW (a + 1) i)))))))))) (fun k _ => cq_back (cq_ab_up (by omega) (cq_ab_up (by omega) (cq_ab_fin (by omega)))) k) ?_
  refine cq_num (N' := a + 262) (kc' := 261) (ks' := 1209) rfl rfl rfl ?_
  have hb114 : ct_K 10 (a + 210) := by
      have h1 := ct_e20 (i := 4) (ct_t1_0 ka) (by rw [cq_l1_1 ka]; decide)
      have h2 : ct_elW (a + 1) 4 = a + 210 := by unfold ct_elW; split <;> omega
      rw [h2] at h1
      exact h1
  refine cq_aast (t0 := 7) (r := (RX10, TX10, 8)) (b := a + 210) C dX1_init_34 (cq_g 4 (fun i => some (o + (ct_elW (a + 1) i)))) (by omega) (by omega) (by rw [va_up_self]) rfl (by omega) (by rw [va_up_ne _ _ (by omega), va_up_ne _ _ (by omega)]; unfold cq_fin; rw [if_neg (by omega)]; exact ct_E10 hb114) rfl (by unfold vp_in; decide) ?_
  have hg116 : va_up (cq_g 4 (fun i => some (o + (ct_elW (a + 1) i)))) (4 : Int32).toNatClampNeg (some (o + (a + 210))) = cq_g 5 (fun i => some (o + (ct_elW (a + 1) i))) := by
      have h2 : (fun i => some (o + (ct_elW (a + 1) i))) 4 = some (o + (a + 210)) := by show some _ = some _; congr 2; unfold ct_elW; split <;> omega
      rw [← h2]; exact cq_g1 4 _
  rw [hg116]
  refine cq_conv (va_up (va_up (cq_fin cy o a f) a (.inr (1, [.ref (o + (a + 1)), .int 0, .int 0]))) (a + 1) (.inl (cy 20, 14, .inr (.inr (.inr (.inr (cq_g 5 (fun i => some (o + (ct_elW (a + 1) i)))))))))) (fun k _ => by simp only [va_up]; (repeat' split) <;> first | rfl | (exfalso; omega)) ?_
  refine cq_store (lv' := [(2, .int (5 : Int32)), (0, .ref (o + a)), (1, .ref (o + 5))]) (fun H locs ls hl hh => lv_iinc (k := 0) (v := (5 : Int32)) C.1 C.2.1 dX1_init_35 hl rfl (by decide) (by decide) rfl hh) ?_
  refine cq_w (fun H locs ls hl hh => lv_goto (tgt := 15) C.1 C.2.1 dX1_init_38 (by decide) hh) ?_
  refine cq_w (fun H locs ls hl hh => lv_iload_n C.1 C.2.1 dX1_init_15 rfl (lv_at hl 0 rfl) hh) ?_
  refine cq_w (fun H locs ls hl hh => lv_bipush (v := (14 : Int32)) C.1 C.2.1 dX1_init_16 (by decide) hh) ?_
  refine cq_w (fun H locs ls hl hh => lv_icmp_ge (tgt := 41) C.1 C.2.1 dX1_init_18 (by decide) (fun hc => absurd hc (by decide)) (fun _ => hh)) ?_
  refine cq_w (fun H locs ls hl hh => lv_aload_n C.1 C.2.1 dX1_init_21 rfl (lv_at hl 1 rfl) hh) ?_
  refine cq_get1 (ci := 1) C dX1_init_22 [.ref (o + (a + 1)), .int 0, .int 0] (by omega) (by simp [va_up] <;> omega) rfl ct_inX1 (k := 0) (by decide) rfl mv_61 rfl ?_
  refine cq_w (fun H locs ls hl hh => lv_iload_n C.1 C.2.1 dX1_init_25 rfl (lv_at hl 0 rfl) hh) ?_
  refine cq_new (ci := 10) C dX1_init_26 [.null, .null, .null, .int 0, .null, .null, .null, .int 0] tyX10 tyX10_ok ct_inX10 mv_60 mv_62 mv_63 rfl (by decide +kernel) hlo (Nat.le_of_ble_eq_true rfl) (Nat.le_of_ble_eq_true rfl) ?_
  refine cq_w (fun H locs ls hl hh => lv_dup C.1 C.2.1 dX1_init_29 rfl hh) ?_
  refine cq_w (fun H locs ls hl hh => lv_aload_n C.1 C.2.1 dX1_init_30 rfl (lv_at hl 2 rfl) hh) ?_
  have kb130 : ct_K 10 (a + 262) := by
      have h1 := ct_e20 (i := 5) (ct_t1_0 ka) (by rw [cq_l1_1 ka]; decide)
      have h2 : ct_elW (a + 1) 5 = a + 262 := by unfold ct_elW; split <;> omega
      rw [h2] at h1
      exact h1
  have h5F131 : (va_up (va_up (cq_fin cy o a f) a (.inr (1, [.ref (o + (a + 1)), .int 0, .int 0]))) (a + 1) (.inl (cy 20, 14, .inr (.inr (.inr (.inr (cq_g 5 (fun i => some (o + (ct_elW (a + 1) i)))))))))) 5 = .inl (cy 18, 3, .inr (.inr (.inr (.inr (fun i => some (o + (5 + 6 + 5 * i))))))) := by
      rw [va_up_ne _ _ (by omega), va_up_ne _ _ (by omega)]
      unfold cq_fin
      rw [if_pos (by omega)]
      exact h5
  have h5g : ∀ k, k = 5 → (va_up (va_up (va_up (cq_fin cy o a f) a (.inr (1, [.ref (o + (a + 1)), .int 0, .int 0]))) (a + 1) (.inl (cy 20, 14, .inr (.inr (.inr (.inr (cq_g 5 (fun i => some (o + (ct_elW (a + 1) i)))))))))) (a + 262) (.inr (10, [.null, .null, .null, .int 0, .null, .null, .null, .int 0]))) k = .inl (cy 18, 3, .inr (.inr (.inr (.inr (fun i => some (o + (5 + 6 + 5 * i))))))) := by
      intro k hk
      subst hk
      rw [va_up_ne _ _ (by omega)]
      exact h5F131
  refine cq_call (b := a + 262) (sz := 52) (mc := 51) (ms := 231) (As := [.ref (o + 5)]) (rmg := rq_X10_init) C (c_X10_init l D cy o (a + 262) kb130 _ (va_up_self _ _ _) (h5g 5 rfl) (by omega)) dX1_init_31 ki_X1_17 (by omega) rfl rfl (Nat.le_of_ble_eq_true rfl) ⟨rfl, rfl, Nat.le_of_ble_eq_true rfl, Nat.le_of_ble_eq_true rfl⟩ ⟨Nat.le_of_ble_eq_true rfl, Nat.le_of_ble_eq_true rfl⟩ ?_
  refine cq_conv (va_up (va_up (cq_fin cy o a f) a (.inr (1, [.ref (o + (a + 1)), .int 0, .int 0]))) (a + 1) (.inl (cy 20, 14, .inr (.inr (.inr (.inr (cq_g 5 (fun i => some (o + (ct_elW (a + 1) i)))))))))) (fun k _ => cq_back (cq_ab_up (by omega) (cq_ab_up (by omega) (cq_ab_fin (by omega)))) k) ?_
  refine cq_num (N' := a + 314) (kc' := 313) (ks' := 1448) rfl rfl rfl ?_
  have hb136 : ct_K 10 (a + 262) := by
      have h1 := ct_e20 (i := 5) (ct_t1_0 ka) (by rw [cq_l1_1 ka]; decide)
      have h2 : ct_elW (a + 1) 5 = a + 262 := by unfold ct_elW; split <;> omega
      rw [h2] at h1
      exact h1
  refine cq_aast (t0 := 7) (r := (RX10, TX10, 8)) (b := a + 262) C dX1_init_34 (cq_g 5 (fun i => some (o + (ct_elW (a + 1) i)))) (by omega) (by omega) (by rw [va_up_self]) rfl (by omega) (by rw [va_up_ne _ _ (by omega), va_up_ne _ _ (by omega)]; unfold cq_fin; rw [if_neg (by omega)]; exact ct_E10 hb136) rfl (by unfold vp_in; decide) ?_
  have hg138 : va_up (cq_g 5 (fun i => some (o + (ct_elW (a + 1) i)))) (5 : Int32).toNatClampNeg (some (o + (a + 262))) = cq_g 6 (fun i => some (o + (ct_elW (a + 1) i))) := by
      have h2 : (fun i => some (o + (ct_elW (a + 1) i))) 5 = some (o + (a + 262)) := by show some _ = some _; congr 2; unfold ct_elW; split <;> omega
      rw [← h2]; exact cq_g1 5 _
  rw [hg138]
  refine cq_conv (va_up (va_up (cq_fin cy o a f) a (.inr (1, [.ref (o + (a + 1)), .int 0, .int 0]))) (a + 1) (.inl (cy 20, 14, .inr (.inr (.inr (.inr (cq_g 6 (fun i => some (o + (ct_elW (a + 1) i)))))))))) (fun k _ => by simp only [va_up]; (repeat' split) <;> first | rfl | (exfalso; omega)) ?_
  refine cq_store (lv' := [(2, .int (6 : Int32)), (0, .ref (o + a)), (1, .ref (o + 5))]) (fun H locs ls hl hh => lv_iinc (k := 0) (v := (6 : Int32)) C.1 C.2.1 dX1_init_35 hl rfl (by decide) (by decide) rfl hh) ?_
  refine cq_w (fun H locs ls hl hh => lv_goto (tgt := 15) C.1 C.2.1 dX1_init_38 (by decide) hh) ?_
  refine cq_w (fun H locs ls hl hh => lv_iload_n C.1 C.2.1 dX1_init_15 rfl (lv_at hl 0 rfl) hh) ?_
  refine cq_w (fun H locs ls hl hh => lv_bipush (v := (14 : Int32)) C.1 C.2.1 dX1_init_16 (by decide) hh) ?_
  refine cq_w (fun H locs ls hl hh => lv_icmp_ge (tgt := 41) C.1 C.2.1 dX1_init_18 (by decide) (fun hc => absurd hc (by decide)) (fun _ => hh)) ?_
  refine cq_w (fun H locs ls hl hh => lv_aload_n C.1 C.2.1 dX1_init_21 rfl (lv_at hl 1 rfl) hh) ?_
  refine cq_get1 (ci := 1) C dX1_init_22 [.ref (o + (a + 1)), .int 0, .int 0] (by omega) (by simp [va_up] <;> omega) rfl ct_inX1 (k := 0) (by decide) rfl mv_61 rfl ?_
  refine cq_w (fun H locs ls hl hh => lv_iload_n C.1 C.2.1 dX1_init_25 rfl (lv_at hl 0 rfl) hh) ?_
  refine cq_new (ci := 10) C dX1_init_26 [.null, .null, .null, .int 0, .null, .null, .null, .int 0] tyX10 tyX10_ok ct_inX10 mv_60 mv_62 mv_63 rfl (by decide +kernel) hlo (Nat.le_of_ble_eq_true rfl) (Nat.le_of_ble_eq_true rfl) ?_
  refine cq_w (fun H locs ls hl hh => lv_dup C.1 C.2.1 dX1_init_29 rfl hh) ?_
  refine cq_w (fun H locs ls hl hh => lv_aload_n C.1 C.2.1 dX1_init_30 rfl (lv_at hl 2 rfl) hh) ?_
  have kb152 : ct_K 10 (a + 314) := by
      have h1 := ct_e20 (i := 6) (ct_t1_0 ka) (by rw [cq_l1_1 ka]; decide)
      have h2 : ct_elW (a + 1) 6 = a + 314 := by unfold ct_elW; split <;> omega
      rw [h2] at h1
      exact h1
  have h5F153 : (va_up (va_up (cq_fin cy o a f) a (.inr (1, [.ref (o + (a + 1)), .int 0, .int 0]))) (a + 1) (.inl (cy 20, 14, .inr (.inr (.inr (.inr (cq_g 6 (fun i => some (o + (ct_elW (a + 1) i)))))))))) 5 = .inl (cy 18, 3, .inr (.inr (.inr (.inr (fun i => some (o + (5 + 6 + 5 * i))))))) := by
      rw [va_up_ne _ _ (by omega), va_up_ne _ _ (by omega)]
      unfold cq_fin
      rw [if_pos (by omega)]
      exact h5
  have h5g : ∀ k, k = 5 → (va_up (va_up (va_up (cq_fin cy o a f) a (.inr (1, [.ref (o + (a + 1)), .int 0, .int 0]))) (a + 1) (.inl (cy 20, 14, .inr (.inr (.inr (.inr (cq_g 6 (fun i => some (o + (ct_elW (a + 1) i)))))))))) (a + 314) (.inr (10, [.null, .null, .null, .int 0, .null, .null, .null, .int 0]))) k = .inl (cy 18, 3, .inr (.inr (.inr (.inr (fun i => some (o + (5 + 6 + 5 * i))))))) := by
      intro k hk
      subst hk
      rw [va_up_ne _ _ (by omega)]
      exact h5F153
  refine cq_call (b := a + 314) (sz := 52) (mc := 51) (ms := 231) (As := [.ref (o + 5)]) (rmg := rq_X10_init) C (c_X10_init l D cy o (a + 314) kb152 _ (va_up_self _ _ _) (h5g 5 rfl) (by omega)) dX1_init_31 ki_X1_17 (by omega) rfl rfl (Nat.le_of_ble_eq_true rfl) ⟨rfl, rfl, Nat.le_of_ble_eq_true rfl, Nat.le_of_ble_eq_true rfl⟩ ⟨Nat.le_of_ble_eq_true rfl, Nat.le_of_ble_eq_true rfl⟩ ?_
  refine cq_conv (va_up (va_up (cq_fin cy o a f) a (.inr (1, [.ref (o + (a + 1)), .int 0, .int 0]))) (a + 1) (.inl (cy 20, 14, .inr (.inr (.inr (.inr (cq_g 6 (fun i => some (o + (ct_elW (a + 1) i)))))))))) (fun k _ => cq_back (cq_ab_up (by omega) (cq_ab_up (by omega) (cq_ab_fin (by omega)))) k) ?_
  refine cq_num (N' := a + 366) (kc' := 365) (ks' := 1687) rfl rfl rfl ?_
  have hb158 : ct_K 10 (a + 314) := by
      have h1 := ct_e20 (i := 6) (ct_t1_0 ka) (by rw [cq_l1_1 ka]; decide)
      have h2 : ct_elW (a + 1) 6 = a + 314 := by unfold ct_elW; split <;> omega
      rw [h2] at h1
      exact h1
  refine cq_aast (t0 := 7) (r := (RX10, TX10, 8)) (b := a + 314) C dX1_init_34 (cq_g 6 (fun i => some (o + (ct_elW (a + 1) i)))) (by omega) (by omega) (by rw [va_up_self]) rfl (by omega) (by rw [va_up_ne _ _ (by omega), va_up_ne _ _ (by omega)]; unfold cq_fin; rw [if_neg (by omega)]; exact ct_E10 hb158) rfl (by unfold vp_in; decide) ?_
  have hg160 : va_up (cq_g 6 (fun i => some (o + (ct_elW (a + 1) i)))) (6 : Int32).toNatClampNeg (some (o + (a + 314))) = cq_g 7 (fun i => some (o + (ct_elW (a + 1) i))) := by
      have h2 : (fun i => some (o + (ct_elW (a + 1) i))) 6 = some (o + (a + 314)) := by show some _ = some _; congr 2; unfold ct_elW; split <;> omega
      rw [← h2]; exact cq_g1 6 _
  rw [hg160]
  refine cq_conv (va_up (va_up (cq_fin cy o a f) a (.inr (1, [.ref (o + (a + 1)), .int 0, .int 0]))) (a + 1) (.inl (cy 20, 14, .inr (.inr (.inr (.inr (cq_g 7 (fun i => some (o + (ct_elW (a + 1) i)))))))))) (fun k _ => by simp only [va_up]; (repeat' split) <;> first | rfl | (exfalso; omega)) ?_
  refine cq_store (lv' := [(2, .int (7 : Int32)), (0, .ref (o + a)), (1, .ref (o + 5))]) (fun H locs ls hl hh => lv_iinc (k := 0) (v := (7 : Int32)) C.1 C.2.1 dX1_init_35 hl rfl (by decide) (by decide) rfl hh) ?_
  refine cq_w (fun H locs ls hl hh => lv_goto (tgt := 15) C.1 C.2.1 dX1_init_38 (by decide) hh) ?_
  refine cq_w (fun H locs ls hl hh => lv_iload_n C.1 C.2.1 dX1_init_15 rfl (lv_at hl 0 rfl) hh) ?_
  refine cq_w (fun H locs ls hl hh => lv_bipush (v := (14 : Int32)) C.1 C.2.1 dX1_init_16 (by decide) hh) ?_
  refine cq_w (fun H locs ls hl hh => lv_icmp_ge (tgt := 41) C.1 C.2.1 dX1_init_18 (by decide) (fun hc => absurd hc (by decide)) (fun _ => hh)) ?_
  refine cq_w (fun H locs ls hl hh => lv_aload_n C.1 C.2.1 dX1_init_21 rfl (lv_at hl 1 rfl) hh) ?_
  refine cq_get1 (ci := 1) C dX1_init_22 [.ref (o + (a + 1)), .int 0, .int 0] (by omega) (by simp [va_up] <;> omega) rfl ct_inX1 (k := 0) (by decide) rfl mv_61 rfl ?_
  refine cq_w (fun H locs ls hl hh => lv_iload_n C.1 C.2.1 dX1_init_25 rfl (lv_at hl 0 rfl) hh) ?_
  refine cq_new (ci := 10) C dX1_init_26 [.null, .null, .null, .int 0, .null, .null, .null, .int 0] tyX10 tyX10_ok ct_inX10 mv_60 mv_62 mv_63 rfl (by decide +kernel) hlo (Nat.le_of_ble_eq_true rfl) (Nat.le_of_ble_eq_true rfl) ?_
  refine cq_w (fun H locs ls hl hh => lv_dup C.1 C.2.1 dX1_init_29 rfl hh) ?_
  refine cq_w (fun H locs ls hl hh => lv_aload_n C.1 C.2.1 dX1_init_30 rfl (lv_at hl 2 rfl) hh) ?_
  have kb174 : ct_K 10 (a + 366) := by
      have h1 := ct_e20 (i := 7) (ct_t1_0 ka) (by rw [cq_l1_1 ka]; decide)
      have h2 : ct_elW (a + 1) 7 = a + 366 := by unfold ct_elW; split <;> omega
      rw [h2] at h1
      exact h1
  have h5F175 : (va_up (va_up (cq_fin cy o a f) a (.inr (1, [.ref (o + (a + 1)), .int 0, .int 0]))) (a + 1) (.inl (cy 20, 14, .inr (.inr (.inr (.inr (cq_g 7 (fun i => some (o + (ct_elW (a + 1) i)))))))))) 5 = .inl (cy 18, 3, .inr (.inr (.inr (.inr (fun i => some (o + (5 + 6 + 5 * i))))))) := by
      rw [va_up_ne _ _ (by omega), va_up_ne _ _ (by omega)]
      unfold cq_fin
      rw [if_pos (by omega)]
      exact h5
  have h5g : ∀ k, k = 5 → (va_up (va_up (va_up (cq_fin cy o a f) a (.inr (1, [.ref (o + (a + 1)), .int 0, .int 0]))) (a + 1) (.inl (cy 20, 14, .inr (.inr (.inr (.inr (cq_g 7 (fun i => some (o + (ct_elW (a + 1) i)))))))))) (a + 366) (.inr (10, [.null, .null, .null, .int 0, .null, .null, .null, .int 0]))) k = .inl (cy 18, 3, .inr (.inr (.inr (.inr (fun i => some (o + (5 + 6 + 5 * i))))))) := by
      intro k hk
      subst hk
      rw [va_up_ne _ _ (by omega)]
      exact h5F175
  refine cq_call (b := a + 366) (sz := 52) (mc := 51) (ms := 231) (As := [.ref (o + 5)]) (rmg := rq_X10_init) C (c_X10_init l D cy o (a + 366) kb174 _ (va_up_self _ _ _) (h5g 5 rfl) (by omega)) dX1_init_31 ki_X1_17 (by omega) rfl rfl (Nat.le_of_ble_eq_true rfl) ⟨rfl, rfl, Nat.le_of_ble_eq_true rfl, Nat.le_of_ble_eq_true rfl⟩ ⟨Nat.le_of_ble_eq_true rfl, Nat.le_of_ble_eq_true rfl⟩ ?_
  refine cq_conv (va_up (va_up (cq_fin cy o a f) a (.inr (1, [.ref (o + (a + 1)), .int 0, .int 0]))) (a + 1) (.inl (cy 20, 14, .inr (.inr (.inr (.inr (cq_g 7 (fun i => some (o + (ct_elW (a + 1) i)))))))))) (fun k _ => cq_back (cq_ab_up (by omega) (cq_ab_up (by omega) (cq_ab_fin (by omega)))) k) ?_
  refine cq_num (N' := a + 418) (kc' := 417) (ks' := 1926) rfl rfl rfl ?_
  have hb180 : ct_K 10 (a + 366) := by
      have h1 := ct_e20 (i := 7) (ct_t1_0 ka) (by rw [cq_l1_1 ka]; decide)
      have h2 : ct_elW (a + 1) 7 = a + 366 := by unfold ct_elW; split <;> omega
      rw [h2] at h1
      exact h1
  refine cq_aast (t0 := 7) (r := (RX10, TX10, 8)) (b := a + 366) C dX1_init_34 (cq_g 7 (fun i => some (o + (ct_elW (a + 1) i)))) (by omega) (by omega) (by rw [va_up_self]) rfl (by omega) (by rw [va_up_ne _ _ (by omega), va_up_ne _ _ (by omega)]; unfold cq_fin; rw [if_neg (by omega)]; exact ct_E10 hb180) rfl (by unfold vp_in; decide) ?_
  have hg182 : va_up (cq_g 7 (fun i => some (o + (ct_elW (a + 1) i)))) (7 : Int32).toNatClampNeg (some (o + (a + 366))) = cq_g 8 (fun i => some (o + (ct_elW (a + 1) i))) := by
      have h2 : (fun i => some (o + (ct_elW (a + 1) i))) 7 = some (o + (a + 366)) := by show some _ = some _; congr 2; unfold ct_elW; split <;> omega
      rw [← h2]; exact cq_g1 7 _
  rw [hg182]
  refine cq_conv (va_up (va_up (cq_fin cy o a f) a (.inr (1, [.ref (o + (a + 1)), .int 0, .int 0]))) (a + 1) (.inl (cy 20, 14, .inr (.inr (.inr (.inr (cq_g 8 (fun i => some (o + (ct_elW (a + 1) i)))))))))) (fun k _ => by simp only [va_up]; (repeat' split) <;> first | rfl | (exfalso; omega)) ?_
  refine cq_store (lv' := [(2, .int (8 : Int32)), (0, .ref (o + a)), (1, .ref (o + 5))]) (fun H locs ls hl hh => lv_iinc (k := 0) (v := (8 : Int32)) C.1 C.2.1 dX1_init_35 hl rfl (by decide) (by decide) rfl hh) ?_
  refine cq_w (fun H locs ls hl hh => lv_goto (tgt := 15) C.1 C.2.1 dX1_init_38 (by decide) hh) ?_
  refine cq_w (fun H locs ls hl hh => lv_iload_n C.1 C.2.1 dX1_init_15 rfl (lv_at hl 0 rfl) hh) ?_
  refine cq_w (fun H locs ls hl hh => lv_bipush (v := (14 : Int32)) C.1 C.2.1 dX1_init_16 (by decide) hh) ?_
  refine cq_w (fun H locs ls hl hh => lv_icmp_ge (tgt := 41) C.1 C.2.1 dX1_init_18 (by decide) (fun hc => absurd hc (by decide)) (fun _ => hh)) ?_
  refine cq_w (fun H locs ls hl hh => lv_aload_n C.1 C.2.1 dX1_init_21 rfl (lv_at hl 1 rfl) hh) ?_
  refine cq_get1 (ci := 1) C dX1_init_22 [.ref (o + (a + 1)), .int 0, .int 0] (by omega) (by simp [va_up] <;> omega) rfl ct_inX1 (k := 0) (by decide) rfl mv_61 rfl ?_
  refine cq_w (fun H locs ls hl hh => lv_iload_n C.1 C.2.1 dX1_init_25 rfl (lv_at hl 0 rfl) hh) ?_
  refine cq_new (ci := 10) C dX1_init_26 [.null, .null, .null, .int 0, .null, .null, .null, .int 0] tyX10 tyX10_ok ct_inX10 mv_60 mv_62 mv_63 rfl (by decide +kernel) hlo (Nat.le_of_ble_eq_true rfl) (Nat.le_of_ble_eq_true rfl) ?_
  refine cq_w (fun H locs ls hl hh => lv_dup C.1 C.2.1 dX1_init_29 rfl hh) ?_
  refine cq_w (fun H locs ls hl hh => lv_aload_n C.1 C.2.1 dX1_init_30 rfl (lv_at hl 2 rfl) hh) ?_
  have kb196 : ct_K 10 (a + 418) := by
      have h1 := ct_e20 (i := 8) (ct_t1_0 ka) (by rw [cq_l1_1 ka]; decide)
      have h2 : ct_elW (a + 1) 8 = a + 418 := by unfold ct_elW; split <;> omega
      rw [h2] at h1
      exact h1
  have h5F197 : (va_up (va_up (cq_fin cy o a f) a (.inr (1, [.ref (o + (a + 1)), .int 0, .int 0]))) (a + 1) (.inl (cy 20, 14, .inr (.inr (.inr (.inr (cq_g 8 (fun i => some (o + (ct_elW (a + 1) i)))))))))) 5 = .inl (cy 18, 3, .inr (.inr (.inr (.inr (fun i => some (o + (5 + 6 + 5 * i))))))) := by
      rw [va_up_ne _ _ (by omega), va_up_ne _ _ (by omega)]
      unfold cq_fin
      rw [if_pos (by omega)]
      exact h5
  have h5g : ∀ k, k = 5 → (va_up (va_up (va_up (cq_fin cy o a f) a (.inr (1, [.ref (o + (a + 1)), .int 0, .int 0]))) (a + 1) (.inl (cy 20, 14, .inr (.inr (.inr (.inr (cq_g 8 (fun i => some (o + (ct_elW (a + 1) i)))))))))) (a + 418) (.inr (10, [.null, .null, .null, .int 0, .null, .null, .null, .int 0]))) k = .inl (cy 18, 3, .inr (.inr (.inr (.inr (fun i => some (o + (5 + 6 + 5 * i))))))) := by
      intro k hk
      subst hk
      rw [va_up_ne _ _ (by omega)]
      exact h5F197
  refine cq_call (b := a + 418) (sz := 52) (mc := 51) (ms := 231) (As := [.ref (o + 5)]) (rmg := rq_X10_init) C (c_X10_init l D cy o (a + 418) kb196 _ (va_up_self _ _ _) (h5g 5 rfl) (by omega)) dX1_init_31 ki_X1_17 (by omega) rfl rfl (Nat.le_of_ble_eq_true rfl) ⟨rfl, rfl, Nat.le_of_ble_eq_true rfl, Nat.le_of_ble_eq_true rfl⟩ ⟨Nat.le_of_ble_eq_true rfl, Nat.le_of_ble_eq_true rfl⟩ ?_
  refine cq_conv (va_up (va_up (cq_fin cy o a f) a (.inr (1, [.ref (o + (a + 1)), .int 0, .int 0]))) (a + 1) (.inl (cy 20, 14, .inr (.inr (.inr (.inr (cq_g 8 (fun i => some (o + (ct_elW (a + 1) i)))))))))) (fun k _ => cq_back (cq_ab_up (by omega) (cq_ab_up (by omega) (cq_ab_fin (by omega)))) k) ?_
  refine cq_num (N' := a + 470) (kc' := 469) (ks' := 2165) rfl rfl rfl ?_
  have hb202 : ct_K 10 (a + 418) := by
      have h1 := ct_e20 (i := 8) (ct_t1_0 ka) (by rw [cq_l1_1 ka]; decide)
      have h2 : ct_elW (a + 1) 8 = a + 418 := by unfold ct_elW; split <;> omega
      rw [h2] at h1
      exact h1
  refine cq_aast (t0 := 7) (r := (RX10, TX10, 8)) (b := a + 418) C dX1_init_34 (cq_g 8 (fun i => some (o + (ct_elW (a + 1) i)))) (by omega) (by omega) (by rw [va_up_self]) rfl (by omega) (by rw [va_up_ne _ _ (by omega), va_up_ne _ _ (by omega)]; unfold cq_fin; rw [if_neg (by omega)]; exact ct_E10 hb202) rfl (by unfold vp_in; decide) ?_
  have hg204 : va_up (cq_g 8 (fun i => some (o + (ct_elW (a + 1) i)))) (8 : Int32).toNatClampNeg (some (o + (a + 418))) = cq_g 9 (fun i => some (o + (ct_elW (a + 1) i))) := by
      have h2 : (fun i => some (o + (ct_elW (a + 1) i))) 8 = some (o + (a + 418)) := by show some _ = some _; congr 2; unfold ct_elW; split <;> omega
      rw [← h2]; exact cq_g1 8 _
  rw [hg204]
  refine cq_conv (va_up (va_up (cq_fin cy o a f) a (.inr (1, [.ref (o + (a + 1)), .int 0, .int 0]))) (a + 1) (.inl (cy 20, 14, .inr (.inr (.inr (.inr (cq_g 9 (fun i => some (o + (ct_elW (a + 1) i)))))))))) (fun k _ => by simp only [va_up]; (repeat' split) <;> first | rfl | (exfalso; omega)) ?_
  refine cq_store (lv' := [(2, .int (9 : Int32)), (0, .ref (o + a)), (1, .ref (o + 5))]) (fun H locs ls hl hh => lv_iinc (k := 0) (v := (9 : Int32)) C.1 C.2.1 dX1_init_35 hl rfl (by decide) (by decide) rfl hh) ?_
  refine cq_w (fun H locs ls hl hh => lv_goto (tgt := 15) C.1 C.2.1 dX1_init_38 (by decide) hh) ?_
  refine cq_w (fun H locs ls hl hh => lv_iload_n C.1 C.2.1 dX1_init_15 rfl (lv_at hl 0 rfl) hh) ?_
  refine cq_w (fun H locs ls hl hh => lv_bipush (v := (14 : Int32)) C.1 C.2.1 dX1_init_16 (by decide) hh) ?_
  refine cq_w (fun H locs ls hl hh => lv_icmp_ge (tgt := 41) C.1 C.2.1 dX1_init_18 (by decide) (fun hc => absurd hc (by decide)) (fun _ => hh)) ?_
  refine cq_w (fun H locs ls hl hh => lv_aload_n C.1 C.2.1 dX1_init_21 rfl (lv_at hl 1 rfl) hh) ?_
  refine cq_get1 (ci := 1) C dX1_init_22 [.ref (o + (a + 1)), .int 0, .int 0] (by omega) (by simp [va_up] <;> omega) rfl ct_inX1 (k := 0) (by decide) rfl mv_61 rfl ?_
  refine cq_w (fun H locs ls hl hh => lv_iload_n C.1 C.2.1 dX1_init_25 rfl (lv_at hl 0 rfl) hh) ?_
  refine cq_new (ci := 10) C dX1_init_26 [.null, .null, .null, .int 0, .null, .null, .null, .int 0] tyX10 tyX10_ok ct_inX10 mv_60 mv_62 mv_63 rfl (by decide +kernel) hlo (Nat.le_of_ble_eq_true rfl) (Nat.le_of_ble_eq_true rfl) ?_
  refine cq_w (fun H locs ls hl hh => lv_dup C.1 C.2.1 dX1_init_29 rfl hh) ?_
  refine cq_w (fun H locs ls hl hh => lv_aload_n C.1 C.2.1 dX1_init_30 rfl (lv_at hl 2 rfl) hh) ?_
  have kb218 : ct_K 10 (a + 470) := by
      have h1 := ct_e20 (i := 9) (ct_t1_0 ka) (by rw [cq_l1_1 ka]; decide)
      have h2 : ct_elW (a + 1) 9 = a + 470 := by unfold ct_elW; split <;> omega
      rw [h2] at h1
      exact h1
  have h5F219 : (va_up (va_up (cq_fin cy o a f) a (.inr (1, [.ref (o + (a + 1)), .int 0, .int 0]))) (a + 1) (.inl (cy 20, 14, .inr (.inr (.inr (.inr (cq_g 9 (fun i => some (o + (ct_elW (a + 1) i)))))))))) 5 = .inl (cy 18, 3, .inr (.inr (.inr (.inr (fun i => some (o + (5 + 6 + 5 * i))))))) := by
      rw [va_up_ne _ _ (by omega), va_up_ne _ _ (by omega)]
      unfold cq_fin
      rw [if_pos (by omega)]
      exact h5
  have h5g : ∀ k, k = 5 → (va_up (va_up (va_up (cq_fin cy o a f) a (.inr (1, [.ref (o + (a + 1)), .int 0, .int 0]))) (a + 1) (.inl (cy 20, 14, .inr (.inr (.inr (.inr (cq_g 9 (fun i => some (o + (ct_elW (a + 1) i)))))))))) (a + 470) (.inr (10, [.null, .null, .null, .int 0, .null, .null, .null, .int 0]))) k = .inl (cy 18, 3, .inr (.inr (.inr (.inr (fun i => some (o + (5 + 6 + 5 * i))))))) := by
      intro k hk
      subst hk
      rw [va_up_ne _ _ (by omega)]
      exact h5F219
  refine cq_call (b := a + 470) (sz := 52) (mc := 51) (ms := 231) (As := [.ref (o + 5)]) (rmg := rq_X10_init) C (c_X10_init l D cy o (a + 470) kb218 _ (va_up_self _ _ _) (h5g 5 rfl) (by omega)) dX1_init_31 ki_X1_17 (by omega) rfl rfl (Nat.le_of_ble_eq_true rfl) ⟨rfl, rfl, Nat.le_of_ble_eq_true rfl, Nat.le_of_ble_eq_true rfl⟩ ⟨Nat.le_of_ble_eq_true rfl, Nat.le_of_ble_eq_true rfl⟩ ?_
  refine cq_conv (va_up (va_up (cq_fin cy o a f) a (.inr (1, [.ref (o + (a + 1)), .int 0, .int 0]))) (a + 1) (.inl (cy 20, 14, .inr (.inr (.inr (.inr (cq_g 9 (fun i => some (o + (ct_elW (a + 1) i)))))))))) (fun k _ => cq_back (cq_ab_up (by omega) (cq_ab_up (by omega) (cq_ab_fin (by omega)))) k) ?_
  refine cq_num (N' := a + 522) (kc' := 521) (ks' := 2404) rfl rfl rfl ?_
  have hb224 : ct_K 10 (a + 470) := by
      have h1 := ct_e20 (i := 9) (ct_t1_0 ka) (by rw [cq_l1_1 ka]; decide)
      have h2 : ct_elW (a + 1) 9 = a + 470 := by unfold ct_elW; split <;> omega
      rw [h2] at h1
      exact h1
  refine cq_aast (t0 := 7) (r := (RX10, TX10, 8)) (b := a + 470) C dX1_init_34 (cq_g 9 (fun i => some (o + (ct_elW (a + 1) i)))) (by omega) (by omega) (by rw [va_up_self]) rfl (by omega) (by rw [va_up_ne _ _ (by omega), va_up_ne _ _ (by omega)]; unfold cq_fin; rw [if_neg (by omega)]; exact ct_E10 hb224) rfl (by unfold vp_in; decide) ?_
  have hg226 : va_up (cq_g 9 (fun i => some (o + (ct_elW (a + 1) i)))) (9 : Int32).toNatClampNeg (some (o + (a + 470))) = cq_g 10 (fun i => some (o + (ct_elW (a + 1) i))) := by
      have h2 : (fun i => some (o + (ct_elW (a + 1) i))) 9 = some (o + (a + 470)) := by show some _ = some _; congr 2; unfold ct_elW; split <;> omega
      rw [← h2]; exact cq_g1 9 _
  rw [hg226]
  refine cq_conv (va_up (va_up (cq_fin cy o a f) a (.inr (1, [.ref (o + (a + 1)), .int 0, .int 0]))) (a + 1) (.inl (cy 20, 14, .inr (.inr (.inr (.inr (cq_g 10 (fun i => some (o + (ct_elW (a + 1) i)))))))))) (fun k _ => by simp only [va_up]; (repeat' split) <;> first | rfl | (exfalso; omega)) ?_
  refine cq_store (lv' := [(2, .int (10 : Int32)), (0, .ref (o + a)), (1, .ref (o + 5))]) (fun H locs ls hl hh => lv_iinc (k := 0) (v := (10 : Int32)) C.1 C.2.1 dX1_init_35 hl rfl (by decide) (by decide) rfl hh) ?_
  refine cq_w (fun H locs ls hl hh => lv_goto (tgt := 15) C.1 C.2.1 dX1_init_38 (by decide) hh) ?_
  refine cq_w (fun H locs ls hl hh => lv_iload_n C.1 C.2.1 dX1_init_15 rfl (lv_at hl 0 rfl) hh) ?_
  refine cq_w (fun H locs ls hl hh => lv_bipush (v := (14 : Int32)) C.1 C.2.1 dX1_init_16 (by decide) hh) ?_
  refine cq_w (fun H locs ls hl hh => lv_icmp_ge (tgt := 41) C.1 C.2.1 dX1_init_18 (by decide) (fun hc => absurd hc (by decide)) (fun _ => hh)) ?_
  refine cq_w (fun H locs ls hl hh => lv_aload_n C.1 C.2.1 dX1_init_21 rfl (lv_at hl 1 rfl) hh) ?_
  refine cq_get1 (ci := 1) C dX1_init_22 [.ref (o + (a + 1)), .int 0, .int 0] (by omega) (by simp [va_up] <;> omega) rfl ct_inX1 (k := 0) (by decide) rfl mv_61 rfl ?_
  refine cq_w (fun H locs ls hl hh => lv_iload_n C.1 C.2.1 dX1_init_25 rfl (lv_at hl 0 rfl) hh) ?_
  refine cq_new (ci := 10) C dX1_init_26 [.null, .null, .null, .int 0, .null, .null, .null, .int 0] tyX10 tyX10_ok ct_inX10 mv_60 mv_62 mv_63 rfl (by decide +kernel) hlo (Nat.le_of_ble_eq_true rfl) (Nat.le_of_ble_eq_true rfl) ?_
  refine cq_w (fun H locs ls hl hh => lv_dup C.1 C.2.1 dX1_init_29 rfl hh) ?_
  refine cq_w (fun H locs ls hl hh => lv_aload_n C.1 C.2.1 dX1_init_30 rfl (lv_at hl 2 rfl) hh) ?_
  have kb240 : ct_K 10 (a + 522) := by
      have h1 := ct_e20 (i := 10) (ct_t1_0 ka) (by rw [cq_l1_1 ka]; decide)
      have h2 : ct_elW (a + 1) 10 = a + 522 := by unfold ct_elW; split <;> omega
      rw [h2] at h1
      exact h1
  have h5F241 : (va_up (va_up (cq_fin cy o a f) a (.inr (1, [.ref (o + (a + 1)), .int 0, .int 0]))) (a + 1) (.inl (cy 20, 14, .inr (.inr (.inr (.inr (cq_g 10 (fun i => some (o + (ct_elW (a + 1) i)))))))))) 5 = .inl (cy 18, 3, .inr (.inr (.inr (.inr (fun i => some (o + (5 + 6 + 5 * i))))))) := by
      rw [va_up_ne _ _ (by omega), va_up_ne _ _ (by omega)]
      unfold cq_fin
      rw [if_pos (by omega)]
      exact h5
  have h5g : ∀ k, k = 5 → (va_up (va_up (va_up (cq_fin cy o a f) a (.inr (1, [.ref (o + (a + 1)), .int 0, .int 0]))) (a + 1) (.inl (cy 20, 14, .inr (.inr (.inr (.inr (cq_g 10 (fun i => some (o + (ct_elW (a + 1) i)))))))))) (a + 522) (.inr (10, [.null, .null, .null, .int 0, .null, .null, .null, .int 0]))) k = .inl (cy 18, 3, .inr (.inr (.inr (.inr (fun i => some (o + (5 + 6 + 5 * i))))))) := by
      intro k hk
      subst hk
      rw [va_up_ne _ _ (by omega)]
      exact h5F241
  refine cq_call (b := a + 522) (sz := 52) (mc := 51) (ms := 231) (As := [.ref (o + 5)]) (rmg := rq_X10_init) C (c_X10_init l D cy o (a + 522) kb240 _ (va_up_self _ _ _) (h5g 5 rfl) (by omega)) dX1_init_31 ki_X1_17 (by omega) rfl rfl (Nat.le_of_ble_eq_true rfl) ⟨rfl, rfl, Nat.le_of_ble_eq_true rfl, Nat.le_of_ble_eq_true rfl⟩ ⟨Nat.le_of_ble_eq_true rfl, Nat.le_of_ble_eq_true rfl⟩ ?_
  refine cq_conv (va_up (va_up (cq_fin cy o a f) a (.inr (1, [.ref (o + (a + 1)), .int 0, .int 0]))) (a + 1) (.inl (cy 20, 14, .inr (.inr (.inr (.inr (cq_g 10 (fun i => some (o + (ct_elW (a + 1) i)))))))))) (fun k _ => cq_back (cq_ab_up (by omega) (cq_ab_up (by omega) (cq_ab_fin (by omega)))) k) ?_
  refine cq_num (N' := a + 574) (kc' := 573) (ks' := 2643) rfl rfl rfl ?_
  have hb246 : ct_K 10 (a + 522) := by
      have h1 := ct_e20 (i := 10) (ct_t1_0 ka) (by rw [cq_l1_1 ka]; decide)
      have h2 : ct_elW (a + 1) 10 = a + 522 := by unfold ct_elW; split <;> omega
      rw [h2] at h1
      exact h1
  refine cq_aast (t0 := 7) (r := (RX10, TX10, 8)) (b := a + 522) C dX1_init_34 (cq_g 10 (fun i => some (o + (ct_elW (a + 1) i)))) (by omega) (by omega) (by rw [va_up_self]) rfl (by omega) (by rw [va_up_ne _ _ (by omega), va_up_ne _ _ (by omega)]; unfold cq_fin; rw [if_neg (by omega)]; exact ct_E10 hb246) rfl (by unfold vp_in; decide) ?_
  have hg248 : va_up (cq_g 10 (fun i => some (o + (ct_elW (a + 1) i)))) (10 : Int32).toNatClampNeg (some (o + (a + 522))) = cq_g 11 (fun i => some (o + (ct_elW (a + 1) i))) := by
      have h2 : (fun i => some (o + (ct_elW (a + 1) i))) 10 = some (o + (a + 522)) := by show some _ = some _; congr 2; unfold ct_elW; split <;> omega
      rw [← h2]; exact cq_g1 10 _
  rw [hg248]
  refine cq_conv (va_up (va_up (cq_fin cy o a f) a (.inr (1, [.ref (o + (a + 1)), .int 0, .int 0]))) (a + 1) (.inl (cy 20, 14, .inr (.inr (.inr (.inr (cq_g 11 (fun i => some (o + (ct_elW (a + 1) i)))))))))) (fun k _ => by simp only [va_up]; (repeat' split) <;> first | rfl | (exfalso; omega)) ?_
  refine cq_store (lv' := [(2, .int (11 : Int32)), (0, .ref (o + a)), (1, .ref (o + 5))]) (fun H locs ls hl hh => lv_iinc (k := 0) (v := (11 : Int32)) C.1 C.2.1 dX1_init_35 hl rfl (by decide) (by decide) rfl hh) ?_
  refine cq_w (fun H locs ls hl hh => lv_goto (tgt := 15) C.1 C.2.1 dX1_init_38 (by decide) hh) ?_
  refine cq_w (fun H locs ls hl hh => lv_iload_n C.1 C.2.1 dX1_init_15 rfl (lv_at hl 0 rfl) hh) ?_
  refine cq_w (fun H locs ls hl hh => lv_bipush (v := (14 : Int32)) C.1 C.2.1 dX1_init_16 (by decide) hh) ?_
  refine cq_w (fun H locs ls hl hh => lv_icmp_ge (tgt := 41) C.1 C.2.1 dX1_init_18 (by decide) (fun hc => absurd hc (by decide)) (fun _ => hh)) ?_
  refine cq_w (fun H locs ls hl hh => lv_aload_n C.1 C.2.1 dX1_init_21 rfl (lv_at hl 1 rfl) hh) ?_
  refine cq_get1 (ci := 1) C dX1_init_22 [.ref (o + (a + 1)), .int 0, .int 0] (by omega) (by simp [va_up] <;> omega) rfl ct_inX1 (k := 0) (by decide) rfl mv_61 rfl ?_
  refine cq_w (fun H locs ls hl hh => lv_iload_n C.1 C.2.1 dX1_init_25 rfl (lv_at hl 0 rfl) hh) ?_
  refine cq_new (ci := 10) C dX1_init_26 [.null, .null, .null, .int 0, .null, .null, .null, .int 0] tyX10 tyX10_ok ct_inX10 mv_60 mv_62 mv_63 rfl (by decide +kernel) hlo (Nat.le_of_ble_eq_true rfl) (Nat.le_of_ble_eq_true rfl) ?_
  refine cq_w (fun H locs ls hl hh => lv_dup C.1 C.2.1 dX1_init_29 rfl hh) ?_
  refine cq_w (fun H locs ls hl hh => lv_aload_n C.1 C.2.1 dX1_init_30 rfl (lv_at hl 2 rfl) hh) ?_
  have kb262 : ct_K 10 (a + 574) := by
      have h1 := ct_e20 (i := 11) (ct_t1_0 ka) (by rw [cq_l1_1 ka]; decide)
      have h2 : ct_elW (a + 1) 11 = a + 574 := by unfold ct_elW; split <;> omega
      rw [h2] at h1
      exact h1
  have h5F263 : (va_up (va_up (cq_fin cy o a f) a (.inr (1, [.ref (o + (a + 1)), .int 0, .int 0]))) (a + 1) (.inl (cy 20, 14, .inr (.inr (.inr (.inr (cq_g 11 (fun i => some (o + (ct_elW (a + 1) i)))))))))) 5 = .inl (cy 18, 3, .inr (.inr (.inr (.inr (fun i => some (o + (5 + 6 + 5 * i))))))) := by
      rw [va_up_ne _ _ (by omega), va_up_ne _ _ (by omega)]
      unfold cq_fin
      rw [if_pos (by omega)]
      exact h5
  have h5g : ∀ k, k = 5 → (va_up (va_up (va_up (cq_fin cy o a f) a (.inr (1, [.ref (o + (a + 1)), .int 0, .int 0]))) (a + 1) (.inl (cy 20, 14, .inr (.inr (.inr (.inr (cq_g 11 (fun i => some (o + (ct_elW (a + 1) i)))))))))) (a + 574) (.inr (10, [.null, .null, .null, .int 0, .null, .null, .null, .int 0]))) k = .inl (cy 18, 3, .inr (.inr (.inr (.inr (fun i => some (o + (5 + 6 + 5 * i))))))) := by
      intro k hk
      subst hk
      rw [va_up_ne _ _ (by omega)]
      exact h5F263
  refine cq_call (b := a + 574) (sz := 52) (mc := 51) (ms := 231) (As := [.ref (o + 5)]) (rmg := rq_X10_init) C (c_X10_init l D cy o (a + 574) kb262 _ (va_up_self _ _ _) (h5g 5 rfl) (by omega)) dX1_init_31 ki_X1_17 (by omega) rfl rfl (Nat.le_of_ble_eq_true rfl) ⟨rfl, rfl, Nat.le_of_ble_eq_true rfl, Nat.le_of_ble_eq_true rfl⟩ ⟨Nat.le_of_ble_eq_true rfl, Nat.le_of_ble_eq_true rfl⟩ ?_
  refine cq_conv (va_up (va_up (cq_fin cy o a f) a (.inr (1, [.ref (o + (a + 1)), .int 0, .int 0]))) (a + 1) (.inl (cy 20, 14, .inr (.inr (.inr (.inr (cq_g 11 (fun i => some (o + (ct_elW (a + 1) i)))))))))) (fun k _ => cq_back (cq_ab_up (by omega) (cq_ab_up (by omega) (cq_ab_fin (by omega)))) k) ?_
  refine cq_num (N' := a + 626) (kc' := 625) (ks' := 2882) rfl rfl rfl ?_
  have hb268 : ct_K 10 (a + 574) := by
      have h1 := ct_e20 (i := 11) (ct_t1_0 ka) (by rw [cq_l1_1 ka]; decide)
      have h2 : ct_elW (a + 1) 11 = a + 574 := by unfold ct_elW; split <;> omega
      rw [h2] at h1
      exact h1
  refine cq_aast (t0 := 7) (r := (RX10, TX10, 8)) (b := a + 574) C dX1_init_34 (cq_g 11 (fun i => some (o + (ct_elW (a + 1) i)))) (by omega) (by omega) (by rw [va_up_self]) rfl (by omega) (by rw [va_up_ne _ _ (by omega), va_up_ne _ _ (by omega)]; unfold cq_fin; rw [if_neg (by omega)]; exact ct_E10 hb268) rfl (by unfold vp_in; decide) ?_
  have hg270 : va_up (cq_g 11 (fun i => some (o + (ct_elW (a + 1) i)))) (11 : Int32).toNatClampNeg (some (o + (a + 574))) = cq_g 12 (fun i => some (o + (ct_elW (a + 1) i))) := by
      have h2 : (fun i => some (o + (ct_elW (a + 1) i))) 11 = some (o + (a + 574)) := by show some _ = some _; congr 2; unfold ct_elW; split <;> omega
      rw [← h2]; exact cq_g1 11 _
  rw [hg270]
  refine cq_conv (va_up (va_up (cq_fin cy o a f) a (.inr (1, [.ref (o + (a + 1)), .int 0, .int 0]))) (a + 1) (.inl (cy 20, 14, .inr (.inr (.inr (.inr (cq_g 12 (fun i => some (o + (ct_elW (a + 1) i)))))))))) (fun k _ => by simp only [va_up]; (repeat' split) <;> first | rfl | (exfalso; omega)) ?_
  refine cq_store (lv' := [(2, .int (12 : Int32)), (0, .ref (o + a)), (1, .ref (o + 5))]) (fun H locs ls hl hh => lv_iinc (k := 0) (v := (12 : Int32)) C.1 C.2.1 dX1_init_35 hl rfl (by decide) (by decide) rfl hh) ?_
  refine cq_w (fun H locs ls hl hh => lv_goto (tgt := 15) C.1 C.2.1 dX1_init_38 (by decide) hh) ?_
  refine cq_w (fun H locs ls hl hh => lv_iload_n C.1 C.2.1 dX1_init_15 rfl (lv_at hl 0 rfl) hh) ?_
  refine cq_w (fun H locs ls hl hh => lv_bipush (v := (14 : Int32)) C.1 C.2.1 dX1_init_16 (by decide) hh) ?_
  refine cq_w (fun H locs ls hl hh => lv_icmp_ge (tgt := 41) C.1 C.2.1 dX1_init_18 (by decide) (fun hc => absurd hc (by decide)) (fun _ => hh)) ?_
  refine cq_w (fun H locs ls hl hh => lv_aload_n C.1 C.2.1 dX1_init_21 rfl (lv_at hl 1 rfl) hh) ?_
  refine cq_get1 (ci := 1) C dX1_init_22 [.ref (o + (a + 1)), .int 0, .int 0] (by omega) (by simp [va_up] <;> omega) rfl ct_inX1 (k := 0) (by decide) rfl mv_61 rfl ?_
  refine cq_w (fun H locs ls hl hh => lv_iload_n C.1 C.2.1 dX1_init_25 rfl (lv_at hl 0 rfl) hh) ?_
  refine cq_new (ci := 10) C dX1_init_26 [.null, .null, .null, .int 0, .null, .null, .null, .int 0] tyX10 tyX10_ok ct_inX10 mv_60 mv_62 mv_63 rfl (by decide +kernel) hlo (Nat.le_of_ble_eq_true rfl) (Nat.le_of_ble_eq_true rfl) ?_
  refine cq_w (fun H locs ls hl hh => lv_dup C.1 C.2.1 dX1_init_29 rfl hh) ?_
  refine cq_w (fun H locs ls hl hh => lv_aload_n C.1 C.2.1 dX1_init_30 rfl (lv_at hl 2 rfl) hh) ?_
  have kb284 : ct_K 10 (a + 626) := by
      have h1 := ct_e20 (i := 12) (ct_t1_0 ka) (by rw [cq_l1_1 ka]; decide)
      have h2 : ct_elW (a + 1) 12 = a + 626 := by unfold ct_elW; split <;> omega
      rw [h2] at h1
      exact h1
  have h5F285 : (va_up (va_up (cq_fin cy o a f) a (.inr (1, [.ref (o + (a + 1)), .int 0, .int 0]))) (a + 1) (.inl (cy 20, 14, .inr (.inr (.inr (.inr (cq_g 12 (fun i => some (o + (ct_elW (a + 1) i)))))))))) 5 = .inl (cy 18, 3, .inr (.inr (.inr (.inr (fun i => some (o + (5 + 6 + 5 * i))))))) := by
      rw [va_up_ne _ _ (by omega), va_up_ne _ _ (by omega)]
      unfold cq_fin
      rw [if_pos (by omega)]
      exact h5
  have h5g : ∀ k, k = 5 → (va_up (va_up (va_up (cq_fin cy o a f) a (.inr (1, [.ref (o + (a + 1)), .int 0, .int 0]))) (a + 1) (.inl (cy 20, 14, .inr (.inr (.inr (.inr (cq_g 12 (fun i => some (o + (ct_elW (a + 1) i)))))))))) (a + 626) (.inr (10, [.null, .null, .null, .int 0, .null, .null, .null, .int 0]))) k = .inl (cy 18, 3, .inr (.inr (.inr (.inr (fun i => some (o + (5 + 6 + 5 * i))))))) := by
      intro k hk
      subst hk
      rw [va_up_ne _ _ (by omega)]
      exact h5F285
  refine cq_call (b := a + 626) (sz := 52) (mc := 51) (ms := 231) (As := [.ref (o + 5)]) (rmg := rq_X10_init) C (c_X10_init l D cy o (a + 626) kb284 _ (va_up_self _ _ _) (h5g 5 rfl) (by omega)) dX1_init_31 ki_X1_17 (by omega) rfl rfl (Nat.le_of_ble_eq_true rfl) ⟨rfl, rfl, Nat.le_of_ble_eq_true rfl, Nat.le_of_ble_eq_true rfl⟩ ⟨Nat.le_of_ble_eq_true rfl, Nat.le_of_ble_eq_true rfl⟩ ?_
  refine cq_conv (va_up (va_up (cq_fin cy o a f) a (.inr (1, [.ref (o + (a + 1)), .int 0, .int 0]))) (a + 1) (.inl (cy 20, 14, .inr (.inr (.inr (.inr (cq_g 12 (fun i => some (o + (ct_elW (a + 1) i)))))))))) (fun k _ => cq_back (cq_ab_up (by omega) (cq_ab_up (by omega) (cq_ab_fin (by omega)))) k) ?_
  refine cq_num (N' := a + 678) (kc' := 677) (ks' := 3121) rfl rfl rfl ?_
  have hb290 : ct_K 10 (a + 626) := by
      have h1 := ct_e20 (i := 12) (ct_t1_0 ka) (by rw [cq_l1_1 ka]; decide)
      have h2 : ct_elW (a + 1) 12 = a + 626 := by unfold ct_elW; split <;> omega
      rw [h2] at h1
      exact h1
  refine cq_aast (t0 := 7) (r := (RX10, TX10, 8)) (b := a + 626) C dX1_init_34 (cq_g 12 (fun i => some (o + (ct_elW (a + 1) i)))) (by omega) (by omega) (by rw [va_up_self]) rfl (by omega) (by rw [va_up_ne _ _ (by omega), va_up_ne _ _ (by omega)]; unfold cq_fin; rw [if_neg (by omega)]; exact ct_E10 hb290) rfl (by unfold vp_in; decide) ?_
  have hg292 : va_up (cq_g 12 (fun i => some (o + (ct_elW (a + 1) i)))) (12 : Int32).toNatClampNeg (some (o + (a + 626))) = cq_g 13 (fun i => some (o + (ct_elW (a + 1) i))) := by
      have h2 : (fun i => some (o + (ct_elW (a + 1) i))) 12 = some (o + (a + 626)) := by show some _ = some _; congr 2; unfold ct_elW; split <;> omega
      rw [← h2]; exact cq_g1 12 _
  rw [hg292]
  refine cq_conv (va_up (va_up (cq_fin cy o a f) a (.inr (1, [.ref (o + (a + 1)), .int 0, .int 0]))) (a + 1) (.inl (cy 20, 14, .inr (.inr (.inr (.inr (cq_g 13 (fun i => some (o + (ct_elW (a + 1) i)))))))))) (fun k _ => by simp only [va_up]; (repeat' split) <;> first | rfl | (exfalso; omega)) ?_
  refine cq_store (lv' := [(2, .int (13 : Int32)), (0, .ref (o + a)), (1, .ref (o + 5))]) (fun H locs ls hl hh => lv_iinc (k := 0) (v := (13 : Int32)) C.1 C.2.1 dX1_init_35 hl rfl (by decide) (by decide) rfl hh) ?_
  refine cq_w (fun H locs ls hl hh => lv_goto (tgt := 15) C.1 C.2.1 dX1_init_38 (by decide) hh) ?_
  refine cq_w (fun H locs ls hl hh => lv_iload_n C.1 C.2.1 dX1_init_15 rfl (lv_at hl 0 rfl) hh) ?_
  refine cq_w (fun H locs ls hl hh => lv_bipush (v := (14 : Int32)) C.1 C.2.1 dX1_init_16 (by decide) hh) ?_
  refine cq_w (fun H locs ls hl hh => lv_icmp_ge (tgt := 41) C.1 C.2.1 dX1_init_18 (by decide) (fun hc => absurd hc (by decide)) (fun _ => hh)) ?_
  refine cq_w (fun H locs ls hl hh => lv_aload_n C.1 C.2.1 dX1_init_21 rfl (lv_at hl 1 rfl) hh) ?_
  refine cq_get1 (ci := 1) C dX1_init_22 [.ref (o + (a + 1)), .int 0, .int 0] (by omega) (by simp [va_up] <;> omega) rfl ct_inX1 (k := 0) (by decide) rfl mv_61 rfl ?_
  refine cq_w (fun H locs ls hl hh => lv_iload_n C.1 C.2.1 dX1_init_25 rfl (lv_at hl 0 rfl) hh) ?_
  refine cq_new (ci := 10) C dX1_init_26 [.null, .null, .null, .int 0, .null, .null, .null, .int 0] tyX10 tyX10_ok ct_inX10 mv_60 mv_62 mv_63 rfl (by decide +kernel) hlo (Nat.le_of_ble_eq_true rfl) (Nat.le_of_ble_eq_true rfl) ?_
  refine cq_w (fun H locs ls hl hh => lv_dup C.1 C.2.1 dX1_init_29 rfl hh) ?_
  refine cq_w (fun H locs ls hl hh => lv_aload_n C.1 C.2.1 dX1_init_30 rfl (lv_at hl 2 rfl) hh) ?_
  have kb306 : ct_K 10 (a + 678) := by
      have h1 := ct_e20 (i := 13) (ct_t1_0 ka) (by rw [cq_l1_1 ka]; decide)
      have h2 : ct_elW (a + 1) 13 = a + 678 := by unfold ct_elW; split <;> omega
      rw [h2] at h1
      exact h1
  have h5F307 : (va_up (va_up (cq_fin cy o a f) a (.inr (1, [.ref (o + (a + 1)), .int 0, .int 0]))) (a + 1) (.inl (cy 20, 14, .inr (.inr (.inr (.inr (cq_g 13 (fun i => some (o + (ct_elW (a + 1) i)))))))))) 5 = .inl (cy 18, 3, .inr (.inr (.inr (.inr (fun i => some (o + (5 + 6 + 5 * i))))))) := by
      rw [va_up_ne _ _ (by omega), va_up_ne _ _ (by omega)]
      unfold cq_fin
      rw [if_pos (by omega)]
      exact h5
  have h5g : ∀ k, k = 5 → (va_up (va_up (va_up (cq_fin cy o a f) a (.inr (1, [.ref (o + (a + 1)), .int 0, .int 0]))) (a + 1) (.inl (cy 20, 14, .inr (.inr (.inr (.inr (cq_g 13 (fun i => some (o + (ct_elW (a + 1) i)))))))))) (a + 678) (.inr (10, [.null, .null, .null, .int 0, .null, .null, .null, .int 0]))) k = .inl (cy 18, 3, .inr (.inr (.inr (.inr (fun i => some (o + (5 + 6 + 5 * i))))))) := by
      intro k hk
      subst hk
      rw [va_up_ne _ _ (by omega)]
      exact h5F307
  refine cq_call (b := a + 678) (sz := 52) (mc := 51) (ms := 231) (As := [.ref (o + 5)]) (rmg := rq_X10_init) C (c_X10_init l D cy o (a + 678) kb306 _ (va_up_self _ _ _) (h5g 5 rfl) (by omega)) dX1_init_31 ki_X1_17 (by omega) rfl rfl (Nat.le_of_ble_eq_true rfl) ⟨rfl, rfl, Nat.le_of_ble_eq_true rfl, Nat.le_of_ble_eq_true rfl⟩ ⟨Nat.le_of_ble_eq_true rfl, Nat.le_of_ble_eq_true rfl⟩ ?_
  refine cq_conv (va_up (va_up (cq_fin cy o a f) a (.inr (1, [.ref (o + (a + 1)), .int 0, .int 0]))) (a + 1) (.inl (cy 20, 14, .inr (.inr (.inr (.inr (cq_g 13 (fun i => some (o + (ct_elW (a + 1) i)))))))))) (fun k _ => cq_back (cq_ab_up (by omega) (cq_ab_up (by omega) (cq_ab_fin (by omega)))) k) ?_
  refine cq_num (N' := a + 730) (kc' := 729) (ks' := 3360) rfl rfl rfl ?_
  have hb312 : ct_K 10 (a + 678) := by
      have h1 := ct_e20 (i := 13) (ct_t1_0 ka) (by rw [cq_l1_1 ka]; decide)
      have h2 : ct_elW (a + 1) 13 = a + 678 := by unfold ct_elW; split <;> omega
      rw [h2] at h1
      exact h1
  refine cq_aast (t0 := 7) (r := (RX10, TX10, 8)) (b := a + 678) C dX1_init_34 (cq_g 13 (fun i => some (o + (ct_elW (a + 1) i)))) (by omega) (by omega) (by rw [va_up_self]) rfl (by omega) (by rw [va_up_ne _ _ (by omega), va_up_ne _ _ (by omega)]; unfold cq_fin; rw [if_neg (by omega)]; exact ct_E10 hb312) rfl (by unfold vp_in; decide) ?_
  have hg314 : va_up (cq_g 13 (fun i => some (o + (ct_elW (a + 1) i)))) (13 : Int32).toNatClampNeg (some (o + (a + 678))) = cq_g 14 (fun i => some (o + (ct_elW (a + 1) i))) := by
      have h2 : (fun i => some (o + (ct_elW (a + 1) i))) 13 = some (o + (a + 678)) := by show some _ = some _; congr 2; unfold ct_elW; split <;> omega
      rw [← h2]; exact cq_g1 13 _
  rw [hg314]
  refine cq_conv (va_up (va_up (cq_fin cy o a f) a (.inr (1, [.ref (o + (a + 1)), .int 0, .int 0]))) (a + 1) (.inl (cy 20, 14, .inr (.inr (.inr (.inr (cq_g 14 (fun i => some (o + (ct_elW (a + 1) i)))))))))) (fun k _ => by simp only [va_up]; (repeat' split) <;> first | rfl | (exfalso; omega)) ?_
  refine cq_store (lv' := [(2, .int (14 : Int32)), (0, .ref (o + a)), (1, .ref (o + 5))]) (fun H locs ls hl hh => lv_iinc (k := 0) (v := (14 : Int32)) C.1 C.2.1 dX1_init_35 hl rfl (by decide) (by decide) rfl hh) ?_
  refine cq_w (fun H locs ls hl hh => lv_goto (tgt := 15) C.1 C.2.1 dX1_init_38 (by decide) hh) ?_
  refine cq_w (fun H locs ls hl hh => lv_iload_n C.1 C.2.1 dX1_init_15 rfl (lv_at hl 0 rfl) hh) ?_
  refine cq_w (fun H locs ls hl hh => lv_bipush (v := (14 : Int32)) C.1 C.2.1 dX1_init_16 (by decide) hh) ?_
  refine cq_w (fun H locs ls hl hh => lv_icmp_ge (tgt := 41) C.1 C.2.1 dX1_init_18 (by decide) (fun _ => hh) (fun hc => absurd (by decide) hc)) ?_
  refine cq_convA (fun i => some (o + (ct_elW (a + 1) i))) (fun i hi => cq_gn _ hi) ?_
  exact cq_vret C hr hlk dX1_init_41 rfl (fun k hk => by
    by_cases h2 : k = a + 1
    · rw [h2, va_up_self]; unfold cq_fin; rw [if_neg (by omega), ct_E20 (ct_t1_0 ka), cq_l1_1 ka]
    · rw [va_up_ne _ _ h2]
      by_cases h1 : k = a
      · rw [h1, va_up_self]; unfold cq_fin; rw [if_neg (by omega), ct_E1 ka] <;> rfl
      · rw [va_up_ne _ _ h1])
abbrev rq_X6_init : Room := { frames := 5, cells := 58, slots := 7059, locals := 96 }
set_option maxHeartbeats 4000000 in
set_option maxRecDepth 100000 in
theorem c_X6_init (l : Launch) (D : va_G) (cy : Nat → ClassId) (o a : Nat) (ka : ct_K 6 a) (f : Nat → va_E) (hfa : f a = .inr (6, [.null, .null, .null])) (h5 : f 5 = .inl (cy 18, 3, .inr (.inr (.inr (.inr (fun i => some (o + (5 + 6 + 5 * i)))))))) (h5a : 5 < a) : Met l yX6_init (ct_ws yX6_init cX6_init 2 none) rq_X6_init (va_Pc [.ref (o + a), .ref (o + 5)] (cq_P D cy o (a + 1) f)) (cq_Q D cy o a 59 f) 58 7059 (fun q => o + a ≤ q) := by
  refine cq_met l D cy o a f (by decide) rfl (Nat.le_of_ble_eq_true rfl) (fun p e s mth args below meth c C hr hlk hin hlo => ?_)
  refine cq_sub [0, 1] [(0, .ref (o + a)), (1, .ref (o + 5))] rfl ?_
  refine cq_w (fun H locs ls hl hh => lv_aload_n C.1 C.2.1 dX6_init_0 rfl (lv_at hl 0 rfl) hh) ?_
  refine cq_obj C mv_67 mv_1 mv_2 dX6_init_1 (Nat.le_of_ble_eq_true rfl) (Nat.le_of_ble_eq_true rfl) ?_
  refine cq_conv (va_up (cq_fin cy o a f) a (.inr (6, [.null, .null, .null]))) (fun k hk => by
      by_cases h1 : k = a
      · rw [h1, va_up_self]; exact hfa
      · rw [va_up_ne _ _ h1]; exact (if_pos (by omega)).symm) ?_
  refine cq_w (fun H locs ls hl hh => lv_aload_n C.1 C.2.1 dX6_init_4 rfl (lv_at hl 0 rfl) hh) ?_
  refine cq_new (ci := 2) C dX6_init_5 [.null, .int 0, .null] tyX2 tyX2_ok ct_inX2 mv_68 mv_69 mv_70 rfl (by decide +kernel) hlo (Nat.le_of_ble_eq_true rfl) (Nat.le_of_ble_eq_true rfl) ?_
  refine cq_w (fun H locs ls hl hh => lv_dup C.1 C.2.1 dX6_init_8 rfl hh) ?_
  have kb6 : ct_K 2 (a + 1) := (ct_t6_1 ka)
  refine cq_call (b := a + 1) (sz := 3) (mc := 2) (ms := 3407) (As := []) (rmg := rq_X2_init) C (c_X2_init l D cy o (a + 1) kb6 _ (va_up_self _ _ _)) dX6_init_9 ki_X6_13 (by omega) rfl rfl (Nat.le_of_ble_eq_true rfl) ⟨rfl, rfl, Nat.le_of_ble_eq_true rfl, Nat.le_of_ble_eq_true rfl⟩ ⟨Nat.le_of_ble_eq_true rfl, Nat.le_of_ble_eq_true rfl⟩ ?_
  refine cq_conv (va_up (cq_fin cy o a f) a (.inr (6, [.null, .null, .null]))) (fun k _ => cq_back (cq_ab_up (by omega) (cq_ab_fin (by omega))) k) ?_
  refine cq_num (N' := a + 4) (kc' := 3) (ks' := 3410) rfl rfl rfl ?_
  refine cq_putF (ci := 6) C dX6_init_12 [.null, .null, .null] tyX6 tyX6_ok nmX6 (by omega) (by omega) (by simp [va_up] <;> omega) rfl ct_inX6 (k := 1) (by decide) rfl rfl rfl hin rfl mv_73 (by rfl) (by rfl) (Nat.le_of_ble_eq_true rfl) ?_
  refine cq_conv (va_up (cq_fin cy o a f) a (.inr (6, [.null, .ref (o + (a + 1)), .null]))) (fun k _ => by simp only [va_up]; (repeat' split) <;> first | rfl | (exfalso; omega)) ?_
  refine cq_w (fun H locs ls hl hh => lv_aload_n C.1 C.2.1 dX6_init_15 rfl (lv_at hl 0 rfl) hh) ?_
  refine cq_new (ci := 2) C dX6_init_16 [.null, .int 0, .null] tyX2 tyX2_ok ct_inX2 mv_68 mv_69 mv_70 rfl (by decide +kernel) hlo (Nat.le_of_ble_eq_true rfl) (Nat.le_of_ble_eq_true rfl) ?_
  refine cq_w (fun H locs ls hl hh => lv_dup C.1 C.2.1 dX6_init_19 rfl hh) ?_
  have kb15 : ct_K 2 (a + 4) := (ct_t6_2 ka)
  refine cq_call (b := a + 4) (sz := 3) (mc := 2) (ms := 3407) (As := []) (rmg := rq_X2_init) C (c_X2_init l D cy o (a + 4) kb15 _ (va_up_self _ _ _)) dX6_init_20 ki_X6_13 (by omega) rfl rfl (Nat.le_of_ble_eq_true rfl) ⟨rfl, rfl, Nat.le_of_ble_eq_true rfl, Nat.le_of_ble_eq_true rfl⟩ ⟨Nat.le_of_ble_eq_true rfl, Nat.le_of_ble_eq_true rfl⟩ ?_
  refine cq_conv (va_up (cq_fin cy o a f) a (.inr (6, [.null, .ref (o + (a + 1)), .null]))) (fun k _ => cq_back (cq_ab_up (by omega) (cq_ab_fin (by omega))) k) ?_
  refine cq_num (N' := a + 7) (kc' := 6) (ks' := 6820) rfl rfl rfl ?_
  refine cq_putF (ci := 6) C dX6_init_23 [.null, .ref (o + (a + 1)), .null] tyX6 tyX6_ok nmX6 (by omega) (by omega) (by simp [va_up] <;> omega) rfl ct_inX6 (k := 2) (by decide) rfl rfl rfl hin rfl mv_74 (by rfl) (by rfl) (Nat.le_of_ble_eq_true rfl) ?_
  refine cq_conv (va_up (cq_fin cy o a f) a (.inr (6, [.null, .ref (o + (a + 1)), .ref (o + (a + 4))]))) (fun k _ => by simp only [va_up]; (repeat' split) <;> first | rfl | (exfalso; omega)) ?_
  refine cq_w (fun H locs ls hl hh => lv_aload_n C.1 C.2.1 dX6_init_26 rfl (lv_at hl 0 rfl) hh) ?_
  refine cq_new (ci := 10) C dX6_init_27 [.null, .null, .null, .int 0, .null, .null, .null, .int 0] tyX10 tyX10_ok ct_inX10 mv_75 mv_62 mv_63 rfl (by decide +kernel) hlo (Nat.le_of_ble_eq_true rfl) (Nat.le_of_ble_eq_true rfl) ?_
  refine cq_w (fun H locs ls hl hh => lv_dup C.1 C.2.1 dX6_init_30 rfl hh) ?_
  refine cq_w (fun H locs ls hl hh => lv_aload_n C.1 C.2.1 dX6_init_31 rfl (lv_at hl 1 rfl) hh) ?_
  have kb25 : ct_K 10 (a + 7) := (ct_t6_0 ka)
  have h5F26 : (va_up (cq_fin cy o a f) a (.inr (6, [.null, .ref (o + (a + 1)), .ref (o + (a + 4))]))) 5 = .inl (cy 18, 3, .inr (.inr (.inr (.inr (fun i => some (o + (5 + 6 + 5 * i))))))) := by
      rw [va_up_ne _ _ (by omega)]
      unfold cq_fin
      rw [if_pos (by omega)]
      exact h5
  have h5g : ∀ k, k = 5 → (va_up (va_up (cq_fin cy o a f) a (.inr (6, [.null, .ref (o + (a + 1)), .ref (o + (a + 4))]))) (a + 7) (.inr (10, [.null, .null, .null, .int 0, .null, .null, .null, .int 0]))) k = .inl (cy 18, 3, .inr (.inr (.inr (.inr (fun i => some (o + (5 + 6 + 5 * i))))))) := by
      intro k hk
      subst hk
      rw [va_up_ne _ _ (by omega)]
      exact h5F26
  refine cq_call (b := a + 7) (sz := 52) (mc := 51) (ms := 231) (As := [.ref (o + 5)]) (rmg := rq_X10_init) C (c_X10_init l D cy o (a + 7) kb25 _ (va_up_self _ _ _) (h5g 5 rfl) (by omega)) dX6_init_32 ki_X6_23 (by omega) rfl rfl (Nat.le_of_ble_eq_true rfl) ⟨rfl, rfl, Nat.le_of_ble_eq_true rfl, Nat.le_of_ble_eq_true rfl⟩ ⟨Nat.le_of_ble_eq_true rfl, Nat.le_of_ble_eq_true rfl⟩ ?_
  refine cq_conv (va_up (cq_fin cy o a f) a (.inr (6, [.null, .ref (o + (a + 1)), .ref (o + (a + 4))]))) (fun k _ => cq_back (cq_ab_up (by omega) (cq_ab_fin (by omega))) k) ?_
  refine cq_num (N' := a + 59) (kc' := 58) (ks' := 7059) rfl rfl rfl ?_
  refine cq_putF (ci := 6) C dX6_init_35 [.null, .ref (o + (a + 1)), .ref (o + (a + 4))] tyX6 tyX6_ok nmX6 (by omega) (by omega) (by simp [va_up] <;> omega) rfl ct_inX6 (k := 0) (by decide) rfl rfl rfl hin rfl mv_77 (by rfl) (by rfl) (Nat.le_of_ble_eq_true rfl) ?_
  refine cq_conv (va_up (cq_fin cy o a f) a (.inr (6, [.ref (o + (a + 7)), .ref (o + (a + 1)), .ref (o + (a + 4))]))) (fun k _ => by simp only [va_up]; (repeat' split) <;> first | rfl | (exfalso; omega)) ?_
  exact cq_vret C hr hlk dX6_init_38 rfl (fun k hk => by
    by_cases h1 : k = a
    · rw [h1, va_up_self]; unfold cq_fin; rw [if_neg (by omega), ct_E6 ka] <;> rfl
    · rw [va_up_ne _ _ h1])
