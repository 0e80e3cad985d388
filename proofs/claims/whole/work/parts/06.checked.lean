/-! every method of the data is checked -/
theorem pf_p_0_0 : pf_part 0 0 = true := by decide +kernel
theorem pf_p_0_1 : pf_part 0 1 = true := by decide +kernel
theorem pf_p_0_2 : pf_part 0 2 = true := by decide +kernel
theorem pf_p_0_3 : pf_part 0 3 = true := by decide +kernel
theorem pf_p_0_4 : pf_part 0 4 = true := by decide +kernel
theorem pf_p_0_5 : pf_part 0 5 = true := by decide +kernel
theorem pf_p_0_6 : pf_part 0 6 = true := by decide +kernel
theorem pf_p_0_7 : pf_part 0 7 = true := by decide +kernel
theorem pf_p_0_8 : pf_part 0 8 = true := by decide +kernel
theorem pf_p_0_9 : pf_part 0 9 = true := by decide +kernel
theorem pf_p_0_10 : pf_part 0 10 = true := by decide +kernel
theorem pf_p_0_11 : pf_part 0 11 = true := by decide +kernel
theorem pf_p_0_12 : pf_part 0 12 = true := by decide +kernel
theorem pf_p_0_13 : pf_part 0 13 = true := by decide +kernel
theorem pf_p_0_14 : pf_part 0 14 = true := by decide +kernel
theorem pf_p_0_15 : pf_part 0 15 = true := by decide +kernel
theorem pf_p_0_16 : pf_part 0 16 = true := by decide +kernel
theorem pf_p_0_17 : pf_part 0 17 = true := by decide +kernel
theorem pf_p_0_18 : pf_part 0 18 = true := by decide +kernel
theorem pf_p_0_19 : pf_part 0 19 = true := by decide +kernel
theorem pf_p_0_20 : pf_part 0 20 = true := by decide +kernel
theorem pf_p_0_21 : pf_part 0 21 = true := by decide +kernel
theorem pf_p_0_22 : pf_part 0 22 = true := by decide +kernel
theorem pf_p_0_23 : pf_part 0 23 = true := by decide +kernel
theorem pf_p_0_24 : pf_part 0 24 = true := by decide +kernel
theorem pf_p_0_25 : pf_part 0 25 = true := by decide +kernel
theorem pf_p_0_26 : pf_part 0 26 = true := by decide +kernel
theorem pf_p_0_27 : pf_part 0 27 = true := by decide +kernel
theorem pf_p_0_28 : pf_part 0 28 = true := by decide +kernel
theorem pf_p_0_29 : pf_part 0 29 = true := by decide +kernel
theorem pf_p_0_30 : pf_part 0 30 = true := by decide +kernel
theorem pf_p_0_31 : pf_part 0 31 = true := by decide +kernel
theorem pf_p_0_32 : pf_part 0 32 = true := by decide +kernel
theorem pf_p_0_33 : pf_part 0 33 = true := by decide +kernel
theorem pf_p_0_34 : pf_part 0 34 = true := by decide +kernel
theorem pf_p_0_35 : pf_part 0 35 = true := by decide +kernel
theorem pf_p_0_36 : pf_part 0 36 = true := by decide +kernel
theorem pf_p_0_37 : pf_part 0 37 = true := by decide +kernel
theorem pf_p_0_38 : pf_part 0 38 = true := by decide +kernel
theorem pf_p_0_39 : pf_part 0 39 = true := by decide +kernel
theorem pf_p_0_40 : pf_part 0 40 = true := by decide +kernel
theorem pf_p_0_41 : pf_part 0 41 = true := by decide +kernel
theorem pf_p_0_42 : pf_part 0 42 = true := by decide +kernel
theorem pf_p_0_43 : pf_part 0 43 = true := by decide +kernel
theorem pf_p_0_44 : pf_part 0 44 = true := by decide +kernel
theorem pf_p_0_45 : pf_part 0 45 = true := by decide +kernel
theorem pf_p_0_46 : pf_part 0 46 = true := by decide +kernel
theorem pf_p_0_47 : pf_part 0 47 = true := by decide +kernel
theorem pf_p_0_48 : pf_part 0 48 = true := by decide +kernel
theorem pf_p_0_49 : pf_part 0 49 = true := by decide +kernel
theorem pf_p_0_50 : pf_part 0 50 = true := by decide +kernel
theorem pf_m_0 : pf_run 0 = true := pf_run_of (n := 51) (by decide +kernel) rfl (fun j hj => match j, hj with
  | 0, _ => pf_p_0_0
  | 1, _ => pf_p_0_1
  | 2, _ => pf_p_0_2
  | 3, _ => pf_p_0_3
  | 4, _ => pf_p_0_4
  | 5, _ => pf_p_0_5
  | 6, _ => pf_p_0_6
  | 7, _ => pf_p_0_7
  | 8, _ => pf_p_0_8
  | 9, _ => pf_p_0_9
  | 10, _ => pf_p_0_10
  | 11, _ => pf_p_0_11
  | 12, _ => pf_p_0_12
  | 13, _ => pf_p_0_13
  | 14, _ => pf_p_0_14
  | 15, _ => pf_p_0_15
  | 16, _ => pf_p_0_16
  | 17, _ => pf_p_0_17
  | 18, _ => pf_p_0_18
  | 19, _ => pf_p_0_19
  | 20, _ => pf_p_0_20
  | 21, _ => pf_p_0_21
  | 22, _ => pf_p_0_22
  | 23, _ => pf_p_0_23
  | 24, _ => pf_p_0_24
  | 25, _ => pf_p_0_25
  | 26, _ => pf_p_0_26
  | 27, _ => pf_p_0_27
  | 28, _ => pf_p_0_28
  | 29, _ => pf_p_0_29
  | 30, _ => pf_p_0_30
  | 31, _ => pf_p_0_31
  | 32, _ => pf_p_0_32
  | 33, _ => pf_p_0_33
  | 34, _ => pf_p_0_34
  | 35, _ => pf_p_0_35
  | 36, _ => pf_p_0_36
  | 37, _ => pf_p_0_37
  | 38, _ => pf_p_0_38
  | 39, _ => pf_p_0_39
  | 40, _ => pf_p_0_40
  | 41, _ => pf_p_0_41
  | 42, _ => pf_p_0_42
  | 43, _ => pf_p_0_43
  | 44, _ => pf_p_0_44
  | 45, _ => pf_p_0_45
  | 46, _ => pf_p_0_46
  | 47, _ => pf_p_0_47
  | 48, _ => pf_p_0_48
  | 49, _ => pf_p_0_49
  | 50, _ => pf_p_0_50
  | j + 51, hj => absurd hj (by omega))
