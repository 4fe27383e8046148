/-! the kinds of the classes' fields -/
theorem xk0_0 : xw_cr 0 0 = true := by decide +kernel
theorem xk0_1 : xw_cr 0 1 = true := by decide +kernel
theorem xk0_2 : xw_cr 0 2 = true := by decide +kernel
theorem xk0_3 : xw_cr 0 3 = true := by decide +kernel
theorem xk0_4 : xw_cr 0 4 = true := by decide +kernel
theorem xk0_5 : xw_cr 0 5 = true := by decide +kernel
theorem xk0_6 : xw_cr 0 6 = true := by decide +kernel
theorem xk0_7 : xw_cr 0 7 = true := by decide +kernel
theorem xk0_8 : xw_cr 0 8 = true := by decide +kernel
theorem xk0_9 : xw_cr 0 9 = true := by decide +kernel
theorem xk0_10 : xw_cr 0 10 = true := by decide +kernel
theorem xk0_11 : xw_cr 0 11 = true := by decide +kernel
theorem xk0_12 : xw_ck 0 12 2 = true := by decide +kernel
theorem xk0_13 : xw_ck 0 13 2 = true := by decide +kernel
theorem xk0_14 : xw_ck 0 14 0 = true := by decide +kernel
theorem xk0_15 : xw_ck 0 15 0 = true := by decide +kernel
theorem xk0_16 : xw_ck 0 16 0 = true := by decide +kernel
theorem xk1_0 : xw_cr 1 0 = true := by decide +kernel
theorem xk1_1 : xw_ck 1 1 0 = true := by decide +kernel
theorem xk1_2 : xw_ck 1 2 0 = true := by decide +kernel
theorem xk1_3 : xw_ck 1 3 0 = true := by decide +kernel
theorem xk1_4 : xw_ck 1 4 0 = true := by decide +kernel
theorem xk1_5 : xw_ck 1 5 0 = true := by decide +kernel
theorem xk1_6 : xw_ck 1 6 0 = true := by decide +kernel
theorem xk1_7 : xw_ck 1 7 0 = true := by decide +kernel
theorem xk2_0 : xw_cr 2 0 = true := by decide +kernel
theorem xk2_1 : xw_ck 2 1 0 = true := by decide +kernel
theorem xk2_2 : xw_ck 2 2 0 = true := by decide +kernel
theorem xk2_3 : xw_cr 2 3 = true := by decide +kernel
theorem xk2_4 : xw_cr 2 4 = true := by decide +kernel
theorem xk3_0 : xw_cr 3 0 = true := by decide +kernel
theorem xk3_1 : xw_cr 3 1 = true := by decide +kernel
theorem xk3_2 : xw_cr 3 2 = true := by decide +kernel
theorem xk3_3 : xw_cr 3 3 = true := by decide +kernel
theorem xk3_4 : xw_cr 3 4 = true := by decide +kernel
theorem xk3_5 : xw_cr 3 5 = true := by decide +kernel
theorem xk3_6 : xw_cr 3 6 = true := by decide +kernel
theorem xk3_7 : xw_cr 3 7 = true := by decide +kernel
theorem xk3_8 : xw_cr 3 8 = true := by decide +kernel
theorem xk3_9 : xw_ck 3 9 0 = true := by decide +kernel
theorem xk3_10 : xw_ck 3 10 0 = true := by decide +kernel
theorem xk3_11 : xw_ck 3 11 0 = true := by decide +kernel
theorem xk3_12 : xw_ck 3 12 0 = true := by decide +kernel
theorem xk4_0 : xw_cr 4 0 = true := by decide +kernel
theorem xk4_1 : xw_ck 4 1 0 = true := by decide +kernel
theorem xk4_2 : xw_ck 4 2 0 = true := by decide +kernel
theorem xk4_3 : xw_cr 4 3 = true := by decide +kernel
theorem xk4_4 : xw_cr 4 4 = true := by decide +kernel
theorem xk4_5 : xw_cr 4 5 = true := by decide +kernel
theorem xk4_6 : xw_ck 4 6 0 = true := by decide +kernel
theorem xk4_7 : xw_cr 4 7 = true := by decide +kernel
theorem xk4_8 : xw_ck 4 8 0 = true := by decide +kernel
theorem xk4_9 : xw_cr 4 9 = true := by decide +kernel
theorem xk4_10 : xw_ck 4 10 0 = true := by decide +kernel
theorem xk4_11 : xw_cr 4 11 = true := by decide +kernel
theorem xk4_12 : xw_cr 4 12 = true := by decide +kernel
theorem xk4_13 : xw_ck 4 13 0 = true := by decide +kernel
theorem xk4_14 : xw_cr 4 14 = true := by decide +kernel
theorem xk4_15 : xw_cr 4 15 = true := by decide +kernel
theorem xk5_0 : xw_cr 5 0 = true := by decide +kernel
theorem xk5_1 : xw_cr 5 1 = true := by decide +kernel
theorem xk5_2 : xw_cr 5 2 = true := by decide +kernel
theorem xk5_3 : xw_cr 5 3 = true := by decide +kernel
theorem xk5_4 : xw_ck 5 4 0 = true := by decide +kernel
theorem xk6_0 : xw_cr 6 0 = true := by decide +kernel
theorem xk6_1 : xw_cr 6 1 = true := by decide +kernel
theorem xk6_2 : xw_cr 6 2 = true := by decide +kernel
theorem xk6_3 : xw_cr 6 3 = true := by decide +kernel
theorem xk6_4 : xw_cr 6 4 = true := by decide +kernel
theorem xk6_5 : xw_cr 6 5 = true := by decide +kernel
theorem xk6_6 : xw_cr 6 6 = true := by decide +kernel
theorem xk6_7 : xw_ck 6 7 0 = true := by decide +kernel
theorem xk7_0 : xw_cr 7 0 = true := by decide +kernel
theorem xk7_1 : xw_cr 7 1 = true := by decide +kernel
theorem xk7_2 : xw_cr 7 2 = true := by decide +kernel
theorem xk7_3 : xw_cr 7 3 = true := by decide +kernel
theorem xk7_4 : xw_cr 7 4 = true := by decide +kernel
theorem xk7_5 : xw_ck 7 5 0 = true := by decide +kernel
theorem xk7_6 : xw_ck 7 6 0 = true := by decide +kernel
theorem xk7_7 : xw_ck 7 7 0 = true := by decide +kernel
theorem xk7_8 : xw_ck 7 8 0 = true := by decide +kernel
theorem xk8_0 : xw_cr 8 0 = true := by decide +kernel
theorem xk8_1 : xw_cr 8 1 = true := by decide +kernel
theorem xk8_2 : xw_cr 8 2 = true := by decide +kernel
theorem xk8_3 : xw_cr 8 3 = true := by decide +kernel
theorem xk8_4 : xw_cr 8 4 = true := by decide +kernel
theorem xk8_5 : xw_ck 8 5 0 = true := by decide +kernel
theorem xk9_0 : xw_cr 9 0 = true := by decide +kernel
theorem xk9_1 : xw_cr 9 1 = true := by decide +kernel
theorem xk9_2 : xw_cr 9 2 = true := by decide +kernel
theorem xk9_3 : xw_cr 9 3 = true := by decide +kernel
theorem xk9_4 : xw_cr 9 4 = true := by decide +kernel
theorem xk9_5 : xw_cr 9 5 = true := by decide +kernel
theorem xk9_6 : xw_ck 9 6 0 = true := by decide +kernel
theorem xk9_7 : xw_ck 9 7 0 = true := by decide +kernel
theorem xk9_8 : xw_ck 9 8 0 = true := by decide +kernel
theorem xk9_9 : xw_ck 9 9 0 = true := by decide +kernel
theorem xk10_0 : xw_ck 10 0 0 = true := by decide +kernel
theorem xk10_1 : xw_cr 10 1 = true := by decide +kernel
theorem xk10_2 : xw_cr 10 2 = true := by decide +kernel
theorem xk10_3 : xw_cr 10 3 = true := by decide +kernel
theorem xk10_4 : xw_cr 10 4 = true := by decide +kernel
theorem xk10_5 : xw_cr 10 5 = true := by decide +kernel
theorem xk10_6 : xw_cr 10 6 = true := by decide +kernel
theorem xk10_7 : xw_cr 10 7 = true := by decide +kernel
theorem xk10_8 : xw_ck 10 8 0 = true := by decide +kernel
theorem xk10_9 : xw_ck 10 9 0 = true := by decide +kernel
theorem xk10_10 : xw_ck 10 10 0 = true := by decide +kernel
theorem xk10_11 : xw_ck 10 11 0 = true := by decide +kernel
theorem xk10_12 : xw_cr 10 12 = true := by decide +kernel
theorem xk10_13 : xw_cr 10 13 = true := by decide +kernel
theorem xk10_14 : xw_ck 10 14 0 = true := by decide +kernel
theorem xk10_15 : xw_cr 10 15 = true := by decide +kernel
theorem xk10_16 : xw_cr 10 16 = true := by decide +kernel
theorem xk10_17 : xw_cr 10 17 = true := by decide +kernel
theorem xk10_18 : xw_ck 10 18 0 = true := by decide +kernel
theorem xk10_19 : xw_ck 10 19 0 = true := by decide +kernel
theorem xk11_0 : xw_cr 11 0 = true := by decide +kernel
theorem xk11_1 : xw_ck 11 1 0 = true := by decide +kernel
theorem xk11_2 : xw_ck 11 2 0 = true := by decide +kernel
theorem xk11_3 : xw_ck 11 3 0 = true := by decide +kernel
theorem xk11_4 : xw_cr 11 4 = true := by decide +kernel
theorem xk11_5 : xw_cr 11 5 = true := by decide +kernel
theorem xk11_6 : xw_cr 11 6 = true := by decide +kernel
theorem xk11_7 : xw_cr 11 7 = true := by decide +kernel
theorem xk11_8 : xw_cr 11 8 = true := by decide +kernel
theorem xk11_9 : xw_ck 11 9 0 = true := by decide +kernel
theorem xk11_10 : xw_ck 11 10 0 = true := by decide +kernel
theorem xk11_11 : xw_ck 11 11 1 = true := by decide +kernel
theorem xk11_12 : xw_ck 11 12 1 = true := by decide +kernel
theorem xk11_13 : xw_ck 11 13 1 = true := by decide +kernel
theorem xk11_14 : xw_ck 11 14 1 = true := by decide +kernel
theorem xk12_0 : xw_ck 12 0 4 = true := by decide +kernel
theorem xk12_1 : xw_ck 12 1 0 = true := by decide +kernel
theorem xk12_2 : xw_ck 12 2 0 = true := by decide +kernel
theorem xk12_3 : xw_ck 12 3 0 = true := by decide +kernel
theorem xk12_4 : xw_cr 12 4 = true := by decide +kernel
theorem xk12_5 : xw_ck 12 5 0 = true := by decide +kernel
theorem xk12_6 : xw_ck 12 6 0 = true := by decide +kernel
theorem xk12_7 : xw_ck 12 7 0 = true := by decide +kernel
theorem xk12_8 : xw_ck 12 8 0 = true := by decide +kernel
theorem xk12_9 : xw_ck 12 9 0 = true := by decide +kernel
theorem xk12_10 : xw_ck 12 10 0 = true := by decide +kernel
theorem xk12_11 : xw_ck 12 11 0 = true := by decide +kernel
theorem xk12_12 : xw_ck 12 12 0 = true := by decide +kernel
theorem xk12_13 : xw_ck 12 13 0 = true := by decide +kernel
theorem xk12_14 : xw_ck 12 14 0 = true := by decide +kernel
theorem xk12_15 : xw_cr 12 15 = true := by decide +kernel
theorem xk12_16 : xw_cr 12 16 = true := by decide +kernel
theorem xk12_17 : xw_cr 12 17 = true := by decide +kernel
theorem xk12_18 : xw_cr 12 18 = true := by decide +kernel
theorem xk12_19 : xw_ck 12 19 0 = true := by decide +kernel
theorem xk12_20 : xw_cr 12 20 = true := by decide +kernel
theorem xk12_21 : xw_cr 12 21 = true := by decide +kernel
theorem xk12_22 : xw_ck 12 22 2 = true := by decide +kernel
theorem xk12_23 : xw_ck 12 23 2 = true := by decide +kernel
theorem xk12_24 : xw_ck 12 24 0 = true := by decide +kernel
theorem xk12_25 : xw_ck 12 25 0 = true := by decide +kernel
theorem xk12_26 : xw_ck 12 26 0 = true := by decide +kernel
theorem xk12_27 : xw_ck 12 27 0 = true := by decide +kernel
theorem xk12_28 : xw_cr 12 28 = true := by decide +kernel
theorem xk12_29 : xw_cr 12 29 = true := by decide +kernel
theorem xk12_30 : xw_cr 12 30 = true := by decide +kernel
theorem xk12_31 : xw_ck 12 31 0 = true := by decide +kernel
theorem xk12_32 : xw_ck 12 32 0 = true := by decide +kernel
theorem xk12_33 : xw_ck 12 33 0 = true := by decide +kernel
theorem xk12_34 : xw_cr 12 34 = true := by decide +kernel
theorem xk12_35 : xw_cr 12 35 = true := by decide +kernel
theorem xk12_36 : xw_cr 12 36 = true := by decide +kernel
theorem xk12_37 : xw_cr 12 37 = true := by decide +kernel
theorem xk12_38 : xw_ck 12 38 0 = true := by decide +kernel
theorem xk12_39 : xw_ck 12 39 0 = true := by decide +kernel
theorem xk12_40 : xw_ck 12 40 0 = true := by decide +kernel
theorem xk12_41 : xw_cr 12 41 = true := by decide +kernel
theorem xk12_42 : xw_cr 12 42 = true := by decide +kernel
theorem xk12_43 : xw_ck 12 43 0 = true := by decide +kernel
theorem xk12_44 : xw_cr 12 44 = true := by decide +kernel
theorem xk12_45 : xw_cr 12 45 = true := by decide +kernel
theorem xk12_46 : xw_cr 12 46 = true := by decide +kernel
theorem xk12_47 : xw_cr 12 47 = true := by decide +kernel
theorem xk12_48 : xw_cr 12 48 = true := by decide +kernel
theorem xk12_49 : xw_ck 12 49 0 = true := by decide +kernel
theorem xk12_50 : xw_ck 12 50 0 = true := by decide +kernel
theorem xk12_51 : xw_ck 12 51 0 = true := by decide +kernel
theorem xk12_52 : xw_ck 12 52 0 = true := by decide +kernel
theorem xk12_53 : xw_cr 12 53 = true := by decide +kernel
theorem xk12_54 : xw_cr 12 54 = true := by decide +kernel
theorem xk12_55 : xw_cr 12 55 = true := by decide +kernel
theorem xk12_56 : xw_cr 12 56 = true := by decide +kernel
theorem xk12_57 : xw_ck 12 57 0 = true := by decide +kernel
theorem xk12_58 : xw_ck 12 58 0 = true := by decide +kernel
theorem xk12_59 : xw_ck 12 59 2 = true := by decide +kernel
theorem xk12_60 : xw_ck 12 60 2 = true := by decide +kernel
theorem xk12_61 : xw_ck 12 61 0 = true := by decide +kernel
theorem xk12_62 : xw_cr 12 62 = true := by decide +kernel
theorem xk12_63 : xw_cr 12 63 = true := by decide +kernel
theorem xk12_64 : xw_cr 12 64 = true := by decide +kernel
theorem xk12_65 : xw_ck 12 65 0 = true := by decide +kernel
theorem xk12_66 : xw_ck 12 66 0 = true := by decide +kernel
theorem xk12_67 : xw_cr 12 67 = true := by decide +kernel
theorem xk12_68 : xw_cr 12 68 = true := by decide +kernel
theorem xk12_69 : xw_cr 12 69 = true := by decide +kernel
theorem xk12_70 : xw_cr 12 70 = true := by decide +kernel
theorem xk12_71 : xw_cr 12 71 = true := by decide +kernel
theorem xk12_72 : xw_cr 12 72 = true := by decide +kernel
theorem xk12_73 : xw_ck 12 73 2 = true := by decide +kernel
theorem xk12_74 : xw_ck 12 74 2 = true := by decide +kernel
theorem xk12_75 : xw_cr 12 75 = true := by decide +kernel
theorem xk13_0 : xw_ck 13 0 0 = true := by decide +kernel
theorem xk13_1 : xw_cr 13 1 = true := by decide +kernel
theorem xk13_2 : xw_cr 13 2 = true := by decide +kernel
theorem xk13_3 : xw_cr 13 3 = true := by decide +kernel
theorem xk13_4 : xw_ck 13 4 0 = true := by decide +kernel
theorem xk13_5 : xw_cr 13 5 = true := by decide +kernel
theorem xk13_6 : xw_ck 13 6 0 = true := by decide +kernel
theorem xk13_7 : xw_cr 13 7 = true := by decide +kernel
theorem xk13_8 : xw_cr 13 8 = true := by decide +kernel
theorem xk13_9 : xw_ck 13 9 0 = true := by decide +kernel
theorem xk13_10 : xw_cr 13 10 = true := by decide +kernel
theorem xk13_11 : xw_ck 13 11 0 = true := by decide +kernel
theorem xk13_12 : xw_cr 13 12 = true := by decide +kernel
theorem xk13_13 : xw_ck 13 13 0 = true := by decide +kernel
theorem xk13_14 : xw_cr 13 14 = true := by decide +kernel
theorem xk13_15 : xw_cr 13 15 = true := by decide +kernel
theorem xk13_16 : xw_cr 13 16 = true := by decide +kernel
theorem xk13_17 : xw_cr 13 17 = true := by decide +kernel
theorem xk13_18 : xw_cr 13 18 = true := by decide +kernel
