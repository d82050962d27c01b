set_option maxRecDepth 100000 in
theorem oa_0 : okAll 0 = true := by decide +kernel
set_option maxRecDepth 100000 in
theorem om_0 : okM 0 = true := by decide +kernel
set_option maxRecDepth 100000 in
theorem oa_1 : okAll 1 = true := by decide +kernel
set_option maxRecDepth 100000 in
theorem om_1 : okM 1 = true := by decide +kernel
set_option maxRecDepth 100000 in
theorem oa_2 : okAll 2 = true := by decide +kernel
set_option maxRecDepth 100000 in
theorem om_2 : okM 2 = true := by decide +kernel
set_option maxRecDepth 100000 in
theorem oa_3 : okAll 3 = true := by decide +kernel
set_option maxRecDepth 100000 in
theorem om_3 : okM 3 = true := by decide +kernel
set_option maxRecDepth 100000 in
theorem oa_4 : okAll 4 = true := by decide +kernel
set_option maxRecDepth 100000 in
theorem om_4 : okM 4 = true := by decide +kernel
set_option maxRecDepth 100000 in
theorem oa_5 : okAll 5 = true := by decide +kernel
set_option maxRecDepth 100000 in
theorem om_5 : okM 5 = true := by decide +kernel
set_option maxRecDepth 100000 in
theorem oa_6 : okAll 6 = true := by decide +kernel
set_option maxRecDepth 100000 in
theorem om_6 : okM 6 = true := by decide +kernel
set_option maxRecDepth 100000 in
theorem oa_7 : okAll 7 = true := by decide +kernel
set_option maxRecDepth 100000 in
theorem om_7 : okM 7 = true := by decide +kernel
set_option maxRecDepth 100000 in
theorem oa_8 : okAll 8 = true := by decide +kernel
set_option maxRecDepth 100000 in
theorem om_8 : okM 8 = true := by decide +kernel
set_option maxRecDepth 100000 in
theorem oa_9 : okAll 9 = true := by decide +kernel
set_option maxRecDepth 100000 in
theorem om_9 : okM 9 = true := by decide +kernel
set_option maxRecDepth 100000 in
theorem oa_10 : okAll 10 = true := by decide +kernel
set_option maxRecDepth 100000 in
theorem om_10 : okM 10 = true := by decide +kernel
set_option maxRecDepth 100000 in
theorem oa_11 : okAll 11 = true := by decide +kernel
set_option maxRecDepth 100000 in
theorem om_11 : okM 11 = true := by decide +kernel
set_option maxRecDepth 100000 in
theorem oa_12 : okAll 12 = true := by decide +kernel
set_option maxRecDepth 100000 in
theorem om_12 : okM 12 = true := by decide +kernel
set_option maxRecDepth 100000 in
theorem oa_13 : okAll 13 = true := by decide +kernel
set_option maxRecDepth 100000 in
theorem om_13 : okM 13 = true := by decide +kernel
set_option maxRecDepth 100000 in
theorem oa_14 : okAll 14 = true := by decide +kernel
set_option maxRecDepth 100000 in
theorem om_14 : okM 14 = true := by decide +kernel
set_option maxRecDepth 100000 in
theorem oa_15 : okAll 15 = true := by decide +kernel
set_option maxRecDepth 100000 in
theorem om_15 : okM 15 = true := by decide +kernel
set_option maxRecDepth 100000 in
theorem oa_16 : okAll 16 = true := by decide +kernel
set_option maxRecDepth 100000 in
theorem om_16 : okM 16 = true := by decide +kernel
set_option maxRecDepth 100000 in
theorem oa_17 : okAll 17 = true := by decide +kernel
set_option maxRecDepth 100000 in
theorem om_17 : okM 17 = true := by decide +kernel
set_option maxRecDepth 100000 in
theorem oa_18 : okAll 18 = true := by decide +kernel
set_option maxRecDepth 100000 in
theorem om_18 : okM 18 = true := by decide +kernel
set_option maxRecDepth 100000 in
theorem oa_19 : okAll 19 = true := by decide +kernel
set_option maxRecDepth 100000 in
theorem om_19 : okM 19 = true := by decide +kernel
set_option maxRecDepth 100000 in
theorem oa_20 : okAll 20 = true := by decide +kernel
set_option maxRecDepth 100000 in
theorem om_20 : okM 20 = true := by decide +kernel
set_option maxRecDepth 100000 in
theorem oa_21 : okAll 21 = true := by decide +kernel
set_option maxRecDepth 100000 in
theorem om_21 : okM 21 = true := by decide +kernel
set_option maxRecDepth 100000 in
theorem oa_22 : okAll 22 = true := by decide +kernel
set_option maxRecDepth 100000 in
theorem om_22 : okM 22 = true := by decide +kernel
set_option maxRecDepth 100000 in
theorem oa_23 : okAll 23 = true := by decide +kernel
set_option maxRecDepth 100000 in
theorem om_23 : okM 23 = true := by decide +kernel
set_option maxRecDepth 100000 in
theorem oa_24 : okAll 24 = true := by decide +kernel
set_option maxRecDepth 100000 in
theorem om_24 : okM 24 = true := by decide +kernel
set_option maxRecDepth 100000 in
theorem oa_25 : okAll 25 = true := by decide +kernel
set_option maxRecDepth 100000 in
theorem om_25 : okM 25 = true := by decide +kernel
set_option maxRecDepth 100000 in
theorem oa_26 : okAll 26 = true := by decide +kernel
set_option maxRecDepth 100000 in
theorem om_26 : okM 26 = true := by decide +kernel
set_option maxRecDepth 100000 in
theorem oa_27 : okAll 27 = true := by decide +kernel
set_option maxRecDepth 100000 in
theorem om_27 : okM 27 = true := by decide +kernel
set_option maxRecDepth 100000 in
theorem oa_28 : okAll 28 = true := by decide +kernel
set_option maxRecDepth 100000 in
theorem om_28 : okM 28 = true := by decide +kernel
set_option maxRecDepth 100000 in
theorem oa_29 : okAll 29 = true := by decide +kernel
set_option maxRecDepth 100000 in
theorem om_29 : okM 29 = true := by decide +kernel
set_option maxRecDepth 100000 in
theorem oa_30 : okAll 30 = true := by decide +kernel
set_option maxRecDepth 100000 in
theorem om_30 : okM 30 = true := by decide +kernel
set_option maxRecDepth 100000 in
theorem oa_31 : okAll 31 = true := by decide +kernel
set_option maxRecDepth 100000 in
theorem om_31 : okM 31 = true := by decide +kernel
set_option maxRecDepth 100000 in
theorem oa_32 : okAll 32 = true := by decide +kernel
set_option maxRecDepth 100000 in
theorem om_32 : okM 32 = true := by decide +kernel
set_option maxRecDepth 100000 in
theorem oa_33 : okAll 33 = true := by decide +kernel
set_option maxRecDepth 100000 in
theorem om_33 : okM 33 = true := by decide +kernel
set_option maxRecDepth 100000 in
theorem oa_34 : okAll 34 = true := by decide +kernel
set_option maxRecDepth 100000 in
theorem om_34 : okM 34 = true := by decide +kernel
set_option maxRecDepth 100000 in
theorem oa_35 : okAll 35 = true := by decide +kernel
set_option maxRecDepth 100000 in
theorem om_35 : okM 35 = true := by decide +kernel
set_option maxRecDepth 100000 in
theorem oa_36 : okAll 36 = true := by decide +kernel
set_option maxRecDepth 100000 in
theorem om_36 : okM 36 = true := by decide +kernel
set_option maxRecDepth 100000 in
theorem oa_37 : okAll 37 = true := by decide +kernel
set_option maxRecDepth 100000 in
theorem om_37 : okM 37 = true := by decide +kernel
set_option maxRecDepth 100000 in
theorem oa_38 : okAll 38 = true := by decide +kernel
set_option maxRecDepth 100000 in
theorem om_38 : okM 38 = true := by decide +kernel
set_option maxRecDepth 100000 in
theorem oa_39 : okAll 39 = true := by decide +kernel
set_option maxRecDepth 100000 in
theorem om_39 : okM 39 = true := by decide +kernel
set_option maxRecDepth 100000 in
theorem oa_40 : okAll 40 = true := by decide +kernel
set_option maxRecDepth 100000 in
theorem om_40 : okM 40 = true := by decide +kernel
set_option maxRecDepth 100000 in
theorem oa_41 : okAll 41 = true := by decide +kernel
set_option maxRecDepth 100000 in
theorem om_41 : okM 41 = true := by decide +kernel
set_option maxRecDepth 100000 in
theorem oa_42 : okAll 42 = true := by decide +kernel
set_option maxRecDepth 100000 in
theorem om_42 : okM 42 = true := by decide +kernel
set_option maxRecDepth 100000 in
theorem oa_43 : okAll 43 = true := by decide +kernel
set_option maxRecDepth 100000 in
theorem om_43 : okM 43 = true := by decide +kernel
set_option maxRecDepth 100000 in
theorem oa_44 : okAll 44 = true := by decide +kernel
set_option maxRecDepth 100000 in
theorem om_44 : okM 44 = true := by decide +kernel
set_option maxRecDepth 100000 in
theorem oa_45 : okAll 45 = true := by decide +kernel
set_option maxRecDepth 100000 in
theorem om_45 : okM 45 = true := by decide +kernel
set_option maxRecDepth 100000 in
theorem oa_46 : okAll 46 = true := by decide +kernel
set_option maxRecDepth 100000 in
theorem om_46 : okM 46 = true := by decide +kernel
set_option maxRecDepth 100000 in
theorem oa_47 : okAll 47 = true := by decide +kernel
set_option maxRecDepth 100000 in
theorem om_47 : okM 47 = true := by decide +kernel
set_option maxRecDepth 100000 in
theorem oa_48 : okAll 48 = true := by decide +kernel
set_option maxRecDepth 100000 in
theorem om_48 : okM 48 = true := by decide +kernel
set_option maxRecDepth 100000 in
theorem oa_49 : okAll 49 = true := by decide +kernel
set_option maxRecDepth 100000 in
theorem om_49 : okM 49 = true := by decide +kernel
set_option maxRecDepth 100000 in
theorem oa_50 : okAll 50 = true := by decide +kernel
set_option maxRecDepth 100000 in
theorem om_50 : okM 50 = true := by decide +kernel
set_option maxRecDepth 100000 in
theorem oa_51 : okAll 51 = true := by decide +kernel
set_option maxRecDepth 100000 in
theorem om_51 : okM 51 = true := by decide +kernel
set_option maxRecDepth 100000 in
theorem oa_52 : okAll 52 = true := by decide +kernel
set_option maxRecDepth 100000 in
theorem om_52 : okM 52 = true := by decide +kernel
set_option maxRecDepth 100000 in
theorem oa_53 : okAll 53 = true := by decide +kernel
set_option maxRecDepth 100000 in
theorem om_53 : okM 53 = true := by decide +kernel
set_option maxRecDepth 100000 in
theorem oa_54 : okAll 54 = true := by decide +kernel
set_option maxRecDepth 100000 in
theorem om_54 : okM 54 = true := by decide +kernel
