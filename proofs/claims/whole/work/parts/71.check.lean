set_option maxRecDepth 100000 in
theorem oa_55 : okAll 55 = true := by decide +kernel
set_option maxRecDepth 100000 in
theorem om_55 : okM 55 = true := by decide +kernel
set_option maxRecDepth 100000 in
theorem oa_56 : okAll 56 = true := by decide +kernel
set_option maxRecDepth 100000 in
theorem om_56 : okM 56 = true := by decide +kernel
set_option maxRecDepth 100000 in
theorem oa_57 : okAll 57 = true := by decide +kernel
set_option maxRecDepth 100000 in
theorem om_57 : okM 57 = true := by decide +kernel
set_option maxRecDepth 100000 in
theorem oa_58 : okAll 58 = true := by decide +kernel
set_option maxRecDepth 100000 in
theorem om_58 : okM 58 = true := by decide +kernel
set_option maxRecDepth 100000 in
theorem oa_59 : okAll 59 = true := by decide +kernel
set_option maxRecDepth 100000 in
theorem om_59 : okM 59 = true := by decide +kernel
set_option maxRecDepth 100000 in
theorem oa_60 : okAll 60 = true := by decide +kernel
set_option maxRecDepth 100000 in
theorem om_60 : okM 60 = true := by decide +kernel
set_option maxRecDepth 100000 in
theorem oa_61 : okAll 61 = true := by decide +kernel
set_option maxRecDepth 100000 in
theorem om_61 : okM 61 = true := by decide +kernel
set_option maxRecDepth 100000 in
theorem oa_62 : okAll 62 = true := by decide +kernel
set_option maxRecDepth 100000 in
theorem om_62 : okM 62 = true := by decide +kernel
set_option maxRecDepth 100000 in
theorem oa_63 : okAll 63 = true := by decide +kernel
set_option maxRecDepth 100000 in
theorem om_63 : okM 63 = true := by decide +kernel
set_option maxRecDepth 100000 in
theorem oa_64 : okAll 64 = true := by decide +kernel
set_option maxRecDepth 100000 in
theorem om_64 : okM 64 = true := by decide +kernel
set_option maxRecDepth 100000 in
theorem oa_65 : okAll 65 = true := by decide +kernel
set_option maxRecDepth 100000 in
theorem om_65 : okM 65 = true := by decide +kernel
set_option maxRecDepth 100000 in
theorem oa_66 : okAll 66 = true := by decide +kernel
set_option maxRecDepth 100000 in
theorem om_66 : okM 66 = true := by decide +kernel
set_option maxRecDepth 100000 in
theorem oa_67 : okAll 67 = true := by decide +kernel
set_option maxRecDepth 100000 in
theorem om_67 : okM 67 = true := by decide +kernel
set_option maxRecDepth 100000 in
theorem oa_68 : okAll 68 = true := by decide +kernel
set_option maxRecDepth 100000 in
theorem om_68 : okM 68 = true := by decide +kernel
set_option maxRecDepth 100000 in
theorem oa_69 : okAll 69 = true := by decide +kernel
set_option maxRecDepth 100000 in
theorem om_69 : okM 69 = true := by decide +kernel
set_option maxRecDepth 100000 in
theorem oa_70 : okAll 70 = true := by decide +kernel
set_option maxRecDepth 100000 in
theorem om_70 : okM 70 = true := by decide +kernel
set_option maxRecDepth 100000 in
theorem oa_71 : okAll 71 = true := by decide +kernel
set_option maxRecDepth 100000 in
theorem om_71 : okM 71 = true := by decide +kernel
set_option maxRecDepth 100000 in
theorem oa_72 : okAll 72 = true := by decide +kernel
set_option maxRecDepth 100000 in
theorem om_72 : okM 72 = true := by decide +kernel
set_option maxRecDepth 100000 in
theorem oa_73 : okAll 73 = true := by decide +kernel
set_option maxRecDepth 100000 in
theorem om_73 : okM 73 = true := by decide +kernel
set_option maxRecDepth 100000 in
theorem oa_74 : okAll 74 = true := by decide +kernel
set_option maxRecDepth 100000 in
theorem om_74 : okM 74 = true := by decide +kernel
set_option maxRecDepth 100000 in
theorem oa_75 : okAll 75 = true := by decide +kernel
set_option maxRecDepth 100000 in
theorem om_75 : okM 75 = true := by decide +kernel
set_option maxRecDepth 100000 in
theorem oa_76 : okAll 76 = true := by decide +kernel
set_option maxRecDepth 100000 in
theorem om_76 : okM 76 = true := by decide +kernel
set_option maxRecDepth 100000 in
theorem oa_77 : okAll 77 = true := by decide +kernel
set_option maxRecDepth 100000 in
theorem om_77 : okM 77 = true := by decide +kernel
set_option maxRecDepth 100000 in
theorem oa_78 : okAll 78 = true := by decide +kernel
set_option maxRecDepth 100000 in
theorem om_78 : okM 78 = true := by decide +kernel
set_option maxRecDepth 100000 in
theorem oa_79 : okAll 79 = true := by decide +kernel
set_option maxRecDepth 100000 in
theorem om_79 : okM 79 = true := by decide +kernel
set_option maxRecDepth 100000 in
theorem oa_80 : okAll 80 = true := by decide +kernel
set_option maxRecDepth 100000 in
theorem om_80 : okM 80 = true := by decide +kernel
set_option maxRecDepth 100000 in
theorem oa_81 : okAll 81 = true := by decide +kernel
set_option maxRecDepth 100000 in
theorem om_81 : okM 81 = true := by decide +kernel
set_option maxRecDepth 100000 in
theorem oa_82 : okAll 82 = true := by decide +kernel
set_option maxRecDepth 100000 in
theorem om_82 : okM 82 = true := by decide +kernel
set_option maxRecDepth 100000 in
theorem oa_83 : okAll 83 = true := by decide +kernel
set_option maxRecDepth 100000 in
theorem om_83 : okM 83 = true := by decide +kernel
set_option maxRecDepth 100000 in
theorem oa_84 : okAll 84 = true := by decide +kernel
set_option maxRecDepth 100000 in
theorem om_84 : okM 84 = true := by decide +kernel
set_option maxRecDepth 100000 in
theorem oa_85 : okAll 85 = true := by decide +kernel
set_option maxRecDepth 100000 in
theorem om_85 : okM 85 = true := by decide +kernel
set_option maxRecDepth 100000 in
theorem oa_86 : okAll 86 = true := by decide +kernel
set_option maxRecDepth 100000 in
theorem om_86 : okM 86 = true := by decide +kernel
set_option maxRecDepth 100000 in
theorem oa_87 : okAll 87 = true := by decide +kernel
set_option maxRecDepth 100000 in
theorem om_87 : okM 87 = true := by decide +kernel
