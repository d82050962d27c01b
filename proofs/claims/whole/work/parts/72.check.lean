set_option maxRecDepth 100000 in
theorem oa_88 : okAll 88 = true := by decide +kernel
set_option maxRecDepth 100000 in
theorem om_88 : okM 88 = true := by decide +kernel
set_option maxRecDepth 100000 in
theorem oa_89 : okAll 89 = true := by decide +kernel
set_option maxRecDepth 100000 in
theorem om_89 : okM 89 = true := by decide +kernel
set_option maxRecDepth 100000 in
theorem oa_90 : okAll 90 = true := by decide +kernel
set_option maxRecDepth 100000 in
theorem om_90 : okM 90 = true := by decide +kernel
set_option maxRecDepth 100000 in
theorem oa_91 : okAll 91 = true := by decide +kernel
set_option maxRecDepth 100000 in
theorem om_91 : okM 91 = true := by decide +kernel
set_option maxRecDepth 100000 in
theorem oa_92 : okAll 92 = true := by decide +kernel
set_option maxRecDepth 100000 in
theorem om_92 : okM 92 = true := by decide +kernel
set_option maxRecDepth 100000 in
theorem oa_93 : okAll 93 = true := by decide +kernel
set_option maxRecDepth 100000 in
theorem om_93 : okM 93 = true := by decide +kernel
set_option maxRecDepth 100000 in
theorem oa_94 : okAll 94 = true := by decide +kernel
set_option maxRecDepth 100000 in
theorem om_94 : okM 94 = true := by decide +kernel
set_option maxRecDepth 100000 in
theorem oa_95 : okAll 95 = true := by decide +kernel
set_option maxRecDepth 100000 in
theorem om_95 : okM 95 = true := by decide +kernel
set_option maxRecDepth 100000 in
theorem oa_96 : okAll 96 = true := by decide +kernel
set_option maxRecDepth 100000 in
theorem om_96 : okM 96 = true := by decide +kernel
set_option maxRecDepth 100000 in
theorem oa_97 : okAll 97 = true := by decide +kernel
set_option maxRecDepth 100000 in
theorem om_97 : okM 97 = true := by decide +kernel
set_option maxRecDepth 100000 in
theorem oa_98 : okAll 98 = true := by decide +kernel
set_option maxRecDepth 100000 in
theorem om_98 : okM 98 = true := by decide +kernel
set_option maxRecDepth 100000 in
theorem oa_99 : okAll 99 = true := by decide +kernel
set_option maxRecDepth 100000 in
theorem om_99 : okM 99 = true := by decide +kernel
set_option maxRecDepth 100000 in
theorem oa_100 : okAll 100 = true := by decide +kernel
set_option maxRecDepth 100000 in
theorem om_100 : okM 100 = true := by decide +kernel
set_option maxRecDepth 100000 in
theorem oa_101 : okAll 101 = true := by decide +kernel
set_option maxRecDepth 100000 in
theorem om_101 : okM 101 = true := by decide +kernel
set_option maxRecDepth 100000 in
theorem oa_102 : okAll 102 = true := by decide +kernel
set_option maxRecDepth 100000 in
theorem om_102 : okM 102 = true := by decide +kernel
set_option maxRecDepth 100000 in
theorem oa_103 : okAll 103 = true := by decide +kernel
set_option maxRecDepth 100000 in
theorem om_103 : okM 103 = true := by decide +kernel
set_option maxRecDepth 100000 in
theorem oa_104 : okAll 104 = true := by decide +kernel
set_option maxRecDepth 100000 in
theorem om_104 : okM 104 = true := by decide +kernel
set_option maxRecDepth 100000 in
theorem oa_105 : okAll 105 = true := by decide +kernel
set_option maxRecDepth 100000 in
theorem om_105 : okM 105 = true := by decide +kernel
set_option maxRecDepth 100000 in
theorem oa_106 : okAll 106 = true := by decide +kernel
set_option maxRecDepth 100000 in
theorem om_106 : okM 106 = true := by decide +kernel
set_option maxRecDepth 100000 in
theorem oa_107 : okAll 107 = true := by decide +kernel
set_option maxRecDepth 100000 in
theorem om_107 : okM 107 = true := by decide +kernel
set_option maxRecDepth 100000 in
theorem oa_108 : okAll 108 = true := by decide +kernel
set_option maxRecDepth 100000 in
theorem om_108 : okM 108 = true := by decide +kernel
set_option maxRecDepth 100000 in
theorem oa_109 : okAll 109 = true := by decide +kernel
set_option maxRecDepth 100000 in
theorem om_109 : okM 109 = true := by decide +kernel
set_option maxRecDepth 100000 in
theorem oa_110 : okAll 110 = true := by decide +kernel
set_option maxRecDepth 100000 in
theorem om_110 : okM 110 = true := by decide +kernel
set_option maxRecDepth 100000 in
theorem oa_111 : okAll 111 = true := by decide +kernel
set_option maxRecDepth 100000 in
theorem om_111 : okM 111 = true := by decide +kernel
set_option maxRecDepth 100000 in
theorem oa_112 : okAll 112 = true := by decide +kernel
set_option maxRecDepth 100000 in
theorem om_112 : okM 112 = true := by decide +kernel
set_option maxRecDepth 100000 in
theorem oa_113 : okAll 113 = true := by decide +kernel
set_option maxRecDepth 100000 in
theorem om_113 : okM 113 = true := by decide +kernel
set_option maxRecDepth 100000 in
theorem oa_114 : okAll 114 = true := by decide +kernel
set_option maxRecDepth 100000 in
theorem om_114 : okM 114 = true := by decide +kernel
set_option maxRecDepth 100000 in
theorem oa_115 : okAll 115 = true := by decide +kernel
set_option maxRecDepth 100000 in
theorem om_115 : okM 115 = true := by decide +kernel
set_option maxRecDepth 100000 in
theorem oa_116 : okAll 116 = true := by decide +kernel
set_option maxRecDepth 100000 in
theorem om_116 : okM 116 = true := by decide +kernel
set_option maxRecDepth 100000 in
theorem oa_117 : okAll 117 = true := by decide +kernel
set_option maxRecDepth 100000 in
theorem om_117 : okM 117 = true := by decide +kernel
set_option maxRecDepth 100000 in
theorem oa_118 : okAll 118 = true := by decide +kernel
set_option maxRecDepth 100000 in
theorem om_118 : okM 118 = true := by decide +kernel
set_option maxRecDepth 100000 in
theorem oa_119 : okAll 119 = true := by decide +kernel
set_option maxRecDepth 100000 in
theorem om_119 : okM 119 = true := by decide +kernel
set_option maxRecDepth 100000 in
theorem oa_120 : okAll 120 = true := by decide +kernel
set_option maxRecDepth 100000 in
theorem om_120 : okM 120 = true := by decide +kernel
set_option maxRecDepth 100000 in
theorem oa_121 : okAll 121 = true := by decide +kernel
set_option maxRecDepth 100000 in
theorem om_121 : okM 121 = true := by decide +kernel
set_option maxRecDepth 100000 in
theorem oa_122 : okAll 122 = true := by decide +kernel
set_option maxRecDepth 100000 in
theorem om_122 : okM 122 = true := by decide +kernel
set_option maxRecDepth 100000 in
theorem oa_123 : okAll 123 = true := by decide +kernel
set_option maxRecDepth 100000 in
theorem om_123 : okM 123 = true := by decide +kernel
set_option maxRecDepth 100000 in
theorem oa_124 : okAll 124 = true := by decide +kernel
set_option maxRecDepth 100000 in
theorem om_124 : okM 124 = true := by decide +kernel
set_option maxRecDepth 100000 in
theorem oa_125 : okAll 125 = true := by decide +kernel
set_option maxRecDepth 100000 in
theorem om_125 : okM 125 = true := by decide +kernel
set_option maxRecDepth 100000 in
theorem oa_126 : okAll 126 = true := by decide +kernel
set_option maxRecDepth 100000 in
theorem om_126 : okM 126 = true := by decide +kernel
set_option maxRecDepth 100000 in
theorem oa_127 : okAll 127 = true := by decide +kernel
set_option maxRecDepth 100000 in
theorem om_127 : okM 127 = true := by decide +kernel
set_option maxRecDepth 100000 in
theorem oa_128 : okAll 128 = true := by decide +kernel
set_option maxRecDepth 100000 in
theorem om_128 : okM 128 = true := by decide +kernel
set_option maxRecDepth 100000 in
theorem oa_129 : okAll 129 = true := by decide +kernel
set_option maxRecDepth 100000 in
theorem om_129 : okM 129 = true := by decide +kernel
set_option maxRecDepth 100000 in
theorem oa_130 : okAll 130 = true := by decide +kernel
set_option maxRecDepth 100000 in
theorem om_130 : okM 130 = true := by decide +kernel
set_option maxRecDepth 100000 in
theorem oa_131 : okAll 131 = true := by decide +kernel
set_option maxRecDepth 100000 in
theorem om_131 : okM 131 = true := by decide +kernel
set_option maxRecDepth 100000 in
theorem oa_132 : okAll 132 = true := by decide +kernel
set_option maxRecDepth 100000 in
theorem om_132 : okM 132 = true := by decide +kernel
set_option maxRecDepth 100000 in
theorem oa_133 : okAll 133 = true := by decide +kernel
set_option maxRecDepth 100000 in
theorem om_133 : okM 133 = true := by decide +kernel
set_option maxRecDepth 100000 in
theorem oa_134 : okAll 134 = true := by decide +kernel
set_option maxRecDepth 100000 in
theorem om_134 : okM 134 = true := by decide +kernel
set_option maxRecDepth 100000 in
theorem oa_135 : okAll 135 = true := by decide +kernel
set_option maxRecDepth 100000 in
theorem om_135 : okM 135 = true := by decide +kernel
set_option maxRecDepth 100000 in
theorem oa_136 : okAll 136 = true := by decide +kernel
set_option maxRecDepth 100000 in
theorem om_136 : okM 136 = true := by decide +kernel
set_option maxRecDepth 100000 in
theorem oa_137 : okAll 137 = true := by decide +kernel
set_option maxRecDepth 100000 in
theorem om_137 : okM 137 = true := by decide +kernel
set_option maxRecDepth 100000 in
theorem oa_138 : okAll 138 = true := by decide +kernel
set_option maxRecDepth 100000 in
theorem om_138 : okM 138 = true := by decide +kernel
set_option maxRecDepth 100000 in
theorem oa_139 : okAll 139 = true := by decide +kernel
set_option maxRecDepth 100000 in
theorem om_139 : okM 139 = true := by decide +kernel
set_option maxRecDepth 100000 in
theorem oa_140 : okAll 140 = true := by decide +kernel
set_option maxRecDepth 100000 in
theorem om_140 : okM 140 = true := by decide +kernel
