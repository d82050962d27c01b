/-! ALL CHECKS TOGETHER -/
def okP (k : Nat) : Prop := (okAll k = true ∧ okM k = true) ∨ (okY k = false ∧ plainName (ownM k) = false)
theorem fa {n : Nat} (h : okP n) (r : ∀ k, k < n → okP k) : ∀ k, k < n + 1 → okP k := fun k hk => by
  by_cases q : k < n
  · exact r k q
  · have : k = n := by omega
    rw [this]; exact h
theorem al_0 : ∀ k, k < 0 → okP k := fun k h => absurd h (Nat.not_lt_zero k)
theorem al_1 : ∀ k, k < 1 → okP k := fa (Or.inl ⟨oa_0, om_0⟩) al_0
theorem al_2 : ∀ k, k < 2 → okP k := fa (Or.inl ⟨oa_1, om_1⟩) al_1
theorem al_3 : ∀ k, k < 3 → okP k := fa (Or.inl ⟨oa_2, om_2⟩) al_2
theorem al_4 : ∀ k, k < 4 → okP k := fa (Or.inl ⟨oa_3, om_3⟩) al_3
theorem al_5 : ∀ k, k < 5 → okP k := fa (Or.inl ⟨oa_4, om_4⟩) al_4
theorem al_6 : ∀ k, k < 6 → okP k := fa (Or.inl ⟨oa_5, om_5⟩) al_5
theorem al_7 : ∀ k, k < 7 → okP k := fa (Or.inl ⟨oa_6, om_6⟩) al_6
theorem al_8 : ∀ k, k < 8 → okP k := fa (Or.inl ⟨oa_7, om_7⟩) al_7
theorem al_9 : ∀ k, k < 9 → okP k := fa (Or.inl ⟨oa_8, om_8⟩) al_8
theorem al_10 : ∀ k, k < 10 → okP k := fa (Or.inl ⟨oa_9, om_9⟩) al_9
theorem al_11 : ∀ k, k < 11 → okP k := fa (Or.inl ⟨oa_10, om_10⟩) al_10
theorem al_12 : ∀ k, k < 12 → okP k := fa (Or.inl ⟨oa_11, om_11⟩) al_11
theorem al_13 : ∀ k, k < 13 → okP k := fa (Or.inl ⟨oa_12, om_12⟩) al_12
theorem al_14 : ∀ k, k < 14 → okP k := fa (Or.inl ⟨oa_13, om_13⟩) al_13
theorem al_15 : ∀ k, k < 15 → okP k := fa (Or.inl ⟨oa_14, om_14⟩) al_14
theorem al_16 : ∀ k, k < 16 → okP k := fa (Or.inl ⟨oa_15, om_15⟩) al_15
theorem al_17 : ∀ k, k < 17 → okP k := fa (Or.inl ⟨oa_16, om_16⟩) al_16
theorem al_18 : ∀ k, k < 18 → okP k := fa (Or.inl ⟨oa_17, om_17⟩) al_17
theorem al_19 : ∀ k, k < 19 → okP k := fa (Or.inl ⟨oa_18, om_18⟩) al_18
theorem al_20 : ∀ k, k < 20 → okP k := fa (Or.inl ⟨oa_19, om_19⟩) al_19
theorem al_21 : ∀ k, k < 21 → okP k := fa (Or.inl ⟨oa_20, om_20⟩) al_20
theorem al_22 : ∀ k, k < 22 → okP k := fa (Or.inl ⟨oa_21, om_21⟩) al_21
theorem al_23 : ∀ k, k < 23 → okP k := fa (Or.inl ⟨oa_22, om_22⟩) al_22
theorem al_24 : ∀ k, k < 24 → okP k := fa (Or.inl ⟨oa_23, om_23⟩) al_23
theorem al_25 : ∀ k, k < 25 → okP k := fa (Or.inl ⟨oa_24, om_24⟩) al_24
theorem al_26 : ∀ k, k < 26 → okP k := fa (Or.inl ⟨oa_25, om_25⟩) al_25
theorem al_27 : ∀ k, k < 27 → okP k := fa (Or.inl ⟨oa_26, om_26⟩) al_26
theorem al_28 : ∀ k, k < 28 → okP k := fa (Or.inl ⟨oa_27, om_27⟩) al_27
theorem al_29 : ∀ k, k < 29 → okP k := fa (Or.inl ⟨oa_28, om_28⟩) al_28
theorem al_30 : ∀ k, k < 30 → okP k := fa (Or.inl ⟨oa_29, om_29⟩) al_29
theorem al_31 : ∀ k, k < 31 → okP k := fa (Or.inl ⟨oa_30, om_30⟩) al_30
theorem al_32 : ∀ k, k < 32 → okP k := fa (Or.inl ⟨oa_31, om_31⟩) al_31
theorem al_33 : ∀ k, k < 33 → okP k := fa (Or.inl ⟨oa_32, om_32⟩) al_32
theorem al_34 : ∀ k, k < 34 → okP k := fa (Or.inl ⟨oa_33, om_33⟩) al_33
theorem al_35 : ∀ k, k < 35 → okP k := fa (Or.inl ⟨oa_34, om_34⟩) al_34
theorem al_36 : ∀ k, k < 36 → okP k := fa (Or.inl ⟨oa_35, om_35⟩) al_35
theorem al_37 : ∀ k, k < 37 → okP k := fa (Or.inl ⟨oa_36, om_36⟩) al_36
theorem al_38 : ∀ k, k < 38 → okP k := fa (Or.inl ⟨oa_37, om_37⟩) al_37
theorem al_39 : ∀ k, k < 39 → okP k := fa (Or.inl ⟨oa_38, om_38⟩) al_38
theorem al_40 : ∀ k, k < 40 → okP k := fa (Or.inl ⟨oa_39, om_39⟩) al_39
theorem al_41 : ∀ k, k < 41 → okP k := fa (Or.inl ⟨oa_40, om_40⟩) al_40
theorem al_42 : ∀ k, k < 42 → okP k := fa (Or.inl ⟨oa_41, om_41⟩) al_41
theorem al_43 : ∀ k, k < 43 → okP k := fa (Or.inl ⟨oa_42, om_42⟩) al_42
theorem al_44 : ∀ k, k < 44 → okP k := fa (Or.inl ⟨oa_43, om_43⟩) al_43
theorem al_45 : ∀ k, k < 45 → okP k := fa (Or.inl ⟨oa_44, om_44⟩) al_44
theorem al_46 : ∀ k, k < 46 → okP k := fa (Or.inl ⟨oa_45, om_45⟩) al_45
theorem al_47 : ∀ k, k < 47 → okP k := fa (Or.inl ⟨oa_46, om_46⟩) al_46
theorem al_48 : ∀ k, k < 48 → okP k := fa (Or.inl ⟨oa_47, om_47⟩) al_47
theorem al_49 : ∀ k, k < 49 → okP k := fa (Or.inl ⟨oa_48, om_48⟩) al_48
theorem al_50 : ∀ k, k < 50 → okP k := fa (Or.inl ⟨oa_49, om_49⟩) al_49
theorem al_51 : ∀ k, k < 51 → okP k := fa (Or.inl ⟨oa_50, om_50⟩) al_50
theorem al_52 : ∀ k, k < 52 → okP k := fa (Or.inl ⟨oa_51, om_51⟩) al_51
theorem al_53 : ∀ k, k < 53 → okP k := fa (Or.inl ⟨oa_52, om_52⟩) al_52
theorem al_54 : ∀ k, k < 54 → okP k := fa (Or.inl ⟨oa_53, om_53⟩) al_53
theorem al_55 : ∀ k, k < 55 → okP k := fa (Or.inl ⟨oa_54, om_54⟩) al_54
theorem al_56 : ∀ k, k < 56 → okP k := fa (Or.inl ⟨oa_55, om_55⟩) al_55
theorem al_57 : ∀ k, k < 57 → okP k := fa (Or.inl ⟨oa_56, om_56⟩) al_56
theorem al_58 : ∀ k, k < 58 → okP k := fa (Or.inl ⟨oa_57, om_57⟩) al_57
theorem al_59 : ∀ k, k < 59 → okP k := fa (Or.inl ⟨oa_58, om_58⟩) al_58
theorem al_60 : ∀ k, k < 60 → okP k := fa (Or.inl ⟨oa_59, om_59⟩) al_59
theorem al_61 : ∀ k, k < 61 → okP k := fa (Or.inl ⟨oa_60, om_60⟩) al_60
theorem al_62 : ∀ k, k < 62 → okP k := fa (Or.inl ⟨oa_61, om_61⟩) al_61
theorem al_63 : ∀ k, k < 63 → okP k := fa (Or.inl ⟨oa_62, om_62⟩) al_62
theorem al_64 : ∀ k, k < 64 → okP k := fa (Or.inl ⟨oa_63, om_63⟩) al_63
theorem al_65 : ∀ k, k < 65 → okP k := fa (Or.inl ⟨oa_64, om_64⟩) al_64
theorem al_66 : ∀ k, k < 66 → okP k := fa (Or.inl ⟨oa_65, om_65⟩) al_65
theorem al_67 : ∀ k, k < 67 → okP k := fa (Or.inl ⟨oa_66, om_66⟩) al_66
theorem al_68 : ∀ k, k < 68 → okP k := fa (Or.inl ⟨oa_67, om_67⟩) al_67
theorem al_69 : ∀ k, k < 69 → okP k := fa (Or.inl ⟨oa_68, om_68⟩) al_68
theorem al_70 : ∀ k, k < 70 → okP k := fa (Or.inl ⟨oa_69, om_69⟩) al_69
theorem al_71 : ∀ k, k < 71 → okP k := fa (Or.inl ⟨oa_70, om_70⟩) al_70
theorem al_72 : ∀ k, k < 72 → okP k := fa (Or.inl ⟨oa_71, om_71⟩) al_71
theorem al_73 : ∀ k, k < 73 → okP k := fa (Or.inl ⟨oa_72, om_72⟩) al_72
theorem al_74 : ∀ k, k < 74 → okP k := fa (Or.inl ⟨oa_73, om_73⟩) al_73
theorem al_75 : ∀ k, k < 75 → okP k := fa (Or.inl ⟨oa_74, om_74⟩) al_74
theorem al_76 : ∀ k, k < 76 → okP k := fa (Or.inl ⟨oa_75, om_75⟩) al_75
theorem al_77 : ∀ k, k < 77 → okP k := fa (Or.inl ⟨oa_76, om_76⟩) al_76
theorem al_78 : ∀ k, k < 78 → okP k := fa (Or.inl ⟨oa_77, om_77⟩) al_77
theorem al_79 : ∀ k, k < 79 → okP k := fa (Or.inl ⟨oa_78, om_78⟩) al_78
theorem al_80 : ∀ k, k < 80 → okP k := fa (Or.inl ⟨oa_79, om_79⟩) al_79
theorem al_81 : ∀ k, k < 81 → okP k := fa (Or.inl ⟨oa_80, om_80⟩) al_80
theorem al_82 : ∀ k, k < 82 → okP k := fa (Or.inl ⟨oa_81, om_81⟩) al_81
theorem al_83 : ∀ k, k < 83 → okP k := fa (Or.inl ⟨oa_82, om_82⟩) al_82
theorem al_84 : ∀ k, k < 84 → okP k := fa (Or.inl ⟨oa_83, om_83⟩) al_83
theorem al_85 : ∀ k, k < 85 → okP k := fa (Or.inl ⟨oa_84, om_84⟩) al_84
theorem al_86 : ∀ k, k < 86 → okP k := fa (Or.inl ⟨oa_85, om_85⟩) al_85
theorem al_87 : ∀ k, k < 87 → okP k := fa (Or.inl ⟨oa_86, om_86⟩) al_86
theorem al_88 : ∀ k, k < 88 → okP k := fa (Or.inl ⟨oa_87, om_87⟩) al_87
theorem al_89 : ∀ k, k < 89 → okP k := fa (Or.inl ⟨oa_88, om_88⟩) al_88
theorem al_90 : ∀ k, k < 90 → okP k := fa (Or.inl ⟨oa_89, om_89⟩) al_89
theorem al_91 : ∀ k, k < 91 → okP k := fa (Or.inl ⟨oa_90, om_90⟩) al_90
theorem al_92 : ∀ k, k < 92 → okP k := fa (Or.inl ⟨oa_91, om_91⟩) al_91
theorem al_93 : ∀ k, k < 93 → okP k := fa (Or.inl ⟨oa_92, om_92⟩) al_92
theorem al_94 : ∀ k, k < 94 → okP k := fa (Or.inl ⟨oa_93, om_93⟩) al_93
theorem al_95 : ∀ k, k < 95 → okP k := fa (Or.inl ⟨oa_94, om_94⟩) al_94
theorem al_96 : ∀ k, k < 96 → okP k := fa (Or.inl ⟨oa_95, om_95⟩) al_95
theorem al_97 : ∀ k, k < 97 → okP k := fa (Or.inl ⟨oa_96, om_96⟩) al_96
theorem al_98 : ∀ k, k < 98 → okP k := fa (Or.inl ⟨oa_97, om_97⟩) al_97
theorem al_99 : ∀ k, k < 99 → okP k := fa (Or.inl ⟨oa_98, om_98⟩) al_98
theorem al_100 : ∀ k, k < 100 → okP k := fa (Or.inl ⟨oa_99, om_99⟩) al_99
theorem al_101 : ∀ k, k < 101 → okP k := fa (Or.inl ⟨oa_100, om_100⟩) al_100
theorem al_102 : ∀ k, k < 102 → okP k := fa (Or.inl ⟨oa_101, om_101⟩) al_101
theorem al_103 : ∀ k, k < 103 → okP k := fa (Or.inl ⟨oa_102, om_102⟩) al_102
theorem al_104 : ∀ k, k < 104 → okP k := fa (Or.inl ⟨oa_103, om_103⟩) al_103
theorem al_105 : ∀ k, k < 105 → okP k := fa (Or.inl ⟨oa_104, om_104⟩) al_104
theorem al_106 : ∀ k, k < 106 → okP k := fa (Or.inl ⟨oa_105, om_105⟩) al_105
theorem al_107 : ∀ k, k < 107 → okP k := fa (Or.inl ⟨oa_106, om_106⟩) al_106
theorem al_108 : ∀ k, k < 108 → okP k := fa (Or.inl ⟨oa_107, om_107⟩) al_107
theorem al_109 : ∀ k, k < 109 → okP k := fa (Or.inl ⟨oa_108, om_108⟩) al_108
theorem al_110 : ∀ k, k < 110 → okP k := fa (Or.inl ⟨oa_109, om_109⟩) al_109
theorem al_111 : ∀ k, k < 111 → okP k := fa (Or.inl ⟨oa_110, om_110⟩) al_110
theorem al_112 : ∀ k, k < 112 → okP k := fa (Or.inl ⟨oa_111, om_111⟩) al_111
theorem al_113 : ∀ k, k < 113 → okP k := fa (Or.inl ⟨oa_112, om_112⟩) al_112
theorem al_114 : ∀ k, k < 114 → okP k := fa (Or.inl ⟨oa_113, om_113⟩) al_113
theorem al_115 : ∀ k, k < 115 → okP k := fa (Or.inl ⟨oa_114, om_114⟩) al_114
theorem al_116 : ∀ k, k < 116 → okP k := fa (Or.inl ⟨oa_115, om_115⟩) al_115
theorem al_117 : ∀ k, k < 117 → okP k := fa (Or.inl ⟨oa_116, om_116⟩) al_116
theorem al_118 : ∀ k, k < 118 → okP k := fa (Or.inl ⟨oa_117, om_117⟩) al_117
theorem al_119 : ∀ k, k < 119 → okP k := fa (Or.inl ⟨oa_118, om_118⟩) al_118
theorem al_120 : ∀ k, k < 120 → okP k := fa (Or.inl ⟨oa_119, om_119⟩) al_119
theorem al_121 : ∀ k, k < 121 → okP k := fa (Or.inl ⟨oa_120, om_120⟩) al_120
theorem al_122 : ∀ k, k < 122 → okP k := fa (Or.inl ⟨oa_121, om_121⟩) al_121
theorem al_123 : ∀ k, k < 123 → okP k := fa (Or.inl ⟨oa_122, om_122⟩) al_122
theorem al_124 : ∀ k, k < 124 → okP k := fa (Or.inl ⟨oa_123, om_123⟩) al_123
theorem al_125 : ∀ k, k < 125 → okP k := fa (Or.inl ⟨oa_124, om_124⟩) al_124
theorem al_126 : ∀ k, k < 126 → okP k := fa (Or.inl ⟨oa_125, om_125⟩) al_125
theorem al_127 : ∀ k, k < 127 → okP k := fa (Or.inl ⟨oa_126, om_126⟩) al_126
theorem al_128 : ∀ k, k < 128 → okP k := fa (Or.inl ⟨oa_127, om_127⟩) al_127
theorem al_129 : ∀ k, k < 129 → okP k := fa (Or.inl ⟨oa_128, om_128⟩) al_128
theorem al_130 : ∀ k, k < 130 → okP k := fa (Or.inl ⟨oa_129, om_129⟩) al_129
theorem al_131 : ∀ k, k < 131 → okP k := fa (Or.inl ⟨oa_130, om_130⟩) al_130
theorem al_132 : ∀ k, k < 132 → okP k := fa (Or.inl ⟨oa_131, om_131⟩) al_131
theorem al_133 : ∀ k, k < 133 → okP k := fa (Or.inl ⟨oa_132, om_132⟩) al_132
theorem al_134 : ∀ k, k < 134 → okP k := fa (Or.inl ⟨oa_133, om_133⟩) al_133
theorem al_135 : ∀ k, k < 135 → okP k := fa (Or.inl ⟨oa_134, om_134⟩) al_134
theorem al_136 : ∀ k, k < 136 → okP k := fa (Or.inl ⟨oa_135, om_135⟩) al_135
theorem al_137 : ∀ k, k < 137 → okP k := fa (Or.inl ⟨oa_136, om_136⟩) al_136
theorem al_138 : ∀ k, k < 138 → okP k := fa (Or.inl ⟨oa_137, om_137⟩) al_137
theorem al_139 : ∀ k, k < 139 → okP k := fa (Or.inl ⟨oa_138, om_138⟩) al_138
theorem al_140 : ∀ k, k < 140 → okP k := fa (Or.inl ⟨oa_139, om_139⟩) al_139
theorem al_141 : ∀ k, k < 141 → okP k := fa (Or.inl ⟨oa_140, om_140⟩) al_140
theorem al_142 : ∀ k, k < 142 → okP k := fa (Or.inl ⟨oa_141, om_141⟩) al_141
theorem al_143 : ∀ k, k < 143 → okP k := fa (Or.inl ⟨oa_142, om_142⟩) al_142
theorem al_144 : ∀ k, k < 144 → okP k := fa (Or.inl ⟨oa_143, om_143⟩) al_143
theorem al_145 : ∀ k, k < 145 → okP k := fa (Or.inl ⟨oa_144, om_144⟩) al_144
theorem al_146 : ∀ k, k < 146 → okP k := fa (Or.inl ⟨oa_145, om_145⟩) al_145
theorem al_147 : ∀ k, k < 147 → okP k := fa (Or.inl ⟨oa_146, om_146⟩) al_146
theorem al_148 : ∀ k, k < 148 → okP k := fa (Or.inl ⟨oa_147, om_147⟩) al_147
theorem al_149 : ∀ k, k < 149 → okP k := fa (Or.inl ⟨oa_148, om_148⟩) al_148
theorem al_150 : ∀ k, k < 150 → okP k := fa (Or.inl ⟨oa_149, om_149⟩) al_149
theorem al_151 : ∀ k, k < 151 → okP k := fa (Or.inl ⟨oa_150, om_150⟩) al_150
theorem al_152 : ∀ k, k < 152 → okP k := fa (Or.inl ⟨oa_151, om_151⟩) al_151
theorem al_153 : ∀ k, k < 153 → okP k := fa (Or.inl ⟨oa_152, om_152⟩) al_152
theorem al_154 : ∀ k, k < 154 → okP k := fa (Or.inl ⟨oa_153, om_153⟩) al_153
theorem al_155 : ∀ k, k < 155 → okP k := fa (Or.inl ⟨oa_154, om_154⟩) al_154
theorem al_156 : ∀ k, k < 156 → okP k := fa (Or.inl ⟨oa_155, om_155⟩) al_155
theorem al_157 : ∀ k, k < 157 → okP k := fa (Or.inl ⟨oa_156, om_156⟩) al_156
theorem al_158 : ∀ k, k < 158 → okP k := fa (Or.inl ⟨oa_157, om_157⟩) al_157
theorem al_159 : ∀ k, k < 159 → okP k := fa (Or.inl ⟨oa_158, om_158⟩) al_158
theorem al_160 : ∀ k, k < 160 → okP k := fa (Or.inl ⟨oa_159, om_159⟩) al_159
theorem al_161 : ∀ k, k < 161 → okP k := fa (Or.inl ⟨oa_160, om_160⟩) al_160
theorem al_162 : ∀ k, k < 162 → okP k := fa (Or.inl ⟨oa_161, om_161⟩) al_161
theorem al_163 : ∀ k, k < 163 → okP k := fa (Or.inl ⟨oa_162, om_162⟩) al_162
theorem al_164 : ∀ k, k < 164 → okP k := fa (Or.inl ⟨oa_163, om_163⟩) al_163
theorem al_165 : ∀ k, k < 165 → okP k := fa (Or.inl ⟨oa_164, om_164⟩) al_164
theorem al_166 : ∀ k, k < 166 → okP k := fa (Or.inl ⟨oa_165, om_165⟩) al_165
theorem al_167 : ∀ k, k < 167 → okP k := fa (Or.inl ⟨oa_166, om_166⟩) al_166
theorem al_168 : ∀ k, k < 168 → okP k := fa (Or.inl ⟨oa_167, om_167⟩) al_167
theorem al_169 : ∀ k, k < 169 → okP k := fa (Or.inl ⟨oa_168, om_168⟩) al_168
theorem al_170 : ∀ k, k < 170 → okP k := fa (Or.inl ⟨oa_169, om_169⟩) al_169
theorem al_171 : ∀ k, k < 171 → okP k := fa (Or.inl ⟨oa_170, om_170⟩) al_170
theorem al_172 : ∀ k, k < 172 → okP k := fa (Or.inl ⟨oa_171, om_171⟩) al_171
theorem al_173 : ∀ k, k < 173 → okP k := fa (Or.inl ⟨oa_172, om_172⟩) al_172
theorem al_174 : ∀ k, k < 174 → okP k := fa (Or.inl ⟨oa_173, om_173⟩) al_173
theorem al_175 : ∀ k, k < 175 → okP k := fa (Or.inl ⟨oa_174, om_174⟩) al_174
theorem al_176 : ∀ k, k < 176 → okP k := fa (Or.inl ⟨oa_175, om_175⟩) al_175
theorem al_177 : ∀ k, k < 177 → okP k := fa (Or.inl ⟨oa_176, om_176⟩) al_176
theorem al_178 : ∀ k, k < 178 → okP k := fa (Or.inl ⟨oa_177, om_177⟩) al_177
theorem al_179 : ∀ k, k < 179 → okP k := fa (Or.inl ⟨oa_178, om_178⟩) al_178
theorem al_180 : ∀ k, k < 180 → okP k := fa (Or.inl ⟨oa_179, om_179⟩) al_179
theorem al_181 : ∀ k, k < 181 → okP k := fa (Or.inl ⟨oa_180, om_180⟩) al_180
theorem al_182 : ∀ k, k < 182 → okP k := fa (Or.inl ⟨oa_181, om_181⟩) al_181
theorem al_183 : ∀ k, k < 183 → okP k := fa (Or.inl ⟨oa_182, om_182⟩) al_182
theorem al_184 : ∀ k, k < 184 → okP k := fa (Or.inl ⟨oa_183, om_183⟩) al_183
theorem al_185 : ∀ k, k < 185 → okP k := fa (Or.inl ⟨oa_184, om_184⟩) al_184
theorem al_186 : ∀ k, k < 186 → okP k := fa (Or.inl ⟨oa_185, om_185⟩) al_185
theorem al_187 : ∀ k, k < 187 → okP k := fa (Or.inl ⟨oa_186, om_186⟩) al_186
theorem al_188 : ∀ k, k < 188 → okP k := fa (Or.inl ⟨oa_187, om_187⟩) al_187
theorem al_189 : ∀ k, k < 189 → okP k := fa (Or.inl ⟨oa_188, om_188⟩) al_188
theorem al_190 : ∀ k, k < 190 → okP k := fa (Or.inl ⟨oa_189, om_189⟩) al_189
theorem al_191 : ∀ k, k < 191 → okP k := fa (Or.inl ⟨oa_190, om_190⟩) al_190
theorem al_192 : ∀ k, k < 192 → okP k := fa (Or.inl ⟨oa_191, om_191⟩) al_191
theorem al_193 : ∀ k, k < 193 → okP k := fa (Or.inl ⟨oa_192, om_192⟩) al_192
theorem al_194 : ∀ k, k < 194 → okP k := fa (Or.inl ⟨oa_193, om_193⟩) al_193
theorem al_195 : ∀ k, k < 195 → okP k := fa (Or.inl ⟨oa_194, om_194⟩) al_194
theorem al_196 : ∀ k, k < 196 → okP k := fa (Or.inl ⟨oa_195, om_195⟩) al_195
theorem al_197 : ∀ k, k < 197 → okP k := fa (Or.inl ⟨oa_196, om_196⟩) al_196
theorem al_198 : ∀ k, k < 198 → okP k := fa (Or.inl ⟨oa_197, om_197⟩) al_197
theorem al_199 : ∀ k, k < 199 → okP k := fa (Or.inl ⟨oa_198, om_198⟩) al_198
theorem al_200 : ∀ k, k < 200 → okP k := fa (Or.inl ⟨oa_199, om_199⟩) al_199
theorem al_201 : ∀ k, k < 201 → okP k := fa (Or.inl ⟨oa_200, om_200⟩) al_200
theorem al_202 : ∀ k, k < 202 → okP k := fa (Or.inl ⟨oa_201, om_201⟩) al_201
theorem al_203 : ∀ k, k < 203 → okP k := fa (Or.inl ⟨oa_202, om_202⟩) al_202
theorem al_204 : ∀ k, k < 204 → okP k := fa (Or.inl ⟨oa_203, om_203⟩) al_203
theorem al_205 : ∀ k, k < 205 → okP k := fa (Or.inl ⟨oa_204, om_204⟩) al_204
theorem al_206 : ∀ k, k < 206 → okP k := fa (Or.inl ⟨oa_205, om_205⟩) al_205
theorem al_207 : ∀ k, k < 207 → okP k := fa (Or.inl ⟨oa_206, om_206⟩) al_206
theorem al_208 : ∀ k, k < 208 → okP k := fa (Or.inl ⟨oa_207, om_207⟩) al_207
theorem al_209 : ∀ k, k < 209 → okP k := fa (Or.inl ⟨oa_208, om_208⟩) al_208
theorem al_210 : ∀ k, k < 210 → okP k := fa (Or.inl ⟨oa_209, om_209⟩) al_209
theorem al_211 : ∀ k, k < 211 → okP k := fa (Or.inl ⟨oa_210, om_210⟩) al_210
theorem al_212 : ∀ k, k < 212 → okP k := fa (Or.inl ⟨oa_211, om_211⟩) al_211
theorem al_213 : ∀ k, k < 213 → okP k := fa (Or.inl ⟨oa_212, om_212⟩) al_212
theorem al_214 : ∀ k, k < 214 → okP k := fa (Or.inl ⟨oa_213, om_213⟩) al_213
theorem al_215 : ∀ k, k < 215 → okP k := fa (Or.inl ⟨oa_214, om_214⟩) al_214
theorem al_216 : ∀ k, k < 216 → okP k := fa (Or.inl ⟨oa_215, om_215⟩) al_215
theorem al_217 : ∀ k, k < 217 → okP k := fa (Or.inl ⟨oa_216, om_216⟩) al_216
theorem al_218 : ∀ k, k < 218 → okP k := fa (Or.inl ⟨oa_217, om_217⟩) al_217
theorem al_219 : ∀ k, k < 219 → okP k := fa (Or.inl ⟨oa_218, om_218⟩) al_218
theorem al_220 : ∀ k, k < 220 → okP k := fa (Or.inl ⟨oa_219, om_219⟩) al_219
theorem al_221 : ∀ k, k < 221 → okP k := fa (Or.inl ⟨oa_220, om_220⟩) al_220
theorem al_222 : ∀ k, k < 222 → okP k := fa (Or.inl ⟨oa_221, om_221⟩) al_221
theorem al_223 : ∀ k, k < 223 → okP k := fa (Or.inl ⟨oa_222, om_222⟩) al_222
theorem al_224 : ∀ k, k < 224 → okP k := fa (Or.inl ⟨oa_223, om_223⟩) al_223
theorem al_225 : ∀ k, k < 225 → okP k := fa (Or.inl ⟨oa_224, om_224⟩) al_224
theorem al_226 : ∀ k, k < 226 → okP k := fa (Or.inl ⟨oa_225, om_225⟩) al_225
theorem al_227 : ∀ k, k < 227 → okP k := fa (Or.inl ⟨oa_226, om_226⟩) al_226
theorem al_228 : ∀ k, k < 228 → okP k := fa (Or.inl ⟨oa_227, om_227⟩) al_227
theorem al_229 : ∀ k, k < 229 → okP k := fa (Or.inl ⟨oa_228, om_228⟩) al_228
theorem al_230 : ∀ k, k < 230 → okP k := fa (Or.inl ⟨oa_229, om_229⟩) al_229
theorem al_231 : ∀ k, k < 231 → okP k := fa (Or.inl ⟨oa_230, om_230⟩) al_230
theorem al_232 : ∀ k, k < 232 → okP k := fa (Or.inl ⟨oa_231, om_231⟩) al_231
theorem al_233 : ∀ k, k < 233 → okP k := fa (Or.inl ⟨oa_232, om_232⟩) al_232
theorem al_234 : ∀ k, k < 234 → okP k := fa (Or.inl ⟨oa_233, om_233⟩) al_233
theorem al_235 : ∀ k, k < 235 → okP k := fa (Or.inl ⟨oa_234, om_234⟩) al_234
theorem al_236 : ∀ k, k < 236 → okP k := fa (Or.inl ⟨oa_235, om_235⟩) al_235
theorem al_237 : ∀ k, k < 237 → okP k := fa (Or.inl ⟨oa_236, om_236⟩) al_236
theorem al_238 : ∀ k, k < 238 → okP k := fa (Or.inl ⟨oa_237, om_237⟩) al_237
theorem al_239 : ∀ k, k < 239 → okP k := fa (Or.inl ⟨oa_238, om_238⟩) al_238
theorem al_240 : ∀ k, k < 240 → okP k := fa (Or.inl ⟨oa_239, om_239⟩) al_239
theorem al_241 : ∀ k, k < 241 → okP k := fa (Or.inl ⟨oa_240, om_240⟩) al_240
theorem al_242 : ∀ k, k < 242 → okP k := fa (Or.inl ⟨oa_241, om_241⟩) al_241
theorem al_243 : ∀ k, k < 243 → okP k := fa (Or.inl ⟨oa_242, om_242⟩) al_242
theorem al_244 : ∀ k, k < 244 → okP k := fa (Or.inl ⟨oa_243, om_243⟩) al_243
theorem al_245 : ∀ k, k < 245 → okP k := fa (Or.inl ⟨oa_244, om_244⟩) al_244
theorem al_246 : ∀ k, k < 246 → okP k := fa (Or.inl ⟨oa_245, om_245⟩) al_245
theorem al_247 : ∀ k, k < 247 → okP k := fa (Or.inl ⟨oa_246, om_246⟩) al_246
theorem al_248 : ∀ k, k < 248 → okP k := fa (Or.inl ⟨oa_247, om_247⟩) al_247
theorem al_249 : ∀ k, k < 249 → okP k := fa (Or.inl ⟨oa_248, om_248⟩) al_248
theorem al_250 : ∀ k, k < 250 → okP k := fa (Or.inl ⟨oa_249, om_249⟩) al_249
theorem al_251 : ∀ k, k < 251 → okP k := fa (Or.inl ⟨oa_250, om_250⟩) al_250
theorem al_252 : ∀ k, k < 252 → okP k := fa (Or.inl ⟨oa_251, om_251⟩) al_251
theorem al_253 : ∀ k, k < 253 → okP k := fa (Or.inl ⟨oa_252, om_252⟩) al_252
theorem al_254 : ∀ k, k < 254 → okP k := fa (Or.inl ⟨oa_253, om_253⟩) al_253
theorem al_255 : ∀ k, k < 255 → okP k := fa (Or.inl ⟨oa_254, om_254⟩) al_254
theorem al_256 : ∀ k, k < 256 → okP k := fa (Or.inl ⟨oa_255, om_255⟩) al_255
theorem al_257 : ∀ k, k < 257 → okP k := fa (Or.inl ⟨oa_256, om_256⟩) al_256
theorem al_258 : ∀ k, k < 258 → okP k := fa (Or.inl ⟨oa_257, om_257⟩) al_257
theorem al_259 : ∀ k, k < 259 → okP k := fa (Or.inl ⟨oa_258, om_258⟩) al_258
theorem al_260 : ∀ k, k < 260 → okP k := fa (Or.inl ⟨oa_259, om_259⟩) al_259
theorem al_261 : ∀ k, k < 261 → okP k := fa (Or.inl ⟨oa_260, om_260⟩) al_260
theorem al_262 : ∀ k, k < 262 → okP k := fa (Or.inl ⟨oa_261, om_261⟩) al_261
theorem al_263 : ∀ k, k < 263 → okP k := fa (Or.inl ⟨oa_262, om_262⟩) al_262
theorem al_264 : ∀ k, k < 264 → okP k := fa (Or.inl ⟨oa_263, om_263⟩) al_263
theorem al_265 : ∀ k, k < 265 → okP k := fa (Or.inl ⟨oa_264, om_264⟩) al_264
theorem al_266 : ∀ k, k < 266 → okP k := fa (Or.inl ⟨oa_265, om_265⟩) al_265
theorem al_267 : ∀ k, k < 267 → okP k := fa (Or.inl ⟨oa_266, om_266⟩) al_266
theorem al_268 : ∀ k, k < 268 → okP k := fa (Or.inl ⟨oa_267, om_267⟩) al_267
theorem al_269 : ∀ k, k < 269 → okP k := fa (Or.inl ⟨oa_268, om_268⟩) al_268
theorem al_270 : ∀ k, k < 270 → okP k := fa (Or.inl ⟨oa_269, om_269⟩) al_269
theorem al_271 : ∀ k, k < 271 → okP k := fa (Or.inl ⟨oa_270, om_270⟩) al_270
theorem al_272 : ∀ k, k < 272 → okP k := fa (Or.inl ⟨oa_271, om_271⟩) al_271
theorem al_273 : ∀ k, k < 273 → okP k := fa (Or.inl ⟨oa_272, om_272⟩) al_272
theorem al_274 : ∀ k, k < 274 → okP k := fa (Or.inl ⟨oa_273, om_273⟩) al_273
theorem al_275 : ∀ k, k < 275 → okP k := fa (Or.inl ⟨oa_274, om_274⟩) al_274
theorem al_276 : ∀ k, k < 276 → okP k := fa (Or.inl ⟨oa_275, om_275⟩) al_275
theorem al_277 : ∀ k, k < 277 → okP k := fa (Or.inl ⟨oa_276, om_276⟩) al_276
theorem al_278 : ∀ k, k < 278 → okP k := fa (Or.inl ⟨oa_277, om_277⟩) al_277
theorem al_279 : ∀ k, k < 279 → okP k := fa (Or.inl ⟨oa_278, om_278⟩) al_278
theorem al_280 : ∀ k, k < 280 → okP k := fa (Or.inl ⟨oa_279, om_279⟩) al_279
theorem al_281 : ∀ k, k < 281 → okP k := fa (Or.inl ⟨oa_280, om_280⟩) al_280
theorem al_282 : ∀ k, k < 282 → okP k := fa (Or.inl ⟨oa_281, om_281⟩) al_281
theorem al_283 : ∀ k, k < 283 → okP k := fa (Or.inl ⟨oa_282, om_282⟩) al_282
theorem al_284 : ∀ k, k < 284 → okP k := fa (Or.inl ⟨oa_283, om_283⟩) al_283
theorem al_285 : ∀ k, k < 285 → okP k := fa (Or.inl ⟨oa_284, om_284⟩) al_284
theorem al_286 : ∀ k, k < 286 → okP k := fa (Or.inl ⟨oa_285, om_285⟩) al_285
theorem al_287 : ∀ k, k < 287 → okP k := fa (Or.inl ⟨oa_286, om_286⟩) al_286
theorem al_288 : ∀ k, k < 288 → okP k := fa (Or.inl ⟨oa_287, om_287⟩) al_287
theorem al_289 : ∀ k, k < 289 → okP k := fa (Or.inl ⟨oa_288, om_288⟩) al_288
theorem al_290 : ∀ k, k < 290 → okP k := fa (Or.inl ⟨oa_289, om_289⟩) al_289
theorem al_291 : ∀ k, k < 291 → okP k := fa (Or.inl ⟨oa_290, om_290⟩) al_290
theorem al_292 : ∀ k, k < 292 → okP k := fa (Or.inl ⟨oa_291, om_291⟩) al_291
theorem al_293 : ∀ k, k < 293 → okP k := fa (Or.inl ⟨oa_292, om_292⟩) al_292
theorem al_294 : ∀ k, k < 294 → okP k := fa (Or.inl ⟨oa_293, om_293⟩) al_293
theorem al_295 : ∀ k, k < 295 → okP k := fa (Or.inl ⟨oa_294, om_294⟩) al_294
theorem al_296 : ∀ k, k < 296 → okP k := fa (Or.inl ⟨oa_295, om_295⟩) al_295
theorem al_297 : ∀ k, k < 297 → okP k := fa (Or.inr ⟨by decide +kernel, by decide +kernel⟩) al_296
theorem al_298 : ∀ k, k < 298 → okP k := fa (Or.inr ⟨by decide +kernel, by decide +kernel⟩) al_297
theorem al_299 : ∀ k, k < 299 → okP k := fa (Or.inr ⟨by decide +kernel, by decide +kernel⟩) al_298
theorem al_300 : ∀ k, k < 300 → okP k := fa (Or.inl ⟨oa_299, om_299⟩) al_299
theorem al_301 : ∀ k, k < 301 → okP k := fa (Or.inl ⟨oa_300, om_300⟩) al_300
theorem al_302 : ∀ k, k < 302 → okP k := fa (Or.inl ⟨oa_301, om_301⟩) al_301
theorem al_303 : ∀ k, k < 303 → okP k := fa (Or.inl ⟨oa_302, om_302⟩) al_302
theorem al_304 : ∀ k, k < 304 → okP k := fa (Or.inl ⟨oa_303, om_303⟩) al_303
theorem al_305 : ∀ k, k < 305 → okP k := fa (Or.inl ⟨oa_304, om_304⟩) al_304
theorem al_306 : ∀ k, k < 306 → okP k := fa (Or.inl ⟨oa_305, om_305⟩) al_305
theorem al_307 : ∀ k, k < 307 → okP k := fa (Or.inl ⟨oa_306, om_306⟩) al_306
theorem al_308 : ∀ k, k < 308 → okP k := fa (Or.inl ⟨oa_307, om_307⟩) al_307
theorem al_309 : ∀ k, k < 309 → okP k := fa (Or.inl ⟨oa_308, om_308⟩) al_308
theorem al_310 : ∀ k, k < 310 → okP k := fa (Or.inl ⟨oa_309, om_309⟩) al_309
theorem al_311 : ∀ k, k < 311 → okP k := fa (Or.inl ⟨oa_310, om_310⟩) al_310
theorem fr {a n : Nat} (h : okRg 311 a n = true) (r : ∀ pc, pc < a → okI 311 pc = true) : ∀ pc, pc < a + n → okI 311 pc = true := fun pc hp => by
  by_cases q : pc < a
  · exact r pc q
  · unfold okRg at h
    have := List.all_eq_true.mp h (pc - a) (List.mem_range.mpr (by omega))
    rwa [show a + (pc - a) = pc by omega] at this
theorem ar_0 : ∀ pc, pc < 0 → okI 311 pc = true := fun pc h => absurd h (Nat.not_lt_zero pc)
theorem ar_48 : ∀ pc, pc < 48 → okI 311 pc = true := fr (a := 0) (n := 48) ol_0 ar_0
theorem ar_96 : ∀ pc, pc < 96 → okI 311 pc = true := fr (a := 48) (n := 48) ol_48 ar_48
theorem ar_144 : ∀ pc, pc < 144 → okI 311 pc = true := fr (a := 96) (n := 48) ol_96 ar_96
theorem ar_192 : ∀ pc, pc < 192 → okI 311 pc = true := fr (a := 144) (n := 48) ol_144 ar_144
theorem ar_240 : ∀ pc, pc < 240 → okI 311 pc = true := fr (a := 192) (n := 48) ol_192 ar_192
theorem ar_288 : ∀ pc, pc < 288 → okI 311 pc = true := fr (a := 240) (n := 48) ol_240 ar_240
theorem ar_336 : ∀ pc, pc < 336 → okI 311 pc = true := fr (a := 288) (n := 48) ol_288 ar_288
theorem ar_384 : ∀ pc, pc < 384 → okI 311 pc = true := fr (a := 336) (n := 48) ol_336 ar_336
theorem ar_432 : ∀ pc, pc < 432 → okI 311 pc = true := fr (a := 384) (n := 48) ol_384 ar_384
theorem ar_480 : ∀ pc, pc < 480 → okI 311 pc = true := fr (a := 432) (n := 48) ol_432 ar_432
theorem ar_528 : ∀ pc, pc < 528 → okI 311 pc = true := fr (a := 480) (n := 48) ol_480 ar_480
theorem ar_576 : ∀ pc, pc < 576 → okI 311 pc = true := fr (a := 528) (n := 48) ol_528 ar_528
theorem ar_624 : ∀ pc, pc < 624 → okI 311 pc = true := fr (a := 576) (n := 48) ol_576 ar_576
theorem ar_672 : ∀ pc, pc < 672 → okI 311 pc = true := fr (a := 624) (n := 48) ol_624 ar_624
theorem ar_720 : ∀ pc, pc < 720 → okI 311 pc = true := fr (a := 672) (n := 48) ol_672 ar_672
theorem ar_768 : ∀ pc, pc < 768 → okI 311 pc = true := fr (a := 720) (n := 48) ol_720 ar_720
theorem ar_816 : ∀ pc, pc < 816 → okI 311 pc = true := fr (a := 768) (n := 48) ol_768 ar_768
theorem ar_864 : ∀ pc, pc < 864 → okI 311 pc = true := fr (a := 816) (n := 48) ol_816 ar_816
theorem ar_912 : ∀ pc, pc < 912 → okI 311 pc = true := fr (a := 864) (n := 48) ol_864 ar_864
theorem ar_960 : ∀ pc, pc < 960 → okI 311 pc = true := fr (a := 912) (n := 48) ol_912 ar_912
theorem ar_1008 : ∀ pc, pc < 1008 → okI 311 pc = true := fr (a := 960) (n := 48) ol_960 ar_960
theorem ar_1056 : ∀ pc, pc < 1056 → okI 311 pc = true := fr (a := 1008) (n := 48) ol_1008 ar_1008
theorem ar_1104 : ∀ pc, pc < 1104 → okI 311 pc = true := fr (a := 1056) (n := 48) ol_1056 ar_1056
theorem ar_1152 : ∀ pc, pc < 1152 → okI 311 pc = true := fr (a := 1104) (n := 48) ol_1104 ar_1104
theorem ar_1200 : ∀ pc, pc < 1200 → okI 311 pc = true := fr (a := 1152) (n := 48) ol_1152 ar_1152
theorem ar_1248 : ∀ pc, pc < 1248 → okI 311 pc = true := fr (a := 1200) (n := 48) ol_1200 ar_1200
theorem ar_1296 : ∀ pc, pc < 1296 → okI 311 pc = true := fr (a := 1248) (n := 48) ol_1248 ar_1248
theorem ar_1344 : ∀ pc, pc < 1344 → okI 311 pc = true := fr (a := 1296) (n := 48) ol_1296 ar_1296
theorem ar_1392 : ∀ pc, pc < 1392 → okI 311 pc = true := fr (a := 1344) (n := 48) ol_1344 ar_1344
theorem ar_1440 : ∀ pc, pc < 1440 → okI 311 pc = true := fr (a := 1392) (n := 48) ol_1392 ar_1392
theorem ar_1488 : ∀ pc, pc < 1488 → okI 311 pc = true := fr (a := 1440) (n := 48) ol_1440 ar_1440
theorem ar_1536 : ∀ pc, pc < 1536 → okI 311 pc = true := fr (a := 1488) (n := 48) ol_1488 ar_1488
theorem ar_1584 : ∀ pc, pc < 1584 → okI 311 pc = true := fr (a := 1536) (n := 48) ol_1536 ar_1536
theorem ar_1632 : ∀ pc, pc < 1632 → okI 311 pc = true := fr (a := 1584) (n := 48) ol_1584 ar_1584
theorem ar_1680 : ∀ pc, pc < 1680 → okI 311 pc = true := fr (a := 1632) (n := 48) ol_1632 ar_1632
theorem ar_1720 : ∀ pc, pc < 1720 → okI 311 pc = true := fr (a := 1680) (n := 40) ol_1680 ar_1680
theorem gT_lt {n : Nat} {t : Nat → Option IE} {pc : Nat} {E : IE} (h : gT n t pc = some E) : pc < n := by
  unfold gT at h
  cases q : Nat.blt pc n with
  | false => rw [q] at h; cases h
  | true => exact ltB q
theorem okI_use {k pc : Nat} {E : IE} (h : okI k pc = true) (hE : ITf k pc = some E) : ∃ h, okB k pc E h = true := by
  unfold okI at h
  rw [hE] at h
  exact ⟨_, h⟩
theorem okK_all : ∀ k, k < 311 → MW k → okK k := fun k hk hM => by
  rcases al_311 k hk with ⟨h, -⟩ | ⟨-, h⟩
  · refine ⟨fun pc E hE => okI_use ?_ hE, fun _ => hM⟩
    exact List.all_eq_true.mp h pc (List.mem_range.mpr (gT_lt hE))
  · rw [hM.2.2.1] at h
    cases h
theorem MW_all : ∀ y, y < 311 → okY y = true → MW y := fun y hy h => by
  rcases al_311 y hy with ⟨-, q⟩ | ⟨q, -⟩
  · exact MW_of q
  · rw [h] at q
    cases q
theorem okK_law : okK 311 := ⟨fun pc E hE => okI_use (ar_1720 pc (gT_lt hE)) hE, fun h => absurd h (Nat.lt_irrefl _)⟩
/-! THE START -/
theorem mz_eqR {args : Array Value} {s : State} {t u : Term} {a b : Nat} (h : (Jvm.Cond.eq t u).before args s = true) (ht : t.eval args s none [] s = some (.ref a)) (hu : u.eval args s none [] s = some (.ref b)) : a = b := by
  simp [Jvm.Cond.before, Jvm.Cond.holds, Jvm.Cond.value, ht, hu] at h
  exact h
def spL : List (String × Nat) := [("LotteryOfLosses$Law", 21), ("LotteryOfLosses$Tape", 97), ("LotteryOfLosses$Tape", 99), ("LotteryOfLosses$Tape", 73), ("LotteryOfLosses$Tape", 75), ("LotteryOfLosses$Tape", 77), ("LotteryOfLosses$Tape", 79), ("LotteryOfLosses$Tape", 81), ("LotteryOfLosses$Tape", 56), ("LotteryOfLosses$Tape", 42)]
def spT (i : Nat) : Term := .string (spL.getD i ("", 0)).1 (spL.getD i ("", 0)).2
def spN (i : Nat) : Nat := (strL.getD i []).length
def spB : List (List Int32) := strL.map fun l => l.map Int32.ofInt
def stT (n : String) : Term := .static "LotteryOfLosses$Acts" n "[I"
def gvL : List Jvm.Cond := flatC (Jvm.Cond.and given_1 narrow_1)
theorem gv_ex : ∀ i, i < 10 → Jvm.Cond.exactly (spT i) "java/lang/String" ∈ gvL := by decide +kernel
theorem gv_co : ∀ i, i < 10 → Jvm.Cond.eq (.field (spT i) "java/lang/String" "coder" "B") (.int 0) ∈ gvL := by decide +kernel
theorem gv_ar : ∀ i, i < 10 → Jvm.Cond.arrayOf (.field (spT i) "java/lang/String" "value" "[B") .byte ∈ gvL := by decide +kernel
theorem gv_le : ∀ i, i < 10 → Jvm.Cond.eq (.length (.field (spT i) "java/lang/String" "value" "[B")) (.int (Int32.ofNat ((strL.map List.length).getD i 0))) ∈ gvL := by decide +kernel
theorem gv_el : ∀ i, i < 10 → ∀ j, j < (strL.map List.length).getD i 0 → Jvm.Cond.eq (.elem (.field (spT i) "java/lang/String" "value" "[B") (.int (Int32.ofNat j))) (.int ((spB.getD i []).getD j 0)) ∈ gvL := by decide +kernel
theorem gv_ne : ∀ i, i < 10 → ∀ j, j < 10 → i ≠ j → Jvm.Cond.not (Jvm.Cond.eq (spT i) (spT j)) ∈ gvL ∨ Jvm.Cond.not (Jvm.Cond.eq (spT j) (spT i)) ∈ gvL := by decide +kernel
theorem gv_89 : Jvm.Cond.exactly (.string "LotteryOfLosses$Tape" 89) "java/lang/String" ∈ gvL := by decide +kernel
theorem gv_sm : Jvm.Cond.eq (spT 0) (.string "LotteryOfLosses$Tape" 89) ∈ gvL := by decide +kernel
theorem gv_t1 : Jvm.Cond.arrayOf (stT "ABOVE") .int ∈ gvL ∧ Jvm.Cond.eq (.length (stT "ABOVE")) (.int (Int32.ofNat 8)) ∈ gvL ∧ ∀ j, j < 8 → Jvm.Cond.eq (.elem (stT "ABOVE") (.int (Int32.ofNat j))) (.int (Int32.ofInt (kVal 1001 (Int.ofNat j)))) ∈ gvL := by decide +kernel
theorem gv_t2 : Jvm.Cond.arrayOf (stT "BODIES") .int ∈ gvL ∧ Jvm.Cond.eq (.length (stT "BODIES")) (.int (Int32.ofNat 32)) ∈ gvL ∧ ∀ j, j < 32 → Jvm.Cond.eq (.elem (stT "BODIES") (.int (Int32.ofNat j))) (.int (Int32.ofInt (kVal 1002 (Int.ofNat j)))) ∈ gvL := by decide +kernel
theorem gv_cs : Jvm.Cond.eq (.static "java/lang/String" "COMPACT_STRINGS" "Z") (.int 1) ∈ gvL := by decide +kernel
theorem tb_st : Jvm.Cond.laysStatic "LotteryOfLosses$Acts" "ABOVE" "[I" ∈ tables_1 ∧ Jvm.Cond.laysStatic "LotteryOfLosses$Acts" "BODIES" "[I" ∈ tables_1 ∧ Jvm.Cond.laysStatic "java/lang/String" "COMPACT_STRINGS" "Z" ∈ tables_1 ∧ Jvm.Cond.initialized "LotteryOfLosses$Acts" ∈ tables_1 ∧ Jvm.Cond.initialized "java/lang/String" ∈ tables_1 := by decide +kernel
theorem tb_ar : Jvm.Cond.arrayClass .int ∈ tables_1 ∧ Jvm.Cond.arrayClass .long ∈ tables_1 := by decide +kernel
theorem tb_in : ∀ z, z < 12 → Jvm.Cond.instantiable (clT z).1 (clT z).2.2 ∈ tables_1 := by decide +kernel
theorem tb_sr : ∀ q ∈ SPL, Jvm.Cond.stringRef q.1 q.2.1 (stxL.getD q.2.2 "") ∈ tables_1 := by decide +kernel
theorem sp_q : ∀ q ∈ SPL, q.2.2 < 10 ∧ (spT q.2.2 = .string q.1 q.2.1 ∨ q = ("LotteryOfLosses$Tape", 89, 0)) := by decide +kernel
theorem ks_len : ∀ i, i < 10 → (kTab (1200 + i)).length = (strL.map List.length).getD i 0 ∧ ∀ j, j < (kTab (1200 + i)).length → Int32.ofInt (kVal (1200 + i) (Int.ofNat j)) = (spB.getD i []).getD j 0 := by decide +kernel
/-! THE CLAIM OUT OF ONE WALK OF THE LAW'S BODY. Your part is whole_start (and what it stands on); all else here is the same for every law, but numbers. -/
def R_law : String := "LotteryOfLossesLaw"
def lw_P (b : Addr) (xs : List Int32) (args : Array Value) (s : State) : Prop := args = #[.ref b] ∧ s.IntsAt b xs ∧ xs.length ≤ 3072 ∧ (Jvm.Cond.and given_1 narrow_1).before args s = true
def lw_Q (_ : Array Value) (s : State) (o : Outcome) (t : State) : Prop := o = .returned (some (.int 1)) ∧ Framed s o t [] 600000 7302250
def lw_Z (below : List Frame) (a : Array Value) (s : State) : State → Prop := fun t => ∃ o, t.status = .running ∧ Ended t below o ∧ lw_Q a s o t
/-- the law's own end, with 1 on the stack, nothing written that was there before, its room as the claim has it -/
theorem lw_ret {p : Program} {l : Launch} {e : Env} {s : State} {m : MethodId} {below : List Frame} {meth : Method} {c : Code} {b : Nat} (hx : p.tables.exec = Jvm.exec) (hb : c.code = code) (hr : meth.sig.returnType = ret) (hlocks : meth.locks = false) {pc : Nat} {H : Heap} {ls : Array Slot} (hdg : decode code pc = .ok (.ireturn, 1)) : W p l e room_1 s m #[Value.ref b] below meth c H [] 600000 7302250 (lw_Z below #[Value.ref b] s) (F0 m pc ls [.int 1]) := by
  intro T hT X
  obtain ⟨fs, hret, hrun, hended, hW, hframe⟩ := X.leave (v := some (.int 1)) (hlocks := hlocks) (fun h => by rw [hr] at h; cases h)
  have hmeth' : T.vm.method? m = some meth := X.method'
  refine ⟨T.setFrames fs, ?_, .returned (some (.int 1)), hrun, hended, rfl, ⟨_, rfl⟩, hW, hframe⟩
  jvm_step X.here [X.here.top, hx, hb, hdg, hmeth', hr, ret, narrow_b1]
  (try refine ⟨rfl, ?_⟩); (try refine ⟨rfl, ?_⟩)
  first | (intro acts; rw [hret _ acts rfl rfl rfl]) | rw [hret _ _ rfl rfl rfl]
  exact Steps.refl _
/-- what holds at the law's entry: the machine, the code, the tables' words (any of lw_tbl by 'hts w (by decide +kernel)'), the script of L ints xs at the cell b, what the Statement gives of the start (any of its parts by flat_of_before) -/
def lw_At (p : Program) (s : State) (m : MethodId) (meth : Method) (c : Code) (b L : Nat) (xs : Nat → Int32) : Prop :=
  p.tables.exec = Jvm.exec ∧ c.code = code ∧ meth.sig.returnType = ret ∧ c.maxLocals = 4 ∧ s.vm.findClass R_law = some m.cls ∧ (∀ w ∈ lw_tbl, w.before #[Value.ref b] s = true) ∧ va_X b L xs s s.heap ∧ b < s.heap.size ∧ meth.locks = false ∧ (Jvm.Cond.and given_1 narrow_1).before #[Value.ref b] s = true
def xF (L : Nat) (xs : Nat → Int32) : Int → Int := fun j => if j < 0 then (L : Int) else (xs j.toNat).toInt
set_option maxHeartbeats 4000000 in
theorem mz_env {p : Program} {s : State} {m : MethodId} {meth : Method} {c : Code} {b L : Nat} {xs : Nat → Int32} (hL : L ≤ 3072) (C0 : lw_At p s m meth c b L xs) : ∃ en : SE, bsE en = s.heap.size ∧ hpE en = s.heap ∧ akE en 1000 = b ∧ xsE en = xF L xs ∧ KS en s := by
  obtain ⟨hx, hb, hr, hml, hown, hts, hX, hbl, hlocks, hgv⟩ := C0
  have hs := flat_of_before _ hgv
  have htt : ∀ w ∈ tables_1, w.before #[Value.ref b] s = true := fun w h => hts w (List.mem_append_right _ h)
  have hA : ∀ a : Nat, a < s.heap.size → ¬ (fun q : Nat => s.heap.size ≤ q) a := fun a h => Nat.not_le.mpr h
  have h0 : ∀ z : Nat, ∃ q : ClassId × (Nat → Nat), z < 12 → u_Kn s (clT z).1 (clT z).2.1 (clT z).2.2 q.1 q.2 := by
    intro z
    by_cases hz : z < 12
    · obtain ⟨cC, iS, h⟩ := u_known (n := (clT z).2.2) hts (fun w hw => (List.mem_filter.mp (clIn hz w hw)).1) (htt _ (tb_in z hz))
      exact ⟨(cC, iS), fun _ => h⟩
    · exact ⟨(0, fun _ => 0), fun h => absurd h hz⟩
  obtain ⟨K, hK⟩ := Classical.axiomOfChoice h0
  obtain ⟨cI, kI, coI, i1, i2, i3⟩ := Jvm.Cond.arrayClass_spec (htt _ tb_ar.1)
  obtain ⟨cJ, kJ, coJ, j1, j2, j3⟩ := Jvm.Cond.arrayClass_spec (htt _ tb_ar.2)
  obtain ⟨adK, adV, hS, hev⟩ := vk_Sof (N := 10) (tm := spT) (len := strL.map List.length) (byt := spB) (args := #[Value.ref b]) (s := s) (A := fun q : Nat => s.heap.size ≤ q) (by decide) (fun i hi => hs _ (gv_ex i hi)) (fun i hi => hs _ (gv_co i hi)) (fun i hi => hs _ (gv_ar i hi)) (fun i hi => hs _ (gv_le i hi)) (fun i hi j hj => hs _ (gv_el i hi j hj)) (fun i j hi hj hn => (gv_ne i hi j hj hn).imp (hs _) (hs _)) hA
  obtain ⟨t1, ht1, hT1⟩ := va_Tof (N := 8) (f := fun j => Value.int (Int32.ofInt (kVal 1001 (Int.ofNat j)))) (A := fun q : Nat => s.heap.size ≤ q) (by decide) (hs _ gv_t1.1) (va_eqt (hs _ gv_t1.2.1)) (fun j hj => va_eqt (hs _ (gv_t1.2.2 j hj))) hA
  obtain ⟨t2, ht2, hT2⟩ := va_Tof (N := 32) (f := fun j => Value.int (Int32.ofInt (kVal 1002 (Int.ofNat j)))) (A := fun q : Nat => s.heap.size ≤ q) (by decide) (hs _ gv_t2.1) (va_eqt (hs _ gv_t2.2.1)) (fun j hj => va_eqt (hs _ (gv_t2.2.2 j hj))) hA
  have hZ1 := va_Zof (htt _ tb_st.1) (htt _ tb_st.2.2.2.1) ht1 hA
  have hZ2 := va_Zof (htt _ tb_st.2.1) (htt _ tb_st.2.2.2.1) ht2 hA
  have hZ3 := va_Zof (htt _ tb_st.2.2.1) (htt _ tb_st.2.2.2.2) (va_eqt (hs _ gv_cs)) hA
  obtain ⟨ak, a0, a1, a2, a3, a4⟩ : ∃ ak : Nat → Nat, ak 1000 = b ∧ ak 1001 = t1 ∧ ak 1002 = t2 ∧ (∀ i, i < 10 → ak (1100 + i) = adK i) ∧ ∀ i, i < 10 → ak (1200 + i) = adV i := by
    refine ⟨fun c => if c = 1000 then b else if c = 1001 then t1 else if c = 1002 then t2 else if c < 1200 then adK (c - 1100) else adV (c - 1200), rfl, rfl, rfl, fun i hi => ?_, fun i hi => ?_⟩
    · dsimp only
      rw [if_neg (by omega), if_neg (by omega), if_neg (by omega), if_pos (by omega), Nat.add_sub_cancel_left]
    · dsimp only
      rw [if_neg (by omega), if_neg (by omega), if_neg (by omega), if_neg (by omega), Nat.add_sub_cancel_left]
  have eL : xF L xs (-1) = (L : Int) := by unfold xF; rw [if_pos (by decide)]
  have eX : ∀ j : Nat, xF L xs (Int.ofNat j) = (xs j).toInt := fun j => by
    unfold xF
    rw [if_neg (by have : (0 : Int) ≤ Int.ofNat j := Int.natCast_nonneg j; omega)]
    rfl
  refine ⟨((s.heap.size, s.heap), ak, xF L xs, (fun z => (K z).1, fun z => (K z).2), (cI, cJ)), rfl, rfl, a0, rfl, ⟨⟨fun z q hq => ?_, fun k q hk => ?_⟩, ⟨?_, ?_⟩, ?_, ?_, ?_, ?_, ?_, ?_, fun i hi => ?_, fun q hq => ?_, fun w hw hn => ?_⟩⟩
  · have hz : z < 12 := (List.getElem?_eq_some_iff.mp hq).1
    rw [clAt hz] at hq
    cases hq
    exact hK z hz
  · match k, hk with
    | 0, hk =>
      cases hk
      exact ⟨fun N z => ⟨(fun k h => by cases h), kI, i2, coI, i3⟩, i1⟩
    | 1, hk =>
      cases hk
      exact ⟨fun N z => ⟨(fun k h => by cases h), kJ, j2, coJ, j3⟩, j1⟩
    | k + 2, hk => simp at hk
  · show (0 : Int) ≤ xF L xs (-1)
    rw [eL]
    omega
  · show xF L xs (-1) ≤ 2147483647
    rw [eL]
    omega
  · show va_T .int (ak 1000) (xF L xs (-1)).toNat (fun j => Value.int (Int32.ofInt (xF L xs (Int.ofNat j)))) (fun q : Nat => s.heap.size ≤ q) s s.heap
    rw [a0, eL, Int.toNat_natCast]
    obtain ⟨scr, h1, h2, h3, h4, h5⟩ := hX
    refine ⟨scr, h1, h2, h3, Nat.le_of_eq h4.symm, by rw [h4], fun j hj => ?_, Nat.not_le.mpr hbl⟩
    show scr.slots[j]? = some (Value.int (Int32.ofInt (xF L xs (Int.ofNat j))))
    rw [eX, of_to32]
    exact h5 j hj
  · show va_Z _ _ _ (.ref (ak 1001)) _ _ _
    rw [a1]
    exact hZ1
  · show va_T .int (ak 1001) _ _ _ _ _
    rw [a1]
    exact hT1
  · show va_Z _ _ _ (.ref (ak 1002)) _ _ _
    rw [a2]
    exact hZ2
  · show va_T .int (ak 1002) _ _ _ _ _
    rw [a2]
    exact hT2
  · exact hZ3
  · obtain ⟨b1, b2, b3, b4⟩ := hS.1 i hi
    obtain ⟨k1, k2⟩ := ks_len i hi
    show va_O _ (ak (1100 + i)) _ _ _ ∧ va_OF _ _ _ _ (ak (1100 + i)) _ _ _ ∧ va_OF _ _ _ (.ref (ak (1200 + i))) (ak (1100 + i)) _ _ _ ∧ va_T .byte (ak (1200 + i)) _ _ _ _ _
    rw [a3 i hi, a4 i hi]
    refine ⟨b1, b2, b3, ?_⟩
    obtain ⟨cell, c1, c2, c3, c4, c5, c6, c7⟩ := b4
    rw [← k1] at c4 c5
    refine ⟨cell, c1, c2, c3, c4, c5, fun j hj => ?_, c7⟩
    rw [c6 j (by rw [← k1]; exact hj)]
    dsimp only
    rw [k2 j hj]
  · show vk_R q.1 q.2.1 _ (ak (1100 + q.2.2)) s
    obtain ⟨q1, q2⟩ := sp_q q hq
    rw [a3 _ q1]
    refine vk_R.of (htt _ (tb_sr q hq)) ?_
    rcases q2 with q2 | q2
    · rw [← q2]
      exact hev _ q1
    · subst q2
      obtain ⟨a, cc, cA, kA, g1, -⟩ := Cond.exactly_spec (args := #[Value.ref b]) (first := s) (o := none) (s := s) (idx := []) (t := .string "LotteryOfLosses$Tape" 89) (cls := "java/lang/String") (hs _ gv_89)
      have g2 := mz_eqR (hs _ gv_sm) (hev 0 (by decide)) g1
      show (Term.string "LotteryOfLosses$Tape" 89).eval _ _ _ _ _ = some (.ref (adK 0))
      rw [g2]
      exact g1
  · refine va_Nw.of ?_ (htt w hw)
    cases w <;> simp only [nestW] at hn <;> first | (cases hn; done) | rfl
def iS (f : Int → Int) : ME := fun c j => if c = 1000 then f j else 0
def rS : MR := fun _ _ => none
theorem xF_ir {L : Nat} (hL : L ≤ 3072) (xs : Nat → Int32) (j : Int) : IR (xF L xs j) := by
  unfold xF
  split
  · exact ⟨by omega, by omega⟩
  · exact ir_i32 _
theorem sl_80 : slN 80 ≤ 7302250 := by decide +kernel
set_option maxHeartbeats 4000000 in
theorem mz_start {p : Program} {e : Env} {s : State} {m : MethodId} {below : List Frame} {meth : Method} {c : Code} (l : Launch) {b L : Nat} {xs : Nat → Int32} (hL : L ≤ 3072) (C0 : lw_At p s m meth c b L xs) (hnm : meth.name = x.name) {n : Nat} {S' : MS} (h80 : S'.1 ≤ 80)
    (hrun : run n 800 311 0 [some (.inr (.inr 1000)), none, none, none] [] (0, rS, iS (xF L xs)) = some (some (.inl 1), S')) : W p l e room_1 s m #[Value.ref b] below meth c s.heap [] 0 0 (lw_Z below #[Value.ref b] s) (entryFrame m ([Value.ref b] : List Value).toArray 4) := by
  obtain ⟨en, e1, e2, e3, e4, hKS⟩ := mz_env hL C0
  obtain ⟨hx, hb, hr, hml, hown, hts, hX, hbl, hlocks, hgv⟩ := id C0
  have hF : FrC en 311 p s m #[Value.ref b] meth c := ⟨hx, hb, hown, fun w hw => hts w (List.mem_filter.mp hw).1, hKS, fun q _ => by rw [e2], by rw [e1]; exact Nat.le_refl _, hml⟩
  have ea : trV en (.inr (.inr 1000)) = .ref b := by
    show Value.ref (adE en 1000) = _
    unfold adE
    rw [if_neg (by decide), e3]
  have hLs := entL_R (e := en) (n := 0) (mx := 4) (as := [.inr (.inr 1000)]) (ls := [some (.inr (.inr 1000)), none, none, none]) rfl (fun v hv => by rw [List.mem_singleton.mp hv]; exact Or.inr (Or.inl rfl))
  simp only [List.map_cons, List.map_nil, ea] at hLs
  have hm := slN_mono h80
  have hsl := sl_80
  have hir : ∀ c j, IR (iS (xF L xs) c j) := fun c j => by
    unfold iS
    split
    · exact xF_ir hL xs j
    · exact ir_0
  rw [lg_entry_eq]
  refine (wsim en okK_all MW_all n).1 800 311 0 _ _ [] _ _ _ hrun okK_law hF hnm ⟨⟨?_, ?_, va_S.rf, ?_⟩, hLs, fun v hv => by cases hv⟩ (by decide) (by decide) ?_ ?_ ?_
  · intro k q hq
    simp [wlE] at hq
  · intro _
    rw [e1]
    rfl
  · refine ⟨fun c j => ?_, fun j => ?_, (fun c j c' h => by cases h), Nat.zero_le _, fun c _ hc => ⟨fun j => ?_, fun j => rfl⟩⟩
    · have h := hir c j
      show if lgS c j = true then IRL (iS (xF L xs) c j) else IR (iS (xF L xs) c j)
      split
      · exact ⟨by have := h.1; omega, by have := h.2; omega⟩
      · exact h
    · show iS (xF L xs) 1000 j = _
      rw [e4]
      rfl
    · show iS (xF L xs) c j = 0
      unfold iS
      rw [if_neg (by omega)]
  · show 0 + (S'.1 - 0) ≤ 600000
    omega
  · show 0 + (slN S'.1 - slN 0) ≤ 7302250
    omega
  · intro H' locs' lsB pcr ins hdg hri hWd hv
    have hins : ins = .ireturn := by cases ins <;> first | rfl | cases hri
    subst hins
    refine va_forget (fun q hq => by have := hWd.2.2.1.2.2 q hq; unfold AE at this; rw [e1] at this; exact this) ?_
    refine W.widen (k := 600000) (n := 7302250) (by show 0 + (S'.1 - 0) ≤ 600000; omega) (by show 0 + (slN S'.1 - slN 0) ≤ 7302250; omega) ?_
    exact lw_ret hx hb hr hlocks hdg

