theorem q_3 : m_code 3 = mc_3 := rfl
theorem q_4 : m_code 4 = mc_4 := rfl
theorem q_5 : m_code 5 = mc_5 := rfl
theorem q_6 : m_code 6 = mc_6 := rfl
theorem q_7 : m_code 7 = mc_7 := rfl
theorem q_8 : m_code 8 = mc_8 := rfl
theorem q_9 : m_code 9 = mc_9 := rfl
theorem q_10 : m_code 10 = mc_10 := rfl
theorem q_11 : m_code 11 = mc_11 := rfl
theorem q_12 : m_code 12 = mc_12 := rfl
theorem q_13 : m_code 13 = mc_13 := rfl
theorem q_14 : m_code 14 = mc_14 := rfl
theorem q_15 : m_code 15 = mc_15 := rfl
theorem q_16 : m_code 16 = mc_16 := rfl
theorem q_17 : m_code 17 = mc_17 := rfl
theorem q_18 : m_code 18 = mc_18 := rfl
theorem q_19 : m_code 19 = mc_19 := rfl
theorem q_20 : m_code 20 = mc_20 := rfl
theorem q_21 : m_code 21 = mc_21 := rfl
theorem q_22 : m_code 22 = mc_22 := rfl
theorem q_23 : m_code 23 = mc_23 := rfl
theorem q_24 : m_code 24 = mc_24 := rfl
theorem q_25 : m_code 25 = mc_25 := rfl
theorem q_26 : m_code 26 = mc_26 := rfl
theorem q_27 : m_code 27 = mc_27 := rfl
theorem q_28 : m_code 28 = mc_28 := rfl
theorem q_29 : m_code 29 = mc_29 := rfl
theorem q_30 : m_code 30 = mc_30 := rfl
theorem q_31 : m_code 31 = mc_31 := rfl
theorem q_32 : m_code 32 = mc_32 := rfl
theorem q_33 : m_code 33 = mc_33 := rfl
theorem q_34 : m_code 34 = mc_34 := rfl
theorem q_35 : m_code 35 = mc_35 := rfl
theorem q_36 : m_code 36 = mc_36 := rfl
theorem q_37 : m_code 37 = mc_37 := rfl
theorem q_38 : m_code 38 = mc_38 := rfl
theorem q_39 : m_code 39 = mc_39 := rfl
theorem q_40 : m_code 40 = mc_40 := rfl
theorem q_41 : m_code 41 = mc_41 := rfl
theorem q_42 : m_code 42 = mc_42 := rfl
theorem q_43 : m_code 43 = mc_43 := rfl
theorem q_44 : m_code 44 = mc_44 := rfl
theorem q_45 : m_code 45 = mc_45 := rfl
theorem q_46 : m_code 46 = mc_46 := rfl
theorem q_47 : m_code 47 = mc_47 := rfl
theorem q_48 : m_code 48 = mc_48 := rfl
theorem q_49 : m_code 49 = mc_49 := rfl
theorem q_50 : m_code 50 = mc_50 := rfl
theorem q_51 : m_code 51 = mc_51 := rfl
theorem q_52 : m_code 52 = mc_52 := rfl
theorem q_53 : m_code 53 = mc_53 := rfl
theorem q_54 : m_code 54 = mc_54 := rfl
theorem q_55 : m_code 55 = mc_55 := rfl
theorem q_56 : m_code 56 = mc_56 := rfl
theorem q_57 : m_code 57 = mc_57 := rfl
theorem q_58 : m_code 58 = mc_58 := rfl
theorem q_59 : m_code 59 = mc_59 := rfl
theorem q_60 : m_code 60 = mc_60 := rfl
theorem q_61 : m_code 61 = mc_61 := rfl
theorem q_62 : m_code 62 = mc_62 := rfl
theorem q_63 : m_code 63 = mc_63 := rfl
theorem q_64 : m_code 64 = mc_64 := rfl
theorem q_65 : m_code 65 = mc_65 := rfl
theorem q_66 : m_code 66 = mc_66 := rfl
theorem q_67 : m_code 67 = mc_67 := rfl
theorem q_68 : m_code 68 = mc_68 := rfl
theorem q_69 : m_code 69 = mc_69 := rfl
theorem q_70 : m_code 70 = mc_70 := rfl
theorem q_71 : m_code 71 = mc_71 := rfl
theorem q_72 : m_code 72 = mc_72 := rfl
theorem q_73 : m_code 73 = mc_73 := rfl
theorem q_74 : m_code 74 = mc_74 := rfl
theorem q_75 : m_code 75 = mc_75 := rfl
theorem q_76 : m_code 76 = mc_76 := rfl
theorem q_77 : m_code 77 = mc_77 := rfl
theorem q_78 : m_code 78 = mc_78 := rfl
theorem q_79 : m_code 79 = mc_79 := rfl
theorem q_80 : m_code 80 = mc_80 := rfl
theorem q_81 : m_code 81 = mc_81 := rfl
theorem q_82 : m_code 82 = mc_82 := rfl
theorem q_83 : m_code 83 = mc_83 := rfl
theorem q_84 : m_code 84 = mc_84 := rfl
theorem q_85 : m_code 85 = mc_85 := rfl
theorem q_86 : m_code 86 = mc_86 := rfl
theorem q_87 : m_code 87 = mc_87 := rfl
theorem q_88 : m_code 88 = mc_88 := rfl
theorem q_89 : m_code 89 = mc_89 := rfl
theorem q_90 : m_code 90 = mc_90 := rfl
theorem q_91 : m_code 91 = mc_91 := rfl
theorem q_92 : m_code 92 = mc_92 := rfl
theorem q_93 : m_code 93 = mc_93 := rfl
theorem q_94 : m_code 94 = mc_94 := rfl
theorem q_95 : m_code 95 = mc_95 := rfl
theorem q_96 : m_code 96 = mc_96 := rfl
theorem q_97 : m_code 97 = mc_97 := rfl
theorem q_98 : m_code 98 = mc_98 := rfl
theorem q_99 : m_code 99 = mc_99 := rfl
theorem q_100 : m_code 100 = mc_100 := rfl
theorem q_101 : m_code 101 = mc_101 := rfl
theorem q_102 : m_code 102 = mc_102 := rfl
theorem q_103 : m_code 103 = mc_103 := rfl
theorem q_104 : m_code 104 = mc_104 := rfl
theorem q_105 : m_code 105 = mc_105 := rfl
theorem q_106 : m_code 106 = mc_106 := rfl
theorem q_107 : m_code 107 = mc_107 := rfl
theorem q_108 : m_code 108 = mc_108 := rfl
theorem q_109 : m_code 109 = mc_109 := rfl
theorem q_110 : m_code 110 = mc_110 := rfl
theorem q_111 : m_code 111 = mc_111 := rfl
theorem q_112 : m_code 112 = mc_112 := rfl
theorem q_113 : m_code 113 = mc_113 := rfl
theorem q_114 : m_code 114 = mc_114 := rfl
theorem q_115 : m_code 115 = mc_115 := rfl
theorem q_116 : m_code 116 = mc_116 := rfl
theorem q_117 : m_code 117 = mc_117 := rfl
theorem q_118 : m_code 118 = mc_118 := rfl
theorem q_119 : m_code 119 = mc_119 := rfl
theorem q_120 : m_code 120 = mc_120 := rfl
theorem q_121 : m_code 121 = mc_121 := rfl
theorem q_122 : m_code 122 = mc_122 := rfl
theorem q_123 : m_code 123 = mc_123 := rfl
theorem q_124 : m_code 124 = mc_124 := rfl
theorem q_125 : m_code 125 = mc_125 := rfl
theorem q_126 : m_code 126 = mc_126 := rfl
theorem q_127 : m_code 127 = mc_127 := rfl
theorem q_128 : m_code 128 = mc_128 := rfl
theorem q_129 : m_code 129 = mc_129 := rfl
theorem q_130 : m_code 130 = mc_130 := rfl
theorem q_131 : m_code 131 = mc_131 := rfl
theorem q_132 : m_code 132 = mc_132 := rfl
theorem q_133 : m_code 133 = mc_133 := rfl
theorem q_134 : m_code 134 = mc_134 := rfl
theorem q_135 : m_code 135 = mc_135 := rfl
theorem q_136 : m_code 136 = mc_136 := rfl
theorem q_137 : m_code 137 = mc_137 := rfl
theorem q_138 : m_code 138 = mc_138 := rfl
theorem q_139 : m_code 139 = mc_139 := rfl
theorem q_140 : m_code 140 = mc_140 := rfl
theorem q_141 : m_code 141 = mc_141 := rfl
theorem q_142 : m_code 142 = mc_142 := rfl
theorem q_143 : m_code 143 = mc_143 := rfl
theorem q_144 : m_code 144 = mc_144 := rfl
theorem q_145 : m_code 145 = mc_145 := rfl
theorem q_146 : m_code 146 = mc_146 := rfl
theorem q_147 : m_code 147 = mc_147 := rfl
theorem q_148 : m_code 148 = mc_148 := rfl
theorem q_149 : m_code 149 = mc_149 := rfl
theorem q_150 : m_code 150 = mc_150 := rfl
theorem q_151 : m_code 151 = mc_151 := rfl
theorem q_152 : m_code 152 = mc_152 := rfl
theorem q_153 : m_code 153 = mc_153 := rfl
theorem q_154 : m_code 154 = mc_154 := rfl
theorem q_155 : m_code 155 = mc_155 := rfl
theorem q_156 : m_code 156 = mc_156 := rfl
theorem q_157 : m_code 157 = mc_157 := rfl
theorem q_158 : m_code 158 = mc_158 := rfl
theorem q_159 : m_code 159 = mc_159 := rfl
theorem q_160 : m_code 160 = mc_160 := rfl
theorem q_161 : m_code 161 = mc_161 := rfl
theorem q_162 : m_code 162 = mc_162 := rfl
theorem q_163 : m_code 163 = mc_163 := rfl
theorem q_164 : m_code 164 = mc_164 := rfl
theorem q_165 : m_code 165 = mc_165 := rfl
theorem q_166 : m_code 166 = mc_166 := rfl
theorem q_167 : m_code 167 = mc_167 := rfl
theorem q_168 : m_code 168 = mc_168 := rfl
theorem q_169 : m_code 169 = mc_169 := rfl
theorem q_170 : m_code 170 = mc_170 := rfl
theorem q_171 : m_code 171 = mc_171 := rfl
theorem q_172 : m_code 172 = mc_172 := rfl
theorem q_173 : m_code 173 = mc_173 := rfl
theorem q_174 : m_code 174 = mc_174 := rfl
theorem q_175 : m_code 175 = mc_175 := rfl
theorem g_3_0 {S : Nat × (Nat → Int32)} {d : Nat} {σ : Mem} {Q : MQ1} {x0 : Int32}  (h : Q [.inl ((((((((x0 - ((((x0 : Int32).toUInt32 >>> ((1 : Int32).toUInt32 &&& Int32.toUInt32 31)).toInt32) &&& 1431655765)) &&& 858993459) + ((((x0 - ((((x0 : Int32).toUInt32 >>> ((1 : Int32).toUInt32 &&& Int32.toUInt32 31)).toInt32) &&& 1431655765) : Int32).toUInt32 >>> ((2 : Int32).toUInt32 &&& Int32.toUInt32 31)).toInt32) &&& 858993459)) + (((((x0 - ((((x0 : Int32).toUInt32 >>> ((1 : Int32).toUInt32 &&& Int32.toUInt32 31)).toInt32) &&& 1431655765)) &&& 858993459) + ((((x0 - ((((x0 : Int32).toUInt32 >>> ((1 : Int32).toUInt32 &&& Int32.toUInt32 31)).toInt32) &&& 1431655765) : Int32).toUInt32 >>> ((2 : Int32).toUInt32 &&& Int32.toUInt32 31)).toInt32) &&& 858993459) : Int32).toUInt32 >>> ((4 : Int32).toUInt32 &&& Int32.toUInt32 31)).toInt32)) &&& 252645135) + (((((((x0 - ((((x0 : Int32).toUInt32 >>> ((1 : Int32).toUInt32 &&& Int32.toUInt32 31)).toInt32) &&& 1431655765)) &&& 858993459) + ((((x0 - ((((x0 : Int32).toUInt32 >>> ((1 : Int32).toUInt32 &&& Int32.toUInt32 31)).toInt32) &&& 1431655765) : Int32).toUInt32 >>> ((2 : Int32).toUInt32 &&& Int32.toUInt32 31)).toInt32) &&& 858993459)) + (((((x0 - ((((x0 : Int32).toUInt32 >>> ((1 : Int32).toUInt32 &&& Int32.toUInt32 31)).toInt32) &&& 1431655765)) &&& 858993459) + ((((x0 - ((((x0 : Int32).toUInt32 >>> ((1 : Int32).toUInt32 &&& Int32.toUInt32 31)).toInt32) &&& 1431655765) : Int32).toUInt32 >>> ((2 : Int32).toUInt32 &&& Int32.toUInt32 31)).toInt32) &&& 858993459) : Int32).toUInt32 >>> ((4 : Int32).toUInt32 &&& Int32.toUInt32 31)).toInt32)) &&& 252645135 : Int32).toUInt32 >>> ((8 : Int32).toUInt32 &&& Int32.toUInt32 31)).toInt32)) + ((((((((x0 - ((((x0 : Int32).toUInt32 >>> ((1 : Int32).toUInt32 &&& Int32.toUInt32 31)).toInt32) &&& 1431655765)) &&& 858993459) + ((((x0 - ((((x0 : Int32).toUInt32 >>> ((1 : Int32).toUInt32 &&& Int32.toUInt32 31)).toInt32) &&& 1431655765) : Int32).toUInt32 >>> ((2 : Int32).toUInt32 &&& Int32.toUInt32 31)).toInt32) &&& 858993459)) + (((((x0 - ((((x0 : Int32).toUInt32 >>> ((1 : Int32).toUInt32 &&& Int32.toUInt32 31)).toInt32) &&& 1431655765)) &&& 858993459) + ((((x0 - ((((x0 : Int32).toUInt32 >>> ((1 : Int32).toUInt32 &&& Int32.toUInt32 31)).toInt32) &&& 1431655765) : Int32).toUInt32 >>> ((2 : Int32).toUInt32 &&& Int32.toUInt32 31)).toInt32) &&& 858993459) : Int32).toUInt32 >>> ((4 : Int32).toUInt32 &&& Int32.toUInt32 31)).toInt32)) &&& 252645135) + (((((((x0 - ((((x0 : Int32).toUInt32 >>> ((1 : Int32).toUInt32 &&& Int32.toUInt32 31)).toInt32) &&& 1431655765)) &&& 858993459) + ((((x0 - ((((x0 : Int32).toUInt32 >>> ((1 : Int32).toUInt32 &&& Int32.toUInt32 31)).toInt32) &&& 1431655765) : Int32).toUInt32 >>> ((2 : Int32).toUInt32 &&& Int32.toUInt32 31)).toInt32) &&& 858993459)) + (((((x0 - ((((x0 : Int32).toUInt32 >>> ((1 : Int32).toUInt32 &&& Int32.toUInt32 31)).toInt32) &&& 1431655765)) &&& 858993459) + ((((x0 - ((((x0 : Int32).toUInt32 >>> ((1 : Int32).toUInt32 &&& Int32.toUInt32 31)).toInt32) &&& 1431655765) : Int32).toUInt32 >>> ((2 : Int32).toUInt32 &&& Int32.toUInt32 31)).toInt32) &&& 858993459) : Int32).toUInt32 >>> ((4 : Int32).toUInt32 &&& Int32.toUInt32 31)).toInt32)) &&& 252645135 : Int32).toUInt32 >>> ((8 : Int32).toUInt32 &&& Int32.toUInt32 31)).toInt32) : Int32).toUInt32 >>> ((16 : Int32).toUInt32 &&& Int32.toUInt32 31)).toInt32)) &&& 63)] σ) : Ev S d 3 0 [some (.inl x0)] [] σ Q := by
  refine e_load q_3 rfl rfl rfl ?_
  refine e_load q_3 rfl rfl rfl ?_
  refine e_push q_3 rfl ?_
  refine e_bin (r := ((x0 : Int32).toUInt32 >>> ((1 : Int32).toUInt32 &&& Int32.toUInt32 31)).toInt32) q_3 rfl rfl ?_
  refine e_push q_3 rfl ?_
  refine e_bin (r := (((x0 : Int32).toUInt32 >>> ((1 : Int32).toUInt32 &&& Int32.toUInt32 31)).toInt32) &&& 1431655765) q_3 rfl rfl ?_
  refine e_bin (r := x0 - ((((x0 : Int32).toUInt32 >>> ((1 : Int32).toUInt32 &&& Int32.toUInt32 31)).toInt32) &&& 1431655765)) q_3 rfl rfl ?_
  refine e_store (ls' := [some (.inl (x0 - ((((x0 : Int32).toUInt32 >>> ((1 : Int32).toUInt32 &&& Int32.toUInt32 31)).toInt32) &&& 1431655765)))]) q_3 rfl (Nat.le_of_ble_eq_true rfl) rfl rfl ?_
  refine e_load q_3 rfl rfl rfl ?_
  refine e_push q_3 rfl ?_
  refine e_bin (r := (x0 - ((((x0 : Int32).toUInt32 >>> ((1 : Int32).toUInt32 &&& Int32.toUInt32 31)).toInt32) &&& 1431655765)) &&& 858993459) q_3 rfl rfl ?_
  refine e_load q_3 rfl rfl rfl ?_
  refine e_push q_3 rfl ?_
  refine e_bin (r := ((x0 - ((((x0 : Int32).toUInt32 >>> ((1 : Int32).toUInt32 &&& Int32.toUInt32 31)).toInt32) &&& 1431655765) : Int32).toUInt32 >>> ((2 : Int32).toUInt32 &&& Int32.toUInt32 31)).toInt32) q_3 rfl rfl ?_
  refine e_push q_3 rfl ?_
  refine e_bin (r := (((x0 - ((((x0 : Int32).toUInt32 >>> ((1 : Int32).toUInt32 &&& Int32.toUInt32 31)).toInt32) &&& 1431655765) : Int32).toUInt32 >>> ((2 : Int32).toUInt32 &&& Int32.toUInt32 31)).toInt32) &&& 858993459) q_3 rfl rfl ?_
  refine e_bin (r := ((x0 - ((((x0 : Int32).toUInt32 >>> ((1 : Int32).toUInt32 &&& Int32.toUInt32 31)).toInt32) &&& 1431655765)) &&& 858993459) + ((((x0 - ((((x0 : Int32).toUInt32 >>> ((1 : Int32).toUInt32 &&& Int32.toUInt32 31)).toInt32) &&& 1431655765) : Int32).toUInt32 >>> ((2 : Int32).toUInt32 &&& Int32.toUInt32 31)).toInt32) &&& 858993459)) q_3 rfl rfl ?_
  refine e_store (ls' := [some (.inl (((x0 - ((((x0 : Int32).toUInt32 >>> ((1 : Int32).toUInt32 &&& Int32.toUInt32 31)).toInt32) &&& 1431655765)) &&& 858993459) + ((((x0 - ((((x0 : Int32).toUInt32 >>> ((1 : Int32).toUInt32 &&& Int32.toUInt32 31)).toInt32) &&& 1431655765) : Int32).toUInt32 >>> ((2 : Int32).toUInt32 &&& Int32.toUInt32 31)).toInt32) &&& 858993459)))]) q_3 rfl (Nat.le_of_ble_eq_true rfl) rfl rfl ?_
  refine e_load q_3 rfl rfl rfl ?_
  refine e_load q_3 rfl rfl rfl ?_
  refine e_push q_3 rfl ?_
  refine e_bin (r := ((((x0 - ((((x0 : Int32).toUInt32 >>> ((1 : Int32).toUInt32 &&& Int32.toUInt32 31)).toInt32) &&& 1431655765)) &&& 858993459) + ((((x0 - ((((x0 : Int32).toUInt32 >>> ((1 : Int32).toUInt32 &&& Int32.toUInt32 31)).toInt32) &&& 1431655765) : Int32).toUInt32 >>> ((2 : Int32).toUInt32 &&& Int32.toUInt32 31)).toInt32) &&& 858993459) : Int32).toUInt32 >>> ((4 : Int32).toUInt32 &&& Int32.toUInt32 31)).toInt32) q_3 rfl rfl ?_
  refine e_bin (r := (((x0 - ((((x0 : Int32).toUInt32 >>> ((1 : Int32).toUInt32 &&& Int32.toUInt32 31)).toInt32) &&& 1431655765)) &&& 858993459) + ((((x0 - ((((x0 : Int32).toUInt32 >>> ((1 : Int32).toUInt32 &&& Int32.toUInt32 31)).toInt32) &&& 1431655765) : Int32).toUInt32 >>> ((2 : Int32).toUInt32 &&& Int32.toUInt32 31)).toInt32) &&& 858993459)) + (((((x0 - ((((x0 : Int32).toUInt32 >>> ((1 : Int32).toUInt32 &&& Int32.toUInt32 31)).toInt32) &&& 1431655765)) &&& 858993459) + ((((x0 - ((((x0 : Int32).toUInt32 >>> ((1 : Int32).toUInt32 &&& Int32.toUInt32 31)).toInt32) &&& 1431655765) : Int32).toUInt32 >>> ((2 : Int32).toUInt32 &&& Int32.toUInt32 31)).toInt32) &&& 858993459) : Int32).toUInt32 >>> ((4 : Int32).toUInt32 &&& Int32.toUInt32 31)).toInt32)) q_3 rfl rfl ?_
  refine e_push q_3 rfl ?_
  refine e_bin (r := ((((x0 - ((((x0 : Int32).toUInt32 >>> ((1 : Int32).toUInt32 &&& Int32.toUInt32 31)).toInt32) &&& 1431655765)) &&& 858993459) + ((((x0 - ((((x0 : Int32).toUInt32 >>> ((1 : Int32).toUInt32 &&& Int32.toUInt32 31)).toInt32) &&& 1431655765) : Int32).toUInt32 >>> ((2 : Int32).toUInt32 &&& Int32.toUInt32 31)).toInt32) &&& 858993459)) + (((((x0 - ((((x0 : Int32).toUInt32 >>> ((1 : Int32).toUInt32 &&& Int32.toUInt32 31)).toInt32) &&& 1431655765)) &&& 858993459) + ((((x0 - ((((x0 : Int32).toUInt32 >>> ((1 : Int32).toUInt32 &&& Int32.toUInt32 31)).toInt32) &&& 1431655765) : Int32).toUInt32 >>> ((2 : Int32).toUInt32 &&& Int32.toUInt32 31)).toInt32) &&& 858993459) : Int32).toUInt32 >>> ((4 : Int32).toUInt32 &&& Int32.toUInt32 31)).toInt32)) &&& 252645135) q_3 rfl rfl ?_
  refine e_store (ls' := [some (.inl (((((x0 - ((((x0 : Int32).toUInt32 >>> ((1 : Int32).toUInt32 &&& Int32.toUInt32 31)).toInt32) &&& 1431655765)) &&& 858993459) + ((((x0 - ((((x0 : Int32).toUInt32 >>> ((1 : Int32).toUInt32 &&& Int32.toUInt32 31)).toInt32) &&& 1431655765) : Int32).toUInt32 >>> ((2 : Int32).toUInt32 &&& Int32.toUInt32 31)).toInt32) &&& 858993459)) + (((((x0 - ((((x0 : Int32).toUInt32 >>> ((1 : Int32).toUInt32 &&& Int32.toUInt32 31)).toInt32) &&& 1431655765)) &&& 858993459) + ((((x0 - ((((x0 : Int32).toUInt32 >>> ((1 : Int32).toUInt32 &&& Int32.toUInt32 31)).toInt32) &&& 1431655765) : Int32).toUInt32 >>> ((2 : Int32).toUInt32 &&& Int32.toUInt32 31)).toInt32) &&& 858993459) : Int32).toUInt32 >>> ((4 : Int32).toUInt32 &&& Int32.toUInt32 31)).toInt32)) &&& 252645135))]) q_3 rfl (Nat.le_of_ble_eq_true rfl) rfl rfl ?_
  refine e_load q_3 rfl rfl rfl ?_
  refine e_load q_3 rfl rfl rfl ?_
  refine e_push q_3 rfl ?_
  refine e_bin (r := ((((((x0 - ((((x0 : Int32).toUInt32 >>> ((1 : Int32).toUInt32 &&& Int32.toUInt32 31)).toInt32) &&& 1431655765)) &&& 858993459) + ((((x0 - ((((x0 : Int32).toUInt32 >>> ((1 : Int32).toUInt32 &&& Int32.toUInt32 31)).toInt32) &&& 1431655765) : Int32).toUInt32 >>> ((2 : Int32).toUInt32 &&& Int32.toUInt32 31)).toInt32) &&& 858993459)) + (((((x0 - ((((x0 : Int32).toUInt32 >>> ((1 : Int32).toUInt32 &&& Int32.toUInt32 31)).toInt32) &&& 1431655765)) &&& 858993459) + ((((x0 - ((((x0 : Int32).toUInt32 >>> ((1 : Int32).toUInt32 &&& Int32.toUInt32 31)).toInt32) &&& 1431655765) : Int32).toUInt32 >>> ((2 : Int32).toUInt32 &&& Int32.toUInt32 31)).toInt32) &&& 858993459) : Int32).toUInt32 >>> ((4 : Int32).toUInt32 &&& Int32.toUInt32 31)).toInt32)) &&& 252645135 : Int32).toUInt32 >>> ((8 : Int32).toUInt32 &&& Int32.toUInt32 31)).toInt32) q_3 rfl rfl ?_
  refine e_bin (r := (((((x0 - ((((x0 : Int32).toUInt32 >>> ((1 : Int32).toUInt32 &&& Int32.toUInt32 31)).toInt32) &&& 1431655765)) &&& 858993459) + ((((x0 - ((((x0 : Int32).toUInt32 >>> ((1 : Int32).toUInt32 &&& Int32.toUInt32 31)).toInt32) &&& 1431655765) : Int32).toUInt32 >>> ((2 : Int32).toUInt32 &&& Int32.toUInt32 31)).toInt32) &&& 858993459)) + (((((x0 - ((((x0 : Int32).toUInt32 >>> ((1 : Int32).toUInt32 &&& Int32.toUInt32 31)).toInt32) &&& 1431655765)) &&& 858993459) + ((((x0 - ((((x0 : Int32).toUInt32 >>> ((1 : Int32).toUInt32 &&& Int32.toUInt32 31)).toInt32) &&& 1431655765) : Int32).toUInt32 >>> ((2 : Int32).toUInt32 &&& Int32.toUInt32 31)).toInt32) &&& 858993459) : Int32).toUInt32 >>> ((4 : Int32).toUInt32 &&& Int32.toUInt32 31)).toInt32)) &&& 252645135) + (((((((x0 - ((((x0 : Int32).toUInt32 >>> ((1 : Int32).toUInt32 &&& Int32.toUInt32 31)).toInt32) &&& 1431655765)) &&& 858993459) + ((((x0 - ((((x0 : Int32).toUInt32 >>> ((1 : Int32).toUInt32 &&& Int32.toUInt32 31)).toInt32) &&& 1431655765) : Int32).toUInt32 >>> ((2 : Int32).toUInt32 &&& Int32.toUInt32 31)).toInt32) &&& 858993459)) + (((((x0 - ((((x0 : Int32).toUInt32 >>> ((1 : Int32).toUInt32 &&& Int32.toUInt32 31)).toInt32) &&& 1431655765)) &&& 858993459) + ((((x0 - ((((x0 : Int32).toUInt32 >>> ((1 : Int32).toUInt32 &&& Int32.toUInt32 31)).toInt32) &&& 1431655765) : Int32).toUInt32 >>> ((2 : Int32).toUInt32 &&& Int32.toUInt32 31)).toInt32) &&& 858993459) : Int32).toUInt32 >>> ((4 : Int32).toUInt32 &&& Int32.toUInt32 31)).toInt32)) &&& 252645135 : Int32).toUInt32 >>> ((8 : Int32).toUInt32 &&& Int32.toUInt32 31)).toInt32)) q_3 rfl rfl ?_
  refine e_store (ls' := [some (.inl ((((((x0 - ((((x0 : Int32).toUInt32 >>> ((1 : Int32).toUInt32 &&& Int32.toUInt32 31)).toInt32) &&& 1431655765)) &&& 858993459) + ((((x0 - ((((x0 : Int32).toUInt32 >>> ((1 : Int32).toUInt32 &&& Int32.toUInt32 31)).toInt32) &&& 1431655765) : Int32).toUInt32 >>> ((2 : Int32).toUInt32 &&& Int32.toUInt32 31)).toInt32) &&& 858993459)) + (((((x0 - ((((x0 : Int32).toUInt32 >>> ((1 : Int32).toUInt32 &&& Int32.toUInt32 31)).toInt32) &&& 1431655765)) &&& 858993459) + ((((x0 - ((((x0 : Int32).toUInt32 >>> ((1 : Int32).toUInt32 &&& Int32.toUInt32 31)).toInt32) &&& 1431655765) : Int32).toUInt32 >>> ((2 : Int32).toUInt32 &&& Int32.toUInt32 31)).toInt32) &&& 858993459) : Int32).toUInt32 >>> ((4 : Int32).toUInt32 &&& Int32.toUInt32 31)).toInt32)) &&& 252645135) + (((((((x0 - ((((x0 : Int32).toUInt32 >>> ((1 : Int32).toUInt32 &&& Int32.toUInt32 31)).toInt32) &&& 1431655765)) &&& 858993459) + ((((x0 - ((((x0 : Int32).toUInt32 >>> ((1 : Int32).toUInt32 &&& Int32.toUInt32 31)).toInt32) &&& 1431655765) : Int32).toUInt32 >>> ((2 : Int32).toUInt32 &&& Int32.toUInt32 31)).toInt32) &&& 858993459)) + (((((x0 - ((((x0 : Int32).toUInt32 >>> ((1 : Int32).toUInt32 &&& Int32.toUInt32 31)).toInt32) &&& 1431655765)) &&& 858993459) + ((((x0 - ((((x0 : Int32).toUInt32 >>> ((1 : Int32).toUInt32 &&& Int32.toUInt32 31)).toInt32) &&& 1431655765) : Int32).toUInt32 >>> ((2 : Int32).toUInt32 &&& Int32.toUInt32 31)).toInt32) &&& 858993459) : Int32).toUInt32 >>> ((4 : Int32).toUInt32 &&& Int32.toUInt32 31)).toInt32)) &&& 252645135 : Int32).toUInt32 >>> ((8 : Int32).toUInt32 &&& Int32.toUInt32 31)).toInt32)))]) q_3 rfl (Nat.le_of_ble_eq_true rfl) rfl rfl ?_
  refine e_load q_3 rfl rfl rfl ?_
  refine e_load q_3 rfl rfl rfl ?_
  refine e_push q_3 rfl ?_
  refine e_bin (r := (((((((x0 - ((((x0 : Int32).toUInt32 >>> ((1 : Int32).toUInt32 &&& Int32.toUInt32 31)).toInt32) &&& 1431655765)) &&& 858993459) + ((((x0 - ((((x0 : Int32).toUInt32 >>> ((1 : Int32).toUInt32 &&& Int32.toUInt32 31)).toInt32) &&& 1431655765) : Int32).toUInt32 >>> ((2 : Int32).toUInt32 &&& Int32.toUInt32 31)).toInt32) &&& 858993459)) + (((((x0 - ((((x0 : Int32).toUInt32 >>> ((1 : Int32).toUInt32 &&& Int32.toUInt32 31)).toInt32) &&& 1431655765)) &&& 858993459) + ((((x0 - ((((x0 : Int32).toUInt32 >>> ((1 : Int32).toUInt32 &&& Int32.toUInt32 31)).toInt32) &&& 1431655765) : Int32).toUInt32 >>> ((2 : Int32).toUInt32 &&& Int32.toUInt32 31)).toInt32) &&& 858993459) : Int32).toUInt32 >>> ((4 : Int32).toUInt32 &&& Int32.toUInt32 31)).toInt32)) &&& 252645135) + (((((((x0 - ((((x0 : Int32).toUInt32 >>> ((1 : Int32).toUInt32 &&& Int32.toUInt32 31)).toInt32) &&& 1431655765)) &&& 858993459) + ((((x0 - ((((x0 : Int32).toUInt32 >>> ((1 : Int32).toUInt32 &&& Int32.toUInt32 31)).toInt32) &&& 1431655765) : Int32).toUInt32 >>> ((2 : Int32).toUInt32 &&& Int32.toUInt32 31)).toInt32) &&& 858993459)) + (((((x0 - ((((x0 : Int32).toUInt32 >>> ((1 : Int32).toUInt32 &&& Int32.toUInt32 31)).toInt32) &&& 1431655765)) &&& 858993459) + ((((x0 - ((((x0 : Int32).toUInt32 >>> ((1 : Int32).toUInt32 &&& Int32.toUInt32 31)).toInt32) &&& 1431655765) : Int32).toUInt32 >>> ((2 : Int32).toUInt32 &&& Int32.toUInt32 31)).toInt32) &&& 858993459) : Int32).toUInt32 >>> ((4 : Int32).toUInt32 &&& Int32.toUInt32 31)).toInt32)) &&& 252645135 : Int32).toUInt32 >>> ((8 : Int32).toUInt32 &&& Int32.toUInt32 31)).toInt32) : Int32).toUInt32 >>> ((16 : Int32).toUInt32 &&& Int32.toUInt32 31)).toInt32) q_3 rfl rfl ?_
  refine e_bin (r := ((((((x0 - ((((x0 : Int32).toUInt32 >>> ((1 : Int32).toUInt32 &&& Int32.toUInt32 31)).toInt32) &&& 1431655765)) &&& 858993459) + ((((x0 - ((((x0 : Int32).toUInt32 >>> ((1 : Int32).toUInt32 &&& Int32.toUInt32 31)).toInt32) &&& 1431655765) : Int32).toUInt32 >>> ((2 : Int32).toUInt32 &&& Int32.toUInt32 31)).toInt32) &&& 858993459)) + (((((x0 - ((((x0 : Int32).toUInt32 >>> ((1 : Int32).toUInt32 &&& Int32.toUInt32 31)).toInt32) &&& 1431655765)) &&& 858993459) + ((((x0 - ((((x0 : Int32).toUInt32 >>> ((1 : Int32).toUInt32 &&& Int32.toUInt32 31)).toInt32) &&& 1431655765) : Int32).toUInt32 >>> ((2 : Int32).toUInt32 &&& Int32.toUInt32 31)).toInt32) &&& 858993459) : Int32).toUInt32 >>> ((4 : Int32).toUInt32 &&& Int32.toUInt32 31)).toInt32)) &&& 252645135) + (((((((x0 - ((((x0 : Int32).toUInt32 >>> ((1 : Int32).toUInt32 &&& Int32.toUInt32 31)).toInt32) &&& 1431655765)) &&& 858993459) + ((((x0 - ((((x0 : Int32).toUInt32 >>> ((1 : Int32).toUInt32 &&& Int32.toUInt32 31)).toInt32) &&& 1431655765) : Int32).toUInt32 >>> ((2 : Int32).toUInt32 &&& Int32.toUInt32 31)).toInt32) &&& 858993459)) + (((((x0 - ((((x0 : Int32).toUInt32 >>> ((1 : Int32).toUInt32 &&& Int32.toUInt32 31)).toInt32) &&& 1431655765)) &&& 858993459) + ((((x0 - ((((x0 : Int32).toUInt32 >>> ((1 : Int32).toUInt32 &&& Int32.toUInt32 31)).toInt32) &&& 1431655765) : Int32).toUInt32 >>> ((2 : Int32).toUInt32 &&& Int32.toUInt32 31)).toInt32) &&& 858993459) : Int32).toUInt32 >>> ((4 : Int32).toUInt32 &&& Int32.toUInt32 31)).toInt32)) &&& 252645135 : Int32).toUInt32 >>> ((8 : Int32).toUInt32 &&& Int32.toUInt32 31)).toInt32)) + ((((((((x0 - ((((x0 : Int32).toUInt32 >>> ((1 : Int32).toUInt32 &&& Int32.toUInt32 31)).toInt32) &&& 1431655765)) &&& 858993459) + ((((x0 - ((((x0 : Int32).toUInt32 >>> ((1 : Int32).toUInt32 &&& Int32.toUInt32 31)).toInt32) &&& 1431655765) : Int32).toUInt32 >>> ((2 : Int32).toUInt32 &&& Int32.toUInt32 31)).toInt32) &&& 858993459)) + (((((x0 - ((((x0 : Int32).toUInt32 >>> ((1 : Int32).toUInt32 &&& Int32.toUInt32 31)).toInt32) &&& 1431655765)) &&& 858993459) + ((((x0 - ((((x0 : Int32).toUInt32 >>> ((1 : Int32).toUInt32 &&& Int32.toUInt32 31)).toInt32) &&& 1431655765) : Int32).toUInt32 >>> ((2 : Int32).toUInt32 &&& Int32.toUInt32 31)).toInt32) &&& 858993459) : Int32).toUInt32 >>> ((4 : Int32).toUInt32 &&& Int32.toUInt32 31)).toInt32)) &&& 252645135) + (((((((x0 - ((((x0 : Int32).toUInt32 >>> ((1 : Int32).toUInt32 &&& Int32.toUInt32 31)).toInt32) &&& 1431655765)) &&& 858993459) + ((((x0 - ((((x0 : Int32).toUInt32 >>> ((1 : Int32).toUInt32 &&& Int32.toUInt32 31)).toInt32) &&& 1431655765) : Int32).toUInt32 >>> ((2 : Int32).toUInt32 &&& Int32.toUInt32 31)).toInt32) &&& 858993459)) + (((((x0 - ((((x0 : Int32).toUInt32 >>> ((1 : Int32).toUInt32 &&& Int32.toUInt32 31)).toInt32) &&& 1431655765)) &&& 858993459) + ((((x0 - ((((x0 : Int32).toUInt32 >>> ((1 : Int32).toUInt32 &&& Int32.toUInt32 31)).toInt32) &&& 1431655765) : Int32).toUInt32 >>> ((2 : Int32).toUInt32 &&& Int32.toUInt32 31)).toInt32) &&& 858993459) : Int32).toUInt32 >>> ((4 : Int32).toUInt32 &&& Int32.toUInt32 31)).toInt32)) &&& 252645135 : Int32).toUInt32 >>> ((8 : Int32).toUInt32 &&& Int32.toUInt32 31)).toInt32) : Int32).toUInt32 >>> ((16 : Int32).toUInt32 &&& Int32.toUInt32 31)).toInt32)) q_3 rfl rfl ?_
  refine e_store (ls' := [some (.inl (((((((x0 - ((((x0 : Int32).toUInt32 >>> ((1 : Int32).toUInt32 &&& Int32.toUInt32 31)).toInt32) &&& 1431655765)) &&& 858993459) + ((((x0 - ((((x0 : Int32).toUInt32 >>> ((1 : Int32).toUInt32 &&& Int32.toUInt32 31)).toInt32) &&& 1431655765) : Int32).toUInt32 >>> ((2 : Int32).toUInt32 &&& Int32.toUInt32 31)).toInt32) &&& 858993459)) + (((((x0 - ((((x0 : Int32).toUInt32 >>> ((1 : Int32).toUInt32 &&& Int32.toUInt32 31)).toInt32) &&& 1431655765)) &&& 858993459) + ((((x0 - ((((x0 : Int32).toUInt32 >>> ((1 : Int32).toUInt32 &&& Int32.toUInt32 31)).toInt32) &&& 1431655765) : Int32).toUInt32 >>> ((2 : Int32).toUInt32 &&& Int32.toUInt32 31)).toInt32) &&& 858993459) : Int32).toUInt32 >>> ((4 : Int32).toUInt32 &&& Int32.toUInt32 31)).toInt32)) &&& 252645135) + (((((((x0 - ((((x0 : Int32).toUInt32 >>> ((1 : Int32).toUInt32 &&& Int32.toUInt32 31)).toInt32) &&& 1431655765)) &&& 858993459) + ((((x0 - ((((x0 : Int32).toUInt32 >>> ((1 : Int32).toUInt32 &&& Int32.toUInt32 31)).toInt32) &&& 1431655765) : Int32).toUInt32 >>> ((2 : Int32).toUInt32 &&& Int32.toUInt32 31)).toInt32) &&& 858993459)) + (((((x0 - ((((x0 : Int32).toUInt32 >>> ((1 : Int32).toUInt32 &&& Int32.toUInt32 31)).toInt32) &&& 1431655765)) &&& 858993459) + ((((x0 - ((((x0 : Int32).toUInt32 >>> ((1 : Int32).toUInt32 &&& Int32.toUInt32 31)).toInt32) &&& 1431655765) : Int32).toUInt32 >>> ((2 : Int32).toUInt32 &&& Int32.toUInt32 31)).toInt32) &&& 858993459) : Int32).toUInt32 >>> ((4 : Int32).toUInt32 &&& Int32.toUInt32 31)).toInt32)) &&& 252645135 : Int32).toUInt32 >>> ((8 : Int32).toUInt32 &&& Int32.toUInt32 31)).toInt32)) + ((((((((x0 - ((((x0 : Int32).toUInt32 >>> ((1 : Int32).toUInt32 &&& Int32.toUInt32 31)).toInt32) &&& 1431655765)) &&& 858993459) + ((((x0 - ((((x0 : Int32).toUInt32 >>> ((1 : Int32).toUInt32 &&& Int32.toUInt32 31)).toInt32) &&& 1431655765) : Int32).toUInt32 >>> ((2 : Int32).toUInt32 &&& Int32.toUInt32 31)).toInt32) &&& 858993459)) + (((((x0 - ((((x0 : Int32).toUInt32 >>> ((1 : Int32).toUInt32 &&& Int32.toUInt32 31)).toInt32) &&& 1431655765)) &&& 858993459) + ((((x0 - ((((x0 : Int32).toUInt32 >>> ((1 : Int32).toUInt32 &&& Int32.toUInt32 31)).toInt32) &&& 1431655765) : Int32).toUInt32 >>> ((2 : Int32).toUInt32 &&& Int32.toUInt32 31)).toInt32) &&& 858993459) : Int32).toUInt32 >>> ((4 : Int32).toUInt32 &&& Int32.toUInt32 31)).toInt32)) &&& 252645135) + (((((((x0 - ((((x0 : Int32).toUInt32 >>> ((1 : Int32).toUInt32 &&& Int32.toUInt32 31)).toInt32) &&& 1431655765)) &&& 858993459) + ((((x0 - ((((x0 : Int32).toUInt32 >>> ((1 : Int32).toUInt32 &&& Int32.toUInt32 31)).toInt32) &&& 1431655765) : Int32).toUInt32 >>> ((2 : Int32).toUInt32 &&& Int32.toUInt32 31)).toInt32) &&& 858993459)) + (((((x0 - ((((x0 : Int32).toUInt32 >>> ((1 : Int32).toUInt32 &&& Int32.toUInt32 31)).toInt32) &&& 1431655765)) &&& 858993459) + ((((x0 - ((((x0 : Int32).toUInt32 >>> ((1 : Int32).toUInt32 &&& Int32.toUInt32 31)).toInt32) &&& 1431655765) : Int32).toUInt32 >>> ((2 : Int32).toUInt32 &&& Int32.toUInt32 31)).toInt32) &&& 858993459) : Int32).toUInt32 >>> ((4 : Int32).toUInt32 &&& Int32.toUInt32 31)).toInt32)) &&& 252645135 : Int32).toUInt32 >>> ((8 : Int32).toUInt32 &&& Int32.toUInt32 31)).toInt32) : Int32).toUInt32 >>> ((16 : Int32).toUInt32 &&& Int32.toUInt32 31)).toInt32)))]) q_3 rfl (Nat.le_of_ble_eq_true rfl) rfl rfl ?_
  refine e_load q_3 rfl rfl rfl ?_
  refine e_push q_3 rfl ?_
  refine e_bin (r := (((((((x0 - ((((x0 : Int32).toUInt32 >>> ((1 : Int32).toUInt32 &&& Int32.toUInt32 31)).toInt32) &&& 1431655765)) &&& 858993459) + ((((x0 - ((((x0 : Int32).toUInt32 >>> ((1 : Int32).toUInt32 &&& Int32.toUInt32 31)).toInt32) &&& 1431655765) : Int32).toUInt32 >>> ((2 : Int32).toUInt32 &&& Int32.toUInt32 31)).toInt32) &&& 858993459)) + (((((x0 - ((((x0 : Int32).toUInt32 >>> ((1 : Int32).toUInt32 &&& Int32.toUInt32 31)).toInt32) &&& 1431655765)) &&& 858993459) + ((((x0 - ((((x0 : Int32).toUInt32 >>> ((1 : Int32).toUInt32 &&& Int32.toUInt32 31)).toInt32) &&& 1431655765) : Int32).toUInt32 >>> ((2 : Int32).toUInt32 &&& Int32.toUInt32 31)).toInt32) &&& 858993459) : Int32).toUInt32 >>> ((4 : Int32).toUInt32 &&& Int32.toUInt32 31)).toInt32)) &&& 252645135) + (((((((x0 - ((((x0 : Int32).toUInt32 >>> ((1 : Int32).toUInt32 &&& Int32.toUInt32 31)).toInt32) &&& 1431655765)) &&& 858993459) + ((((x0 - ((((x0 : Int32).toUInt32 >>> ((1 : Int32).toUInt32 &&& Int32.toUInt32 31)).toInt32) &&& 1431655765) : Int32).toUInt32 >>> ((2 : Int32).toUInt32 &&& Int32.toUInt32 31)).toInt32) &&& 858993459)) + (((((x0 - ((((x0 : Int32).toUInt32 >>> ((1 : Int32).toUInt32 &&& Int32.toUInt32 31)).toInt32) &&& 1431655765)) &&& 858993459) + ((((x0 - ((((x0 : Int32).toUInt32 >>> ((1 : Int32).toUInt32 &&& Int32.toUInt32 31)).toInt32) &&& 1431655765) : Int32).toUInt32 >>> ((2 : Int32).toUInt32 &&& Int32.toUInt32 31)).toInt32) &&& 858993459) : Int32).toUInt32 >>> ((4 : Int32).toUInt32 &&& Int32.toUInt32 31)).toInt32)) &&& 252645135 : Int32).toUInt32 >>> ((8 : Int32).toUInt32 &&& Int32.toUInt32 31)).toInt32)) + ((((((((x0 - ((((x0 : Int32).toUInt32 >>> ((1 : Int32).toUInt32 &&& Int32.toUInt32 31)).toInt32) &&& 1431655765)) &&& 858993459) + ((((x0 - ((((x0 : Int32).toUInt32 >>> ((1 : Int32).toUInt32 &&& Int32.toUInt32 31)).toInt32) &&& 1431655765) : Int32).toUInt32 >>> ((2 : Int32).toUInt32 &&& Int32.toUInt32 31)).toInt32) &&& 858993459)) + (((((x0 - ((((x0 : Int32).toUInt32 >>> ((1 : Int32).toUInt32 &&& Int32.toUInt32 31)).toInt32) &&& 1431655765)) &&& 858993459) + ((((x0 - ((((x0 : Int32).toUInt32 >>> ((1 : Int32).toUInt32 &&& Int32.toUInt32 31)).toInt32) &&& 1431655765) : Int32).toUInt32 >>> ((2 : Int32).toUInt32 &&& Int32.toUInt32 31)).toInt32) &&& 858993459) : Int32).toUInt32 >>> ((4 : Int32).toUInt32 &&& Int32.toUInt32 31)).toInt32)) &&& 252645135) + (((((((x0 - ((((x0 : Int32).toUInt32 >>> ((1 : Int32).toUInt32 &&& Int32.toUInt32 31)).toInt32) &&& 1431655765)) &&& 858993459) + ((((x0 - ((((x0 : Int32).toUInt32 >>> ((1 : Int32).toUInt32 &&& Int32.toUInt32 31)).toInt32) &&& 1431655765) : Int32).toUInt32 >>> ((2 : Int32).toUInt32 &&& Int32.toUInt32 31)).toInt32) &&& 858993459)) + (((((x0 - ((((x0 : Int32).toUInt32 >>> ((1 : Int32).toUInt32 &&& Int32.toUInt32 31)).toInt32) &&& 1431655765)) &&& 858993459) + ((((x0 - ((((x0 : Int32).toUInt32 >>> ((1 : Int32).toUInt32 &&& Int32.toUInt32 31)).toInt32) &&& 1431655765) : Int32).toUInt32 >>> ((2 : Int32).toUInt32 &&& Int32.toUInt32 31)).toInt32) &&& 858993459) : Int32).toUInt32 >>> ((4 : Int32).toUInt32 &&& Int32.toUInt32 31)).toInt32)) &&& 252645135 : Int32).toUInt32 >>> ((8 : Int32).toUInt32 &&& Int32.toUInt32 31)).toInt32) : Int32).toUInt32 >>> ((16 : Int32).toUInt32 &&& Int32.toUInt32 31)).toInt32)) &&& 63) q_3 rfl rfl ?_
  exact e_ireturn q_3 rfl rfl h
theorem g_10_0 {S : Nat × (Nat → Int32)} {d : Nat} {σ : Mem} {Q : MQ1} {x1 : Int32} {x2 : Int32}  (h : (∃ j2 : Nat, (0 * 8) + (σ 2 80) = nI j2 ∧ j2 < 81 ∧ (∃ j3 : Nat, (1 * 8) + (σ 2 80) = nI j3 ∧ j3 < 81 ∧ (∃ j4 : Nat, (2 * 8) + (σ 2 80) = nI j4 ∧ j4 < 81 ∧ (∃ j5 : Nat, (3 * 8) + (σ 2 80) = nI j5 ∧ j5 < 81 ∧ (∃ j6 : Nat, (4 * 8) + (σ 2 80) = nI j6 ∧ j6 < 81 ∧ (∃ j7 : Nat, (5 * 8) + (σ 2 80) = nI j7 ∧ j7 < 81 ∧ (∃ j8 : Nat, (6 * 8) + (σ 2 80) = nI j8 ∧ j8 < 81 ∧ (∃ j9 : Nat, (7 * 8) + (σ 2 80) = nI j9 ∧ j9 < 81 ∧ (∃ j10 : Nat, (8 * 8) + (σ 2 80) = nI j10 ∧ j10 < 81 ∧ Q [.inl (σ 2 80)] (up (up (up (up (up (up (up (up (up (up σ 2 j2 x1) 2 j3 x2) 2 j4 0) 2 j5 0) 2 j6 0) 2 j7 (-1)) 2 j8 (-1)) 2 j9 0) 2 j10 (-1)) 2 80 ((σ 2 80) + 1)))))))))))) : Ev S (d + 1) 10 0 [some (.inr (some 1)), some (.inl x1), some (.inl x2), none] [] σ Q := by
  refine e_load q_10 rfl rfl rfl ?_
  refine e_getR q_10 rfl rfl rfl ?_
  refine e_push q_10 rfl ?_
  refine e_iald (j := 80) q_10 rfl rfl (by decide) (by decide +kernel) (by decide) ?_
  refine e_store (ls' := [some (.inr (some 1)), some (.inl x1), some (.inl x2), some (.inl (σ 2 80))]) q_10 rfl (Nat.le_of_ble_eq_true rfl) rfl rfl ?_
  refine e_load q_10 rfl rfl rfl ?_
  refine e_push q_10 rfl ?_
  refine e_load q_10 rfl rfl rfl ?_
  refine e_load q_10 rfl rfl rfl ?_
  refine e_virt q_10 rfl rfl (Nat.le_of_ble_eq_true rfl) rfl rfl (Nat.le_of_ble_eq_true rfl) rfl ?_
  show Ev S d 9 0 [some (.inr (some 1)), some (.inl 0), some (.inl (σ 2 80)), some (.inl x1)] [] σ _
  refine e_load q_9 rfl rfl rfl ?_
  refine e_getR q_9 rfl rfl rfl ?_
  refine e_load q_9 rfl rfl rfl ?_
  refine e_push q_9 rfl ?_
  refine e_bin (r := 0 * 8) q_9 rfl rfl ?_
  refine e_load q_9 rfl rfl rfl ?_
  refine e_bin (r := (0 * 8) + (σ 2 80)) q_9 rfl rfl ?_
  refine e_load q_9 rfl rfl rfl ?_
  obtain ⟨j2, hjj2, hlj2, h⟩ := h
  refine e_iast q_9 rfl rfl (by decide) hjj2 hlj2 ?_
  refine e_return q_9 rfl rfl ?_
  show Ev S (d + 1) 10 10 [some (.inr (some 1)), some (.inl x1), some (.inl x2), some (.inl (σ 2 80))] [] (up σ 2 j2 x1) _
  refine e_load q_10 rfl rfl rfl ?_
  refine e_push q_10 rfl ?_
  refine e_load q_10 rfl rfl rfl ?_
  refine e_load q_10 rfl rfl rfl ?_
  refine e_virt q_10 rfl rfl (Nat.le_of_ble_eq_true rfl) rfl rfl (Nat.le_of_ble_eq_true rfl) rfl ?_
  show Ev S d 9 0 [some (.inr (some 1)), some (.inl 1), some (.inl (σ 2 80)), some (.inl x2)] [] (up σ 2 j2 x1) _
  refine e_load q_9 rfl rfl rfl ?_
  refine e_getR q_9 rfl rfl rfl ?_
  refine e_load q_9 rfl rfl rfl ?_
  refine e_push q_9 rfl ?_
  refine e_bin (r := 1 * 8) q_9 rfl rfl ?_
  refine e_load q_9 rfl rfl rfl ?_
  refine e_bin (r := (1 * 8) + (σ 2 80)) q_9 rfl rfl ?_
  refine e_load q_9 rfl rfl rfl ?_
  obtain ⟨j3, hjj3, hlj3, h⟩ := h
  refine e_iast q_9 rfl rfl (by decide) hjj3 hlj3 ?_
  refine e_return q_9 rfl rfl ?_
  show Ev S (d + 1) 10 15 [some (.inr (some 1)), some (.inl x1), some (.inl x2), some (.inl (σ 2 80))] [] (up (up σ 2 j2 x1) 2 j3 x2) _
  refine e_load q_10 rfl rfl rfl ?_
  refine e_push q_10 rfl ?_
  refine e_load q_10 rfl rfl rfl ?_
  refine e_push q_10 rfl ?_
  refine e_virt q_10 rfl rfl (Nat.le_of_ble_eq_true rfl) rfl rfl (Nat.le_of_ble_eq_true rfl) rfl ?_
  show Ev S d 9 0 [some (.inr (some 1)), some (.inl 2), some (.inl (σ 2 80)), some (.inl 0)] [] (up (up σ 2 j2 x1) 2 j3 x2) _
  refine e_load q_9 rfl rfl rfl ?_
  refine e_getR q_9 rfl rfl rfl ?_
  refine e_load q_9 rfl rfl rfl ?_
  refine e_push q_9 rfl ?_
  refine e_bin (r := 2 * 8) q_9 rfl rfl ?_
  refine e_load q_9 rfl rfl rfl ?_
  refine e_bin (r := (2 * 8) + (σ 2 80)) q_9 rfl rfl ?_
  refine e_load q_9 rfl rfl rfl ?_
  obtain ⟨j4, hjj4, hlj4, h⟩ := h
  refine e_iast q_9 rfl rfl (by decide) hjj4 hlj4 ?_
  refine e_return q_9 rfl rfl ?_
  show Ev S (d + 1) 10 20 [some (.inr (some 1)), some (.inl x1), some (.inl x2), some (.inl (σ 2 80))] [] (up (up (up σ 2 j2 x1) 2 j3 x2) 2 j4 0) _
  refine e_load q_10 rfl rfl rfl ?_
  refine e_push q_10 rfl ?_
  refine e_load q_10 rfl rfl rfl ?_
  refine e_push q_10 rfl ?_
  refine e_virt q_10 rfl rfl (Nat.le_of_ble_eq_true rfl) rfl rfl (Nat.le_of_ble_eq_true rfl) rfl ?_
  show Ev S d 9 0 [some (.inr (some 1)), some (.inl 3), some (.inl (σ 2 80)), some (.inl 0)] [] (up (up (up σ 2 j2 x1) 2 j3 x2) 2 j4 0) _
  refine e_load q_9 rfl rfl rfl ?_
  refine e_getR q_9 rfl rfl rfl ?_
  refine e_load q_9 rfl rfl rfl ?_
  refine e_push q_9 rfl ?_
  refine e_bin (r := 3 * 8) q_9 rfl rfl ?_
  refine e_load q_9 rfl rfl rfl ?_
  refine e_bin (r := (3 * 8) + (σ 2 80)) q_9 rfl rfl ?_
  refine e_load q_9 rfl rfl rfl ?_
  obtain ⟨j5, hjj5, hlj5, h⟩ := h
  refine e_iast q_9 rfl rfl (by decide) hjj5 hlj5 ?_
  refine e_return q_9 rfl rfl ?_
  show Ev S (d + 1) 10 25 [some (.inr (some 1)), some (.inl x1), some (.inl x2), some (.inl (σ 2 80))] [] (up (up (up (up σ 2 j2 x1) 2 j3 x2) 2 j4 0) 2 j5 0) _
  refine e_load q_10 rfl rfl rfl ?_
  refine e_push q_10 rfl ?_
  refine e_load q_10 rfl rfl rfl ?_
  refine e_push q_10 rfl ?_
  refine e_virt q_10 rfl rfl (Nat.le_of_ble_eq_true rfl) rfl rfl (Nat.le_of_ble_eq_true rfl) rfl ?_
  show Ev S d 9 0 [some (.inr (some 1)), some (.inl 4), some (.inl (σ 2 80)), some (.inl 0)] [] (up (up (up (up σ 2 j2 x1) 2 j3 x2) 2 j4 0) 2 j5 0) _
  refine e_load q_9 rfl rfl rfl ?_
  refine e_getR q_9 rfl rfl rfl ?_
  refine e_load q_9 rfl rfl rfl ?_
  refine e_push q_9 rfl ?_
  refine e_bin (r := 4 * 8) q_9 rfl rfl ?_
  refine e_load q_9 rfl rfl rfl ?_
  refine e_bin (r := (4 * 8) + (σ 2 80)) q_9 rfl rfl ?_
  refine e_load q_9 rfl rfl rfl ?_
  obtain ⟨j6, hjj6, hlj6, h⟩ := h
  refine e_iast q_9 rfl rfl (by decide) hjj6 hlj6 ?_
  refine e_return q_9 rfl rfl ?_
  show Ev S (d + 1) 10 30 [some (.inr (some 1)), some (.inl x1), some (.inl x2), some (.inl (σ 2 80))] [] (up (up (up (up (up σ 2 j2 x1) 2 j3 x2) 2 j4 0) 2 j5 0) 2 j6 0) _
  refine e_load q_10 rfl rfl rfl ?_
  refine e_push q_10 rfl ?_
  refine e_load q_10 rfl rfl rfl ?_
  refine e_push q_10 rfl ?_
  refine e_virt q_10 rfl rfl (Nat.le_of_ble_eq_true rfl) rfl rfl (Nat.le_of_ble_eq_true rfl) rfl ?_
  show Ev S d 9 0 [some (.inr (some 1)), some (.inl 5), some (.inl (σ 2 80)), some (.inl (-1))] [] (up (up (up (up (up σ 2 j2 x1) 2 j3 x2) 2 j4 0) 2 j5 0) 2 j6 0) _
  refine e_load q_9 rfl rfl rfl ?_
  refine e_getR q_9 rfl rfl rfl ?_
  refine e_load q_9 rfl rfl rfl ?_
  refine e_push q_9 rfl ?_
  refine e_bin (r := 5 * 8) q_9 rfl rfl ?_
  refine e_load q_9 rfl rfl rfl ?_
  refine e_bin (r := (5 * 8) + (σ 2 80)) q_9 rfl rfl ?_
  refine e_load q_9 rfl rfl rfl ?_
  obtain ⟨j7, hjj7, hlj7, h⟩ := h
  refine e_iast q_9 rfl rfl (by decide) hjj7 hlj7 ?_
  refine e_return q_9 rfl rfl ?_
  show Ev S (d + 1) 10 35 [some (.inr (some 1)), some (.inl x1), some (.inl x2), some (.inl (σ 2 80))] [] (up (up (up (up (up (up σ 2 j2 x1) 2 j3 x2) 2 j4 0) 2 j5 0) 2 j6 0) 2 j7 (-1)) _
  refine e_load q_10 rfl rfl rfl ?_
  refine e_push q_10 rfl ?_
  refine e_load q_10 rfl rfl rfl ?_
  refine e_push q_10 rfl ?_
  refine e_virt q_10 rfl rfl (Nat.le_of_ble_eq_true rfl) rfl rfl (Nat.le_of_ble_eq_true rfl) rfl ?_
  show Ev S d 9 0 [some (.inr (some 1)), some (.inl 6), some (.inl (σ 2 80)), some (.inl (-1))] [] (up (up (up (up (up (up σ 2 j2 x1) 2 j3 x2) 2 j4 0) 2 j5 0) 2 j6 0) 2 j7 (-1)) _
  refine e_load q_9 rfl rfl rfl ?_
  refine e_getR q_9 rfl rfl rfl ?_
  refine e_load q_9 rfl rfl rfl ?_
  refine e_push q_9 rfl ?_
  refine e_bin (r := 6 * 8) q_9 rfl rfl ?_
  refine e_load q_9 rfl rfl rfl ?_
  refine e_bin (r := (6 * 8) + (σ 2 80)) q_9 rfl rfl ?_
  refine e_load q_9 rfl rfl rfl ?_
  obtain ⟨j8, hjj8, hlj8, h⟩ := h
  refine e_iast q_9 rfl rfl (by decide) hjj8 hlj8 ?_
  refine e_return q_9 rfl rfl ?_
  show Ev S (d + 1) 10 40 [some (.inr (some 1)), some (.inl x1), some (.inl x2), some (.inl (σ 2 80))] [] (up (up (up (up (up (up (up σ 2 j2 x1) 2 j3 x2) 2 j4 0) 2 j5 0) 2 j6 0) 2 j7 (-1)) 2 j8 (-1)) _
  refine e_load q_10 rfl rfl rfl ?_
  refine e_push q_10 rfl ?_
  refine e_load q_10 rfl rfl rfl ?_
  refine e_push q_10 rfl ?_
  refine e_virt q_10 rfl rfl (Nat.le_of_ble_eq_true rfl) rfl rfl (Nat.le_of_ble_eq_true rfl) rfl ?_
  show Ev S d 9 0 [some (.inr (some 1)), some (.inl 7), some (.inl (σ 2 80)), some (.inl 0)] [] (up (up (up (up (up (up (up σ 2 j2 x1) 2 j3 x2) 2 j4 0) 2 j5 0) 2 j6 0) 2 j7 (-1)) 2 j8 (-1)) _
  refine e_load q_9 rfl rfl rfl ?_
  refine e_getR q_9 rfl rfl rfl ?_
  refine e_load q_9 rfl rfl rfl ?_
  refine e_push q_9 rfl ?_
  refine e_bin (r := 7 * 8) q_9 rfl rfl ?_
  refine e_load q_9 rfl rfl rfl ?_
  refine e_bin (r := (7 * 8) + (σ 2 80)) q_9 rfl rfl ?_
  refine e_load q_9 rfl rfl rfl ?_
  obtain ⟨j9, hjj9, hlj9, h⟩ := h
  refine e_iast q_9 rfl rfl (by decide) hjj9 hlj9 ?_
  refine e_return q_9 rfl rfl ?_
  show Ev S (d + 1) 10 45 [some (.inr (some 1)), some (.inl x1), some (.inl x2), some (.inl (σ 2 80))] [] (up (up (up (up (up (up (up (up σ 2 j2 x1) 2 j3 x2) 2 j4 0) 2 j5 0) 2 j6 0) 2 j7 (-1)) 2 j8 (-1)) 2 j9 0) _
  refine e_load q_10 rfl rfl rfl ?_
  refine e_push q_10 rfl ?_
  refine e_load q_10 rfl rfl rfl ?_
  refine e_push q_10 rfl ?_
  refine e_virt q_10 rfl rfl (Nat.le_of_ble_eq_true rfl) rfl rfl (Nat.le_of_ble_eq_true rfl) rfl ?_
  show Ev S d 9 0 [some (.inr (some 1)), some (.inl 8), some (.inl (σ 2 80)), some (.inl (-1))] [] (up (up (up (up (up (up (up (up σ 2 j2 x1) 2 j3 x2) 2 j4 0) 2 j5 0) 2 j6 0) 2 j7 (-1)) 2 j8 (-1)) 2 j9 0) _
  refine e_load q_9 rfl rfl rfl ?_
  refine e_getR q_9 rfl rfl rfl ?_
  refine e_load q_9 rfl rfl rfl ?_
  refine e_push q_9 rfl ?_
  refine e_bin (r := 8 * 8) q_9 rfl rfl ?_
  refine e_load q_9 rfl rfl rfl ?_
  refine e_bin (r := (8 * 8) + (σ 2 80)) q_9 rfl rfl ?_
  refine e_load q_9 rfl rfl rfl ?_
  obtain ⟨j10, hjj10, hlj10, h⟩ := h
  refine e_iast q_9 rfl rfl (by decide) hjj10 hlj10 ?_
  refine e_return q_9 rfl rfl ?_
  show Ev S (d + 1) 10 50 [some (.inr (some 1)), some (.inl x1), some (.inl x2), some (.inl (σ 2 80))] [] (up (up (up (up (up (up (up (up (up σ 2 j2 x1) 2 j3 x2) 2 j4 0) 2 j5 0) 2 j6 0) 2 j7 (-1)) 2 j8 (-1)) 2 j9 0) 2 j10 (-1)) _
  refine e_load q_10 rfl rfl rfl ?_
  refine e_getR q_10 rfl rfl rfl ?_
  refine e_push q_10 rfl ?_
  refine e_load q_10 rfl rfl rfl ?_
  refine e_push q_10 rfl ?_
  refine e_bin (r := (σ 2 80) + 1) q_10 rfl rfl ?_
  refine e_iast (j := 80) q_10 rfl rfl (by decide) (by decide +kernel) (by decide) ?_
  refine e_load q_10 rfl rfl rfl ?_
  exact e_ireturn q_10 rfl rfl h
theorem g_14_0 {S : Nat × (Nat → Int32)} {d : Nat} {σ : Mem} {Q : MQ1}   (h : Ev S (d + 1) 14 4 [some (.inr (some 1)), some (.inl 0), some (.inl 0)] [] σ Q) : Ev S (d + 1) 14 0 [some (.inr (some 1)), none, none] [] σ Q := by
  refine e_push q_14 rfl ?_
  refine e_store (ls' := [some (.inr (some 1)), some (.inl 0), none]) q_14 rfl (Nat.le_of_ble_eq_true rfl) rfl rfl ?_
  refine e_push q_14 rfl ?_
  refine e_store (ls' := [some (.inr (some 1)), some (.inl 0), some (.inl 0)]) q_14 rfl (Nat.le_of_ble_eq_true rfl) rfl rfl ?_
  exact h
theorem g_14_4 {S : Nat × (Nat → Int32)} {d : Nat} {σ : Mem} {Q : MQ1} {x1 : Int32} {x2 : Int32}  (h : (((σ 2 80) ≤ x2 → Q [.inl x1] σ) ∧ (¬ ((σ 2 80) ≤ x2) → (∃ j2 : Nat, 0 + x2 = nI j2 ∧ j2 < 81 ∧ (((¬ (σ 2 j2) = 2) → Ev S (d + 1) 14 4 [some (.inr (some 1)), some (.inl (x1 + 0)), some (.inl (x2 + 1))] [] σ Q) ∧ (¬ (¬ (σ 2 j2) = 2) → Ev S (d + 1) 14 4 [some (.inr (some 1)), some (.inl (x1 + 1)), some (.inl (x2 + 1))] [] σ Q)))))) : Ev S (d + 1) 14 4 [some (.inr (some 1)), some (.inl x1), some (.inl x2)] [] σ Q := by
  refine e_load q_14 rfl rfl rfl ?_
  refine e_load q_14 rfl rfl rfl ?_
  refine e_virt q_14 rfl rfl (Nat.le_of_ble_eq_true rfl) rfl rfl (Nat.le_of_ble_eq_true rfl) rfl ?_
  show Ev S d 7 0 [some (.inr (some 1))] [] σ _
  refine e_load q_7 rfl rfl rfl ?_
  refine e_getR q_7 rfl rfl rfl ?_
  refine e_push q_7 rfl ?_
  refine e_iald (j := 80) q_7 rfl rfl (by decide) (by decide +kernel) (by decide) ?_
  refine e_ireturn q_7 rfl rfl ?_
  show Ev S (d + 1) 14 7 [some (.inr (some 1)), some (.inl x1), some (.inl x2)] [.inl (σ 2 80), .inl x2] σ _
  refine e_icmp (P := (σ 2 80) ≤ x2) q_14 rfl m_c3 (fun c => ?_) (fun c => ?_)
  · replace h := h.1 c
    refine e_load q_14 rfl rfl rfl ?_
    exact e_ireturn q_14 rfl rfl h
  · replace h := h.2 c
    refine e_load q_14 rfl rfl rfl ?_
    refine e_load q_14 rfl rfl rfl ?_
    refine e_load q_14 rfl rfl rfl ?_
    refine e_virt q_14 rfl rfl (Nat.le_of_ble_eq_true rfl) rfl rfl (Nat.le_of_ble_eq_true rfl) rfl ?_
    show Ev S d 12 0 [some (.inr (some 1)), some (.inl x2)] [] σ _
    refine e_load q_12 rfl rfl rfl ?_
    refine e_getR q_12 rfl rfl rfl ?_
    refine e_push q_12 rfl ?_
    refine e_load q_12 rfl rfl rfl ?_
    refine e_bin (r := 0 + x2) q_12 rfl rfl ?_
    obtain ⟨j2, hjj2, hlj2, h⟩ := h
    refine e_iald q_12 rfl rfl (by decide) hjj2 hlj2 ?_
    refine e_push q_12 rfl ?_
    refine e_icmp (P := ¬ (σ 2 j2) = 2) q_12 rfl m_c1 (fun c => ?_) (fun c => ?_)
    · replace h := h.1 c
      refine e_push q_12 rfl ?_
      refine e_zreturn q_12 rfl rfl (by decide) ?_
      show Ev S (d + 1) 14 12 [some (.inr (some 1)), some (.inl x1), some (.inl x2)] [.inl 0, .inl x1] σ _
      refine e_if (P := (0 : Int32) = 0) q_14 rfl m_c0 (fun _ => ?_) (fun c => absurd (by decide) c)
      refine e_push q_14 rfl ?_
      refine e_bin (r := x1 + 0) q_14 rfl rfl ?_
      refine e_store (ls' := [some (.inr (some 1)), some (.inl (x1 + 0)), some (.inl x2)]) q_14 rfl (Nat.le_of_ble_eq_true rfl) rfl rfl ?_
      refine e_iinc (ls' := [some (.inr (some 1)), some (.inl (x1 + 0)), some (.inl (x2 + 1))]) q_14 rfl rfl rfl ?_
      refine e_goto q_14 rfl ?_
      exact h
    · replace h := h.2 c
      refine e_push q_12 rfl ?_
      refine e_goto q_12 rfl ?_
      refine e_zreturn q_12 rfl rfl (by decide) ?_
      show Ev S (d + 1) 14 12 [some (.inr (some 1)), some (.inl x1), some (.inl x2)] [.inl 1, .inl x1] σ _
      refine e_if (P := (1 : Int32) = 0) q_14 rfl m_c0 (fun c => absurd c (by decide)) (fun _ => ?_)
      refine e_push q_14 rfl ?_
      refine e_goto q_14 rfl ?_
      refine e_bin (r := x1 + 1) q_14 rfl rfl ?_
      refine e_store (ls' := [some (.inr (some 1)), some (.inl (x1 + 1)), some (.inl x2)]) q_14 rfl (Nat.le_of_ble_eq_true rfl) rfl rfl ?_
      refine e_iinc (ls' := [some (.inr (some 1)), some (.inl (x1 + 1)), some (.inl (x2 + 1))]) q_14 rfl rfl rfl ?_
      refine e_goto q_14 rfl ?_
      exact h
theorem g_15_0 {S : Nat × (Nat → Int32)} {d : Nat} {σ : Mem} {Q : MQ1} {x1 : Int32}  (h : Ev S (d + 1) 15 4 [some (.inr (some 1)), some (.inl x1), some (.inl 0), some (.inl 0), none, none] [] σ Q) : Ev S (d + 1) 15 0 [some (.inr (some 1)), some (.inl x1), none, none, none, none] [] σ Q := by
  refine e_push q_15 rfl ?_
  refine e_store (ls' := [some (.inr (some 1)), some (.inl x1), some (.inl 0), none, none, none]) q_15 rfl (Nat.le_of_ble_eq_true rfl) rfl rfl ?_
  refine e_push q_15 rfl ?_
  refine e_store (ls' := [some (.inr (some 1)), some (.inl x1), some (.inl 0), some (.inl 0), none, none]) q_15 rfl (Nat.le_of_ble_eq_true rfl) rfl rfl ?_
  exact h
theorem g_15_4 {S : Nat × (Nat → Int32)} {d : Nat} {σ : Mem} {Q : MQ1} {x1 : Int32} {x2 : Int32} {x3 : Int32} {o4 : Option MV} {o5 : Option MV}  (h : ((8 ≤ x3 → Q [.inl x2] σ) ∧ (¬ (8 ≤ x3) → Ev S (d + 1) 15 13 [some (.inr (some 1)), some (.inl x1), some (.inl x2), some (.inl x3), some (.inl (x1 ||| x2)), some (.inl 0)] [] σ Q))) : Ev S (d + 1) 15 4 [some (.inr (some 1)), some (.inl x1), some (.inl x2), some (.inl x3), o4, o5] [] σ Q := by
  refine e_load q_15 rfl rfl rfl ?_
  refine e_push q_15 rfl ?_
  refine e_icmp (P := 8 ≤ x3) q_15 rfl m_c3 (fun c => ?_) (fun c => ?_)
  · replace h := h.1 c
    refine e_load q_15 rfl rfl rfl ?_
    exact e_ireturn q_15 rfl rfl h
  · replace h := h.2 c
    refine e_load q_15 rfl rfl rfl ?_
    refine e_load q_15 rfl rfl rfl ?_
    refine e_bin (r := x1 ||| x2) q_15 rfl rfl ?_
    refine e_store (ls' := [some (.inr (some 1)), some (.inl x1), some (.inl x2), some (.inl x3), some (.inl (x1 ||| x2)), o5]) q_15 rfl (Nat.le_of_ble_eq_true rfl) rfl rfl ?_
    refine e_push q_15 rfl ?_
    refine e_store (ls' := [some (.inr (some 1)), some (.inl x1), some (.inl x2), some (.inl x3), some (.inl (x1 ||| x2)), some (.inl 0)]) q_15 rfl (Nat.le_of_ble_eq_true rfl) rfl rfl ?_
    exact h
theorem g_15_13 {S : Nat × (Nat → Int32)} {d : Nat} {σ : Mem} {Q : MQ1} {x1 : Int32} {x2 : Int32} {x3 : Int32} {x4 : Int32} {x5 : Int32}  (h : (((σ 2 80) ≤ x5 → Ev S (d + 1) 15 4 [some (.inr (some 1)), some (.inl x1), some (.inl x2), some (.inl (x3 + 1)), some (.inl x4), some (.inl x5)] [] σ Q) ∧ (¬ ((σ 2 80) ≤ x5) → ((((x4 >>> (x5 &&& 31)) &&& 1) = 0 → Ev S (d + 1) 15 13 [some (.inr (some 1)), some (.inl x1), some (.inl x2), some (.inl x3), some (.inl x4), some (.inl (x5 + 1))] [] σ Q) ∧ (¬ (((x4 >>> (x5 &&& 31)) &&& 1) = 0) → (∃ j2 : Nat, (2 * 8) + x5 = nI j2 ∧ j2 < 81 ∧ Ev S (d + 1) 15 13 [some (.inr (some 1)), some (.inl x1), some (.inl (x2 ||| (σ 2 j2))), some (.inl x3), some (.inl x4), some (.inl (x5 + 1))] [] σ Q)))))) : Ev S (d + 1) 15 13 [some (.inr (some 1)), some (.inl x1), some (.inl x2), some (.inl x3), some (.inl x4), some (.inl x5)] [] σ Q := by
  refine e_load q_15 rfl rfl rfl ?_
  refine e_load q_15 rfl rfl rfl ?_
  refine e_virt q_15 rfl rfl (Nat.le_of_ble_eq_true rfl) rfl rfl (Nat.le_of_ble_eq_true rfl) rfl ?_
  show Ev S d 7 0 [some (.inr (some 1))] [] σ _
  refine e_load q_7 rfl rfl rfl ?_
  refine e_getR q_7 rfl rfl rfl ?_
  refine e_push q_7 rfl ?_
  refine e_iald (j := 80) q_7 rfl rfl (by decide) (by decide +kernel) (by decide) ?_
  refine e_ireturn q_7 rfl rfl ?_
  show Ev S (d + 1) 15 16 [some (.inr (some 1)), some (.inl x1), some (.inl x2), some (.inl x3), some (.inl x4), some (.inl x5)] [.inl (σ 2 80), .inl x5] σ _
  refine e_icmp (P := (σ 2 80) ≤ x5) q_15 rfl m_c3 (fun c => ?_) (fun c => ?_)
  · replace h := h.1 c
    refine e_iinc (ls' := [some (.inr (some 1)), some (.inl x1), some (.inl x2), some (.inl (x3 + 1)), some (.inl x4), some (.inl x5)]) q_15 rfl rfl rfl ?_
    refine e_goto q_15 rfl ?_
    exact h
  · replace h := h.2 c
    refine e_load q_15 rfl rfl rfl ?_
    refine e_load q_15 rfl rfl rfl ?_
    refine e_stat q_15 rfl (Nat.le_of_ble_eq_true rfl) rfl rfl (Nat.le_of_ble_eq_true rfl) ?_
    show Ev S d 110 0 [some (.inl x4), some (.inl x5)] [] σ _
    refine e_load q_110 rfl rfl rfl ?_
    refine e_load q_110 rfl rfl rfl ?_
    refine e_bin (r := x4 >>> (x5 &&& 31)) q_110 rfl rfl ?_
    refine e_push q_110 rfl ?_
    refine e_bin (r := (x4 >>> (x5 &&& 31)) &&& 1) q_110 rfl rfl ?_
    refine e_if (P := ((x4 >>> (x5 &&& 31)) &&& 1) = 0) q_110 rfl m_c0 (fun c => ?_) (fun c => ?_)
    · replace h := h.1 c
      refine e_push q_110 rfl ?_
      refine e_zreturn q_110 rfl rfl (by decide) ?_
      show Ev S (d + 1) 15 20 [some (.inr (some 1)), some (.inl x1), some (.inl x2), some (.inl x3), some (.inl x4), some (.inl x5)] [.inl 0] σ _
      refine e_if (P := (0 : Int32) = 0) q_15 rfl m_c0 (fun _ => ?_) (fun c => absurd (by decide) c)
      refine e_iinc (ls' := [some (.inr (some 1)), some (.inl x1), some (.inl x2), some (.inl x3), some (.inl x4), some (.inl (x5 + 1))]) q_15 rfl rfl rfl ?_
      refine e_goto q_15 rfl ?_
      exact h
    · replace h := h.2 c
      refine e_push q_110 rfl ?_
      refine e_goto q_110 rfl ?_
      refine e_zreturn q_110 rfl rfl (by decide) ?_
      show Ev S (d + 1) 15 20 [some (.inr (some 1)), some (.inl x1), some (.inl x2), some (.inl x3), some (.inl x4), some (.inl x5)] [.inl 1] σ _
      refine e_if (P := (1 : Int32) = 0) q_15 rfl m_c0 (fun c => absurd c (by decide)) (fun _ => ?_)
      refine e_load q_15 rfl rfl rfl ?_
      refine e_load q_15 rfl rfl rfl ?_
      refine e_push q_15 rfl ?_
      refine e_load q_15 rfl rfl rfl ?_
      refine e_virt q_15 rfl rfl (Nat.le_of_ble_eq_true rfl) rfl rfl (Nat.le_of_ble_eq_true rfl) rfl ?_
      show Ev S d 8 0 [some (.inr (some 1)), some (.inl 2), some (.inl x5)] [] σ _
      refine e_load q_8 rfl rfl rfl ?_
      refine e_getR q_8 rfl rfl rfl ?_
      refine e_load q_8 rfl rfl rfl ?_
      refine e_push q_8 rfl ?_
      refine e_bin (r := 2 * 8) q_8 rfl rfl ?_
      refine e_load q_8 rfl rfl rfl ?_
      refine e_bin (r := (2 * 8) + x5) q_8 rfl rfl ?_
      obtain ⟨j2, hjj2, hlj2, h⟩ := h
      refine e_iald q_8 rfl rfl (by decide) hjj2 hlj2 ?_
      refine e_ireturn q_8 rfl rfl ?_
      show Ev S (d + 1) 15 26 [some (.inr (some 1)), some (.inl x1), some (.inl x2), some (.inl x3), some (.inl x4), some (.inl x5)] [.inl (σ 2 j2), .inl x2] σ _
      refine e_bin (r := x2 ||| (σ 2 j2)) q_15 rfl rfl ?_
      refine e_store (ls' := [some (.inr (some 1)), some (.inl x1), some (.inl (x2 ||| (σ 2 j2))), some (.inl x3), some (.inl x4), some (.inl x5)]) q_15 rfl (Nat.le_of_ble_eq_true rfl) rfl rfl ?_
      refine e_iinc (ls' := [some (.inr (some 1)), some (.inl x1), some (.inl (x2 ||| (σ 2 j2))), some (.inl x3), some (.inl x4), some (.inl (x5 + 1))]) q_15 rfl rfl rfl ?_
      refine e_goto q_15 rfl ?_
      exact h
theorem g_20_5 {S : Nat × (Nat → Int32)} {d : Nat} {σ : Mem} {Q : MQ1} {o0 : Option MV} {y0 : Int32}  (h : Q [.inl y0] σ) : Ev S (d + 1) 20 5 [o0] [.inl y0] σ Q := by
  exact e_ireturn q_20 rfl rfl h
theorem g_21_0 {S : Nat × (Nat → Int32)} {d : Nat} {σ : Mem} {Q : MQ1} {x1 : Int32}  (h : Ev S (d + 2) 21 4 [some (.inr (some 1)), some (.inl x1), some (.inl 0), some (.inl 0)] [] σ Q) : Ev S (d + 2) 21 0 [some (.inr (some 1)), some (.inl x1), none, none] [] σ Q := by
  refine e_push q_21 rfl ?_
  refine e_store (ls' := [some (.inr (some 1)), some (.inl x1), some (.inl 0), none]) q_21 rfl (Nat.le_of_ble_eq_true rfl) rfl rfl ?_
  refine e_push q_21 rfl ?_
  refine e_store (ls' := [some (.inr (some 1)), some (.inl x1), some (.inl 0), some (.inl 0)]) q_21 rfl (Nat.le_of_ble_eq_true rfl) rfl rfl ?_
  exact h
theorem g_21_4 {S : Nat × (Nat → Int32)} {d : Nat} {σ : Mem} {Q : MQ1} {x1 : Int32} {x2 : Int32} {x3 : Int32}  (h : ((x1 < x3 → Q [.inl x2] σ) ∧ (¬ (x1 < x3) → (((((σ 2 78) >>> (x3 &&& 31)) &&& 1) = 0 → Ev S (d + 2) 21 4 [some (.inr (some 1)), some (.inl x1), some (.inl (x2 + 1)), some (.inl (x3 + 1))] [] σ Q) ∧ (¬ ((((σ 2 78) >>> (x3 &&& 31)) &&& 1) = 0) → Ev S (d + 2) 21 4 [some (.inr (some 1)), some (.inl x1), some (.inl (x2 + 0)), some (.inl (x3 + 1))] [] σ Q))))) : Ev S (d + 2) 21 4 [some (.inr (some 1)), some (.inl x1), some (.inl x2), some (.inl x3)] [] σ Q := by
  refine e_load q_21 rfl rfl rfl ?_
  refine e_load q_21 rfl rfl rfl ?_
  refine e_icmp (P := x1 < x3) q_21 rfl m_c4 (fun c => ?_) (fun c => ?_)
  · replace h := h.1 c
    refine e_load q_21 rfl rfl rfl ?_
    exact e_ireturn q_21 rfl rfl h
  · replace h := h.2 c
    refine e_load q_21 rfl rfl rfl ?_
    refine e_load q_21 rfl rfl rfl ?_
    refine e_load q_21 rfl rfl rfl ?_
    refine e_virt q_21 rfl rfl (Nat.le_of_ble_eq_true rfl) rfl rfl (Nat.le_of_ble_eq_true rfl) rfl ?_
    show Ev S (d + 1) 18 0 [some (.inr (some 1)), some (.inl x3)] [] σ _
    refine e_load q_18 rfl rfl rfl ?_
    refine e_getR q_18 rfl rfl rfl ?_
    refine e_push q_18 rfl ?_
    refine e_iald (j := 78) q_18 rfl rfl (by decide) (by decide +kernel) (by decide) ?_
    refine e_load q_18 rfl rfl rfl ?_
    refine e_stat q_18 rfl (Nat.le_of_ble_eq_true rfl) rfl rfl (Nat.le_of_ble_eq_true rfl) ?_
    show Ev S d 110 0 [some (.inl (σ 2 78)), some (.inl x3)] [] σ _
    refine e_load q_110 rfl rfl rfl ?_
    refine e_load q_110 rfl rfl rfl ?_
    refine e_bin (r := (σ 2 78) >>> (x3 &&& 31)) q_110 rfl rfl ?_
    refine e_push q_110 rfl ?_
    refine e_bin (r := ((σ 2 78) >>> (x3 &&& 31)) &&& 1) q_110 rfl rfl ?_
    refine e_if (P := (((σ 2 78) >>> (x3 &&& 31)) &&& 1) = 0) q_110 rfl m_c0 (fun c => ?_) (fun c => ?_)
    · replace h := h.1 c
      refine e_push q_110 rfl ?_
      refine e_zreturn q_110 rfl rfl (by decide) ?_
      show Ev S (d + 1) 18 6 [some (.inr (some 1)), some (.inl x3)] [.inl 0] σ _
      refine e_zreturn q_18 rfl rfl (by decide) ?_
      show Ev S (d + 2) 21 11 [some (.inr (some 1)), some (.inl x1), some (.inl x2), some (.inl x3)] [.inl 0, .inl x2] σ _
      refine e_if (P := (0 : Int32) = 0) q_21 rfl m_c0 (fun _ => ?_) (fun c => absurd (by decide) c)
      refine e_push q_21 rfl ?_
      refine e_bin (r := x2 + 1) q_21 rfl rfl ?_
      refine e_store (ls' := [some (.inr (some 1)), some (.inl x1), some (.inl (x2 + 1)), some (.inl x3)]) q_21 rfl (Nat.le_of_ble_eq_true rfl) rfl rfl ?_
      refine e_iinc (ls' := [some (.inr (some 1)), some (.inl x1), some (.inl (x2 + 1)), some (.inl (x3 + 1))]) q_21 rfl rfl rfl ?_
      refine e_goto q_21 rfl ?_
      exact h
    · replace h := h.2 c
      refine e_push q_110 rfl ?_
      refine e_goto q_110 rfl ?_
      refine e_zreturn q_110 rfl rfl (by decide) ?_
      show Ev S (d + 1) 18 6 [some (.inr (some 1)), some (.inl x3)] [.inl 1] σ _
      refine e_zreturn q_18 rfl rfl (by decide) ?_
      show Ev S (d + 2) 21 11 [some (.inr (some 1)), some (.inl x1), some (.inl x2), some (.inl x3)] [.inl 1, .inl x2] σ _
      refine e_if (P := (1 : Int32) = 0) q_21 rfl m_c0 (fun c => absurd c (by decide)) (fun _ => ?_)
      refine e_push q_21 rfl ?_
      refine e_goto q_21 rfl ?_
      refine e_bin (r := x2 + 0) q_21 rfl rfl ?_
      refine e_store (ls' := [some (.inr (some 1)), some (.inl x1), some (.inl (x2 + 0)), some (.inl x3)]) q_21 rfl (Nat.le_of_ble_eq_true rfl) rfl rfl ?_
      refine e_iinc (ls' := [some (.inr (some 1)), some (.inl x1), some (.inl (x2 + 0)), some (.inl (x3 + 1))]) q_21 rfl rfl rfl ?_
      refine e_goto q_21 rfl ?_
      exact h
theorem g_26_0 {S : Nat × (Nat → Int32)} {d : Nat} {σ : Mem} {Q : MQ1}   (h : (∃ j1 : Nat, σ 24 1 = nI j1 ∧ j1 < 25 ∧ (∃ j3 j4 j5 : Nat, 0 = nI j3 ∧ 0 = nI j4 ∧ 81 = nI j5 ∧ j3 + j5 ≤ 81 ∧ j4 + j5 ≤ 81 ∧ ((25 ≤ (((upr σ (26 + j1) (fun k => if j4 ≤ k ∧ k < j4 + j5 then σ 2 (j3 + (k - j4)) else σ (26 + j1) k)) 24 1) + 1) → Q [] (up (up (upr σ (26 + j1) (fun k => if j4 ≤ k ∧ k < j4 + j5 then σ 2 (j3 + (k - j4)) else σ (26 + j1) k)) 24 1 0) 24 2 (if 25 < ((up (upr σ (26 + j1) (fun k => if j4 ≤ k ∧ k < j4 + j5 then σ 2 (j3 + (k - j4)) else σ (26 + j1) k)) 24 1 0) 24 2) + 1 then 25 else ((up (upr σ (26 + j1) (fun k => if j4 ≤ k ∧ k < j4 + j5 then σ 2 (j3 + (k - j4)) else σ (26 + j1) k)) 24 1 0) 24 2) + 1))) ∧ (¬ (25 ≤ (((upr σ (26 + j1) (fun k => if j4 ≤ k ∧ k < j4 + j5 then σ 2 (j3 + (k - j4)) else σ (26 + j1) k)) 24 1) + 1)) → Q [] (up (up (upr σ (26 + j1) (fun k => if j4 ≤ k ∧ k < j4 + j5 then σ 2 (j3 + (k - j4)) else σ (26 + j1) k)) 24 1 (((upr σ (26 + j1) (fun k => if j4 ≤ k ∧ k < j4 + j5 then σ 2 (j3 + (k - j4)) else σ (26 + j1) k)) 24 1) + 1)) 24 2 (if 25 < ((up (upr σ (26 + j1) (fun k => if j4 ≤ k ∧ k < j4 + j5 then σ 2 (j3 + (k - j4)) else σ (26 + j1) k)) 24 1 (((upr σ (26 + j1) (fun k => if j4 ≤ k ∧ k < j4 + j5 then σ 2 (j3 + (k - j4)) else σ (26 + j1) k)) 24 1) + 1)) 24 2) + 1 then 25 else ((up (upr σ (26 + j1) (fun k => if j4 ≤ k ∧ k < j4 + j5 then σ 2 (j3 + (k - j4)) else σ (26 + j1) k)) 24 1 (((upr σ (26 + j1) (fun k => if j4 ≤ k ∧ k < j4 + j5 then σ 2 (j3 + (k - j4)) else σ (26 + j1) k)) 24 1) + 1)) 24 2) + 1))))))) : Ev S (d + 2) 26 0 [some (.inr (some 24)), some (.inr (some 1))] [] σ Q := by
  refine e_load q_26 rfl rfl rfl ?_
  refine e_load q_26 rfl rfl rfl ?_
  refine e_getR q_26 rfl rfl rfl ?_
  refine e_load q_26 rfl rfl rfl ?_
  refine e_getI q_26 rfl rfl rfl ?_
  obtain ⟨j1, hjj1, hlj1, h⟩ := h
  have hr2 := sh_row hlj1
  refine e_aald (q := 26 + j1) q_26 rfl rfl (by decide) hjj1 (sh_rows hlj1) (by omega) ?_
  refine e_virt q_26 rfl rfl (Nat.le_of_ble_eq_true rfl) rfl rfl (Nat.le_of_ble_eq_true rfl) rfl ?_
  show Ev S (d + 1) 5 0 [some (.inr (some 1)), some (.inr (some (26 + j1)))] [] σ _
  refine e_load q_5 rfl rfl rfl ?_
  refine e_getR q_5 rfl rfl rfl ?_
  refine e_push q_5 rfl ?_
  refine e_load q_5 rfl rfl rfl ?_
  refine e_push q_5 rfl ?_
  refine e_push q_5 rfl ?_
  obtain ⟨j3, j4, j5, hjj3, hjj4, hjj5, hlj3, hlj4, h⟩ := h
  refine e_copy q_5 rfl rfl hr2 (by decide) (by decide) hjj3 hjj4 hjj5 hlj3 hlj4 (Nat.le_of_ble_eq_true rfl) ?_
  refine e_return q_5 rfl rfl ?_
  show Ev S (d + 2) 26 7 [some (.inr (some 24)), some (.inr (some 1))] [] (upr σ (26 + j1) (fun k => if j4 ≤ k ∧ k < j4 + j5 then σ 2 (j3 + (k - j4)) else σ (26 + j1) k)) _
  refine e_load q_26 rfl rfl rfl ?_
  refine e_load q_26 rfl rfl rfl ?_
  refine e_getI q_26 rfl rfl rfl ?_
  refine e_push q_26 rfl ?_
  refine e_bin (r := ((upr σ (26 + j1) (fun k => if j4 ≤ k ∧ k < j4 + j5 then σ 2 (j3 + (k - j4)) else σ (26 + j1) k)) 24 1) + 1) q_26 rfl rfl ?_
  refine e_push q_26 rfl ?_
  refine e_icmp (P := 25 ≤ (((upr σ (26 + j1) (fun k => if j4 ≤ k ∧ k < j4 + j5 then σ 2 (j3 + (k - j4)) else σ (26 + j1) k)) 24 1) + 1)) q_26 rfl m_c3 (fun c => ?_) (fun c => ?_)
  · replace h := h.1 c
    refine e_push q_26 rfl ?_
    refine e_putI q_26 rfl rfl rfl ?_
    refine e_load q_26 rfl rfl rfl ?_
    refine e_load q_26 rfl rfl rfl ?_
    refine e_getI q_26 rfl rfl rfl ?_
    refine e_push q_26 rfl ?_
    refine e_bin (r := ((up (upr σ (26 + j1) (fun k => if j4 ≤ k ∧ k < j4 + j5 then σ 2 (j3 + (k - j4)) else σ (26 + j1) k)) 24 1 0) 24 2) + 1) q_26 rfl rfl ?_
    refine e_push q_26 rfl ?_
    refine e_min (r := (if 25 < ((up (upr σ (26 + j1) (fun k => if j4 ≤ k ∧ k < j4 + j5 then σ 2 (j3 + (k - j4)) else σ (26 + j1) k)) 24 1 0) 24 2) + 1 then 25 else ((up (upr σ (26 + j1) (fun k => if j4 ≤ k ∧ k < j4 + j5 then σ 2 (j3 + (k - j4)) else σ (26 + j1) k)) 24 1 0) 24 2) + 1)) q_26 rfl (Nat.le_of_ble_eq_true rfl) rfl ?_
    refine e_putI q_26 rfl rfl rfl ?_
    exact e_return q_26 rfl rfl h
  · replace h := h.2 c
    refine e_load q_26 rfl rfl rfl ?_
    refine e_getI q_26 rfl rfl rfl ?_
    refine e_push q_26 rfl ?_
    refine e_bin (r := ((upr σ (26 + j1) (fun k => if j4 ≤ k ∧ k < j4 + j5 then σ 2 (j3 + (k - j4)) else σ (26 + j1) k)) 24 1) + 1) q_26 rfl rfl ?_
    refine e_goto q_26 rfl ?_
    refine e_putI q_26 rfl rfl rfl ?_
    refine e_load q_26 rfl rfl rfl ?_
    refine e_load q_26 rfl rfl rfl ?_
    refine e_getI q_26 rfl rfl rfl ?_
    refine e_push q_26 rfl ?_
    refine e_bin (r := ((up (upr σ (26 + j1) (fun k => if j4 ≤ k ∧ k < j4 + j5 then σ 2 (j3 + (k - j4)) else σ (26 + j1) k)) 24 1 (((upr σ (26 + j1) (fun k => if j4 ≤ k ∧ k < j4 + j5 then σ 2 (j3 + (k - j4)) else σ (26 + j1) k)) 24 1) + 1)) 24 2) + 1) q_26 rfl rfl ?_
    refine e_push q_26 rfl ?_
    refine e_min (r := (if 25 < ((up (upr σ (26 + j1) (fun k => if j4 ≤ k ∧ k < j4 + j5 then σ 2 (j3 + (k - j4)) else σ (26 + j1) k)) 24 1 (((upr σ (26 + j1) (fun k => if j4 ≤ k ∧ k < j4 + j5 then σ 2 (j3 + (k - j4)) else σ (26 + j1) k)) 24 1) + 1)) 24 2) + 1 then 25 else ((up (upr σ (26 + j1) (fun k => if j4 ≤ k ∧ k < j4 + j5 then σ 2 (j3 + (k - j4)) else σ (26 + j1) k)) 24 1 (((upr σ (26 + j1) (fun k => if j4 ≤ k ∧ k < j4 + j5 then σ 2 (j3 + (k - j4)) else σ (26 + j1) k)) 24 1) + 1)) 24 2) + 1)) q_26 rfl (Nat.le_of_ble_eq_true rfl) rfl ?_
    refine e_putI q_26 rfl rfl rfl ?_
    exact e_return q_26 rfl rfl h
theorem g_27_0 {S : Nat × (Nat → Int32)} {d : Nat} {σ : Mem} {Q : MQ1}   (h : (((σ 24 1) ≤ 0 → (∃ j1 : Nat, (up (up σ 24 1 24) 24 2 (((up σ 24 1 24) 24 2) - 1)) 24 1 = nI j1 ∧ j1 < 25 ∧ (∃ j3 j4 j5 : Nat, 0 = nI j3 ∧ 0 = nI j4 ∧ 81 = nI j5 ∧ j3 + j5 ≤ 81 ∧ j4 + j5 ≤ 81 ∧ Q [.inl ((upr (up (up σ 24 1 24) 24 2 (((up σ 24 1 24) 24 2) - 1)) 2 (fun k => if j4 ≤ k ∧ k < j4 + j5 then (up (up σ 24 1 24) 24 2 (((up σ 24 1 24) 24 2) - 1)) (26 + j1) (j3 + (k - j4)) else (up (up σ 24 1 24) 24 2 (((up σ 24 1 24) 24 2) - 1)) 2 k)) 24 2)] (upr (up (up σ 24 1 24) 24 2 (((up σ 24 1 24) 24 2) - 1)) 2 (fun k => if j4 ≤ k ∧ k < j4 + j5 then (up (up σ 24 1 24) 24 2 (((up σ 24 1 24) 24 2) - 1)) (26 + j1) (j3 + (k - j4)) else (up (up σ 24 1 24) 24 2 (((up σ 24 1 24) 24 2) - 1)) 2 k))))) ∧ (¬ ((σ 24 1) ≤ 0) → (∃ j6 : Nat, (up (up σ 24 1 ((σ 24 1) - 1)) 24 2 (((up σ 24 1 ((σ 24 1) - 1)) 24 2) - 1)) 24 1 = nI j6 ∧ j6 < 25 ∧ (∃ j8 j9 j10 : Nat, 0 = nI j8 ∧ 0 = nI j9 ∧ 81 = nI j10 ∧ j8 + j10 ≤ 81 ∧ j9 + j10 ≤ 81 ∧ Q [.inl ((upr (up (up σ 24 1 ((σ 24 1) - 1)) 24 2 (((up σ 24 1 ((σ 24 1) - 1)) 24 2) - 1)) 2 (fun k => if j9 ≤ k ∧ k < j9 + j10 then (up (up σ 24 1 ((σ 24 1) - 1)) 24 2 (((up σ 24 1 ((σ 24 1) - 1)) 24 2) - 1)) (26 + j6) (j8 + (k - j9)) else (up (up σ 24 1 ((σ 24 1) - 1)) 24 2 (((up σ 24 1 ((σ 24 1) - 1)) 24 2) - 1)) 2 k)) 24 2)] (upr (up (up σ 24 1 ((σ 24 1) - 1)) 24 2 (((up σ 24 1 ((σ 24 1) - 1)) 24 2) - 1)) 2 (fun k => if j9 ≤ k ∧ k < j9 + j10 then (up (up σ 24 1 ((σ 24 1) - 1)) 24 2 (((up σ 24 1 ((σ 24 1) - 1)) 24 2) - 1)) (26 + j6) (j8 + (k - j9)) else (up (up σ 24 1 ((σ 24 1) - 1)) 24 2 (((up σ 24 1 ((σ 24 1) - 1)) 24 2) - 1)) 2 k))))))) : Ev S (d + 2) 27 0 [some (.inr (some 24)), some (.inr (some 1))] [] σ Q := by
  refine e_load q_27 rfl rfl rfl ?_
  refine e_load q_27 rfl rfl rfl ?_
  refine e_getI q_27 rfl rfl rfl ?_
  refine e_if (P := (σ 24 1) ≤ 0) q_27 rfl m_c5 (fun c => ?_) (fun c => ?_)
  · replace h := h.1 c
    refine e_push q_27 rfl ?_
    refine e_putI q_27 rfl rfl rfl ?_
    refine e_load q_27 rfl rfl rfl ?_
    refine e_dup q_27 rfl ?_
    refine e_getI q_27 rfl rfl rfl ?_
    refine e_push q_27 rfl ?_
    refine e_bin (r := ((up σ 24 1 24) 24 2) - 1) q_27 rfl rfl ?_
    refine e_putI q_27 rfl rfl rfl ?_
    refine e_load q_27 rfl rfl rfl ?_
    refine e_load q_27 rfl rfl rfl ?_
    refine e_getR q_27 rfl rfl rfl ?_
    refine e_load q_27 rfl rfl rfl ?_
    refine e_getI q_27 rfl rfl rfl ?_
    obtain ⟨j1, hjj1, hlj1, h⟩ := h
    have hr2 := sh_row hlj1
    refine e_aald (q := 26 + j1) q_27 rfl rfl (by decide) hjj1 (sh_rows hlj1) (by omega) ?_
    refine e_virt q_27 rfl rfl (Nat.le_of_ble_eq_true rfl) rfl rfl (Nat.le_of_ble_eq_true rfl) rfl ?_
    show Ev S (d + 1) 6 0 [some (.inr (some 1)), some (.inr (some (26 + j1)))] [] (up (up σ 24 1 24) 24 2 (((up σ 24 1 24) 24 2) - 1)) _
    refine e_load q_6 rfl rfl rfl ?_
    refine e_push q_6 rfl ?_
    refine e_load q_6 rfl rfl rfl ?_
    refine e_getR q_6 rfl rfl rfl ?_
    refine e_push q_6 rfl ?_
    refine e_push q_6 rfl ?_
    obtain ⟨j3, j4, j5, hjj3, hjj4, hjj5, hlj3, hlj4, h⟩ := h
    refine e_copy q_6 rfl hr2 rfl (by decide) (by decide) hjj3 hjj4 hjj5 hlj3 hlj4 (Nat.le_of_ble_eq_true rfl) ?_
    refine e_return q_6 rfl rfl ?_
    show Ev S (d + 2) 27 24 [some (.inr (some 24)), some (.inr (some 1))] [] (upr (up (up σ 24 1 24) 24 2 (((up σ 24 1 24) 24 2) - 1)) 2 (fun k => if j4 ≤ k ∧ k < j4 + j5 then (up (up σ 24 1 24) 24 2 (((up σ 24 1 24) 24 2) - 1)) (26 + j1) (j3 + (k - j4)) else (up (up σ 24 1 24) 24 2 (((up σ 24 1 24) 24 2) - 1)) 2 k)) _
    refine e_load q_27 rfl rfl rfl ?_
    refine e_getI q_27 rfl rfl rfl ?_
    exact e_ireturn q_27 rfl rfl h
  · replace h := h.2 c
    refine e_load q_27 rfl rfl rfl ?_
    refine e_getI q_27 rfl rfl rfl ?_
    refine e_push q_27 rfl ?_
    refine e_bin (r := (σ 24 1) - 1) q_27 rfl rfl ?_
    refine e_goto q_27 rfl ?_
    refine e_putI q_27 rfl rfl rfl ?_
    refine e_load q_27 rfl rfl rfl ?_
    refine e_dup q_27 rfl ?_
    refine e_getI q_27 rfl rfl rfl ?_
    refine e_push q_27 rfl ?_
    refine e_bin (r := ((up σ 24 1 ((σ 24 1) - 1)) 24 2) - 1) q_27 rfl rfl ?_
    refine e_putI q_27 rfl rfl rfl ?_
    refine e_load q_27 rfl rfl rfl ?_
    refine e_load q_27 rfl rfl rfl ?_
    refine e_getR q_27 rfl rfl rfl ?_
    refine e_load q_27 rfl rfl rfl ?_
    refine e_getI q_27 rfl rfl rfl ?_
    obtain ⟨j6, hjj6, hlj6, h⟩ := h
    have hr7 := sh_row hlj6
    refine e_aald (q := 26 + j6) q_27 rfl rfl (by decide) hjj6 (sh_rows hlj6) (by omega) ?_
    refine e_virt q_27 rfl rfl (Nat.le_of_ble_eq_true rfl) rfl rfl (Nat.le_of_ble_eq_true rfl) rfl ?_
    show Ev S (d + 1) 6 0 [some (.inr (some 1)), some (.inr (some (26 + j6)))] [] (up (up σ 24 1 ((σ 24 1) - 1)) 24 2 (((up σ 24 1 ((σ 24 1) - 1)) 24 2) - 1)) _
    refine e_load q_6 rfl rfl rfl ?_
    refine e_push q_6 rfl ?_
    refine e_load q_6 rfl rfl rfl ?_
    refine e_getR q_6 rfl rfl rfl ?_
    refine e_push q_6 rfl ?_
    refine e_push q_6 rfl ?_
    obtain ⟨j8, j9, j10, hjj8, hjj9, hjj10, hlj8, hlj9, h⟩ := h
    refine e_copy q_6 rfl hr7 rfl (by decide) (by decide) hjj8 hjj9 hjj10 hlj8 hlj9 (Nat.le_of_ble_eq_true rfl) ?_
    refine e_return q_6 rfl rfl ?_
    show Ev S (d + 2) 27 24 [some (.inr (some 24)), some (.inr (some 1))] [] (upr (up (up σ 24 1 ((σ 24 1) - 1)) 24 2 (((up σ 24 1 ((σ 24 1) - 1)) 24 2) - 1)) 2 (fun k => if j9 ≤ k ∧ k < j9 + j10 then (up (up σ 24 1 ((σ 24 1) - 1)) 24 2 (((up σ 24 1 ((σ 24 1) - 1)) 24 2) - 1)) (26 + j6) (j8 + (k - j9)) else (up (up σ 24 1 ((σ 24 1) - 1)) 24 2 (((up σ 24 1 ((σ 24 1) - 1)) 24 2) - 1)) 2 k)) _
    refine e_load q_27 rfl rfl rfl ?_
    refine e_getI q_27 rfl rfl rfl ?_
    exact e_ireturn q_27 rfl rfl h
theorem g_29_0 {S : Nat × (Nat → Int32)} {d : Nat} {σ : Mem} {Q : MQ1}   (h : Ev S (d + 4) 29 2 [some (.inr (some 3)), some (.inl 1), none] [] σ Q) : Ev S (d + 4) 29 0 [some (.inr (some 3)), none, none] [] σ Q := by
  refine e_push q_29 rfl ?_
  refine e_store (ls' := [some (.inr (some 3)), some (.inl 1), none]) q_29 rfl (Nat.le_of_ble_eq_true rfl) rfl rfl ?_
  exact h
theorem g_29_2 {S : Nat × (Nat → Int32)} {d : Nat} {σ : Mem} {Q : MQ1} {x1 : Int32} {o2 : Option MV}  (h : ((5 < x1 → Ev S (d + 4) 29 34 [some (.inr (some 3)), some (.inl 0), o2] [] σ Q) ∧ (¬ (5 < x1) → Ev S (d + 4) 29 7 [some (.inr (some 3)), some (.inl x1), some (.inl 0)] [] σ Q))) : Ev S (d + 4) 29 2 [some (.inr (some 3)), some (.inl x1), o2] [] σ Q := by
  refine e_load q_29 rfl rfl rfl ?_
  refine e_push q_29 rfl ?_
  refine e_icmp (P := 5 < x1) q_29 rfl m_c4 (fun c => ?_) (fun c => ?_)
  · replace h := h.1 c
    refine e_push q_29 rfl ?_
    refine e_store (ls' := [some (.inr (some 3)), some (.inl 0), o2]) q_29 rfl (Nat.le_of_ble_eq_true rfl) rfl rfl ?_
    exact h
  · replace h := h.2 c
    refine e_push q_29 rfl ?_
    refine e_store (ls' := [some (.inr (some 3)), some (.inl x1), some (.inl 0)]) q_29 rfl (Nat.le_of_ble_eq_true rfl) rfl rfl ?_
    exact h
theorem g_29_34 {S : Nat × (Nat → Int32)} {d : Nat} {σ : Mem} {Q : MQ1} {x1 : Int32} {o2 : Option MV}  (h : ((6 ≤ x1 → Ev S (d + 4) 29 54 [some (.inr (some 3)), some (.inl 0), o2] [] σ Q) ∧ (¬ (6 ≤ x1) → (((((σ 2 78) >>> (x1 &&& 31)) &&& 1) = 0 → Ev S (d + 4) 29 34 [some (.inr (some 3)), some (.inl (x1 + 1)), o2] [] σ Q) ∧ (¬ ((((σ 2 78) >>> (x1 &&& 31)) &&& 1) = 0) → Ec S (d + 3) 30 [.inr (some 3), .inl x1] σ (fun rv σ' => Ev S (d + 4) 29 45 [some (.inr (some 3)), some (.inl x1), o2] (rv ++ []) σ' Q)))))) : Ev S (d + 4) 29 34 [some (.inr (some 3)), some (.inl x1), o2] [] σ Q := by
  refine e_load q_29 rfl rfl rfl ?_
  refine e_push q_29 rfl ?_
  refine e_icmp (P := 6 ≤ x1) q_29 rfl m_c3 (fun c => ?_) (fun c => ?_)
  · replace h := h.1 c
    refine e_push q_29 rfl ?_
    refine e_store (ls' := [some (.inr (some 3)), some (.inl 0), o2]) q_29 rfl (Nat.le_of_ble_eq_true rfl) rfl rfl ?_
    exact h
  · replace h := h.2 c
    refine e_load q_29 rfl rfl rfl ?_
    refine e_getR q_29 rfl rfl rfl ?_
    refine e_load q_29 rfl rfl rfl ?_
    refine e_virt q_29 rfl rfl (Nat.le_of_ble_eq_true rfl) rfl rfl (Nat.le_of_ble_eq_true rfl) rfl ?_
    show Ev S (d + 3) 18 0 [some (.inr (some 1)), some (.inl x1)] [] σ _
    refine e_load q_18 rfl rfl rfl ?_
    refine e_getR q_18 rfl rfl rfl ?_
    refine e_push q_18 rfl ?_
    refine e_iald (j := 78) q_18 rfl rfl (by decide) (by decide +kernel) (by decide) ?_
    refine e_load q_18 rfl rfl rfl ?_
    refine e_stat q_18 rfl (Nat.le_of_ble_eq_true rfl) rfl rfl (Nat.le_of_ble_eq_true rfl) ?_
    show Ev S (d + 2) 110 0 [some (.inl (σ 2 78)), some (.inl x1)] [] σ _
    refine e_load q_110 rfl rfl rfl ?_
    refine e_load q_110 rfl rfl rfl ?_
    refine e_bin (r := (σ 2 78) >>> (x1 &&& 31)) q_110 rfl rfl ?_
    refine e_push q_110 rfl ?_
    refine e_bin (r := ((σ 2 78) >>> (x1 &&& 31)) &&& 1) q_110 rfl rfl ?_
    refine e_if (P := (((σ 2 78) >>> (x1 &&& 31)) &&& 1) = 0) q_110 rfl m_c0 (fun c => ?_) (fun c => ?_)
    · replace h := h.1 c
      refine e_push q_110 rfl ?_
      refine e_zreturn q_110 rfl rfl (by decide) ?_
      show Ev S (d + 3) 18 6 [some (.inr (some 1)), some (.inl x1)] [.inl 0] σ _
      refine e_zreturn q_18 rfl rfl (by decide) ?_
      show Ev S (d + 4) 29 41 [some (.inr (some 3)), some (.inl x1), o2] [.inl 0] σ _
      refine e_if (P := (0 : Int32) = 0) q_29 rfl m_c0 (fun _ => ?_) (fun c => absurd (by decide) c)
      refine e_iinc (ls' := [some (.inr (some 3)), some (.inl (x1 + 1)), o2]) q_29 rfl rfl rfl ?_
      refine e_goto q_29 rfl ?_
      exact h
    · replace h := h.2 c
      refine e_push q_110 rfl ?_
      refine e_goto q_110 rfl ?_
      refine e_zreturn q_110 rfl rfl (by decide) ?_
      show Ev S (d + 3) 18 6 [some (.inr (some 1)), some (.inl x1)] [.inl 1] σ _
      refine e_zreturn q_18 rfl rfl (by decide) ?_
      show Ev S (d + 4) 29 41 [some (.inr (some 3)), some (.inl x1), o2] [.inl 1] σ _
      refine e_if (P := (1 : Int32) = 0) q_29 rfl m_c0 (fun c => absurd c (by decide)) (fun _ => ?_)
      refine e_load q_29 rfl rfl rfl ?_
      refine e_load q_29 rfl rfl rfl ?_
      exact e_virt q_29 rfl rfl (Nat.le_of_ble_eq_true rfl) rfl rfl (Nat.le_of_ble_eq_true rfl) rfl h
theorem g_29_7 {S : Nat × (Nat → Int32)} {d : Nat} {σ : Mem} {Q : MQ1} {x1 : Int32} {x2 : Int32}  (h : (((σ 2 80) ≤ x2 → Ev S (d + 4) 29 2 [some (.inr (some 3)), some (.inl (x1 + 1)), some (.inl x2)] [] σ Q) ∧ (¬ ((σ 2 80) ≤ x2) → (∃ j2 : Nat, 0 + x2 = nI j2 ∧ j2 < 81 ∧ (((¬ (σ 2 j2) = 2) → Ec S (d + 3) 35 [.inr (some 3), .inl x1, .inl x2] σ (fun rv σ' => Ev S (d + 4) 29 21 [some (.inr (some 3)), some (.inl x1), some (.inl x2)] (rv ++ []) σ' Q)) ∧ (¬ (¬ (σ 2 j2) = 2) → Ev S (d + 4) 29 7 [some (.inr (some 3)), some (.inl x1), some (.inl (x2 + 1))] [] σ Q)))))) : Ev S (d + 4) 29 7 [some (.inr (some 3)), some (.inl x1), some (.inl x2)] [] σ Q := by
  refine e_load q_29 rfl rfl rfl ?_
  refine e_load q_29 rfl rfl rfl ?_
  refine e_getR q_29 rfl rfl rfl ?_
  refine e_virt q_29 rfl rfl (Nat.le_of_ble_eq_true rfl) rfl rfl (Nat.le_of_ble_eq_true rfl) rfl ?_
  show Ev S (d + 3) 7 0 [some (.inr (some 1))] [] σ _
  refine e_load q_7 rfl rfl rfl ?_
  refine e_getR q_7 rfl rfl rfl ?_
  refine e_push q_7 rfl ?_
  refine e_iald (j := 80) q_7 rfl rfl (by decide) (by decide +kernel) (by decide) ?_
  refine e_ireturn q_7 rfl rfl ?_
  show Ev S (d + 4) 29 11 [some (.inr (some 3)), some (.inl x1), some (.inl x2)] [.inl (σ 2 80), .inl x2] σ _
  refine e_icmp (P := (σ 2 80) ≤ x2) q_29 rfl m_c3 (fun c => ?_) (fun c => ?_)
  · replace h := h.1 c
    refine e_iinc (ls' := [some (.inr (some 3)), some (.inl (x1 + 1)), some (.inl x2)]) q_29 rfl rfl rfl ?_
    refine e_goto q_29 rfl ?_
    exact h
  · replace h := h.2 c
    refine e_load q_29 rfl rfl rfl ?_
    refine e_getR q_29 rfl rfl rfl ?_
    refine e_load q_29 rfl rfl rfl ?_
    refine e_virt q_29 rfl rfl (Nat.le_of_ble_eq_true rfl) rfl rfl (Nat.le_of_ble_eq_true rfl) rfl ?_
    show Ev S (d + 3) 12 0 [some (.inr (some 1)), some (.inl x2)] [] σ _
    refine e_load q_12 rfl rfl rfl ?_
    refine e_getR q_12 rfl rfl rfl ?_
    refine e_push q_12 rfl ?_
    refine e_load q_12 rfl rfl rfl ?_
    refine e_bin (r := 0 + x2) q_12 rfl rfl ?_
    obtain ⟨j2, hjj2, hlj2, h⟩ := h
    refine e_iald q_12 rfl rfl (by decide) hjj2 hlj2 ?_
    refine e_push q_12 rfl ?_
    refine e_icmp (P := ¬ (σ 2 j2) = 2) q_12 rfl m_c1 (fun c => ?_) (fun c => ?_)
    · replace h := h.1 c
      refine e_push q_12 rfl ?_
      refine e_zreturn q_12 rfl rfl (by decide) ?_
      show Ev S (d + 4) 29 16 [some (.inr (some 3)), some (.inl x1), some (.inl x2)] [.inl 0] σ _
      refine e_if (P := ¬ (0 : Int32) = 0) q_29 rfl m_c1 (fun c => absurd c (by decide)) (fun _ => ?_)
      refine e_load q_29 rfl rfl rfl ?_
      refine e_load q_29 rfl rfl rfl ?_
      refine e_load q_29 rfl rfl rfl ?_
      exact e_virt q_29 rfl rfl (Nat.le_of_ble_eq_true rfl) rfl rfl (Nat.le_of_ble_eq_true rfl) rfl h
    · replace h := h.2 c
      refine e_push q_12 rfl ?_
      refine e_goto q_12 rfl ?_
      refine e_zreturn q_12 rfl rfl (by decide) ?_
      show Ev S (d + 4) 29 16 [some (.inr (some 3)), some (.inl x1), some (.inl x2)] [.inl 1] σ _
      refine e_if (P := ¬ (1 : Int32) = 0) q_29 rfl m_c1 (fun _ => ?_) (fun c => absurd (by decide) c)
      refine e_iinc (ls' := [some (.inr (some 3)), some (.inl x1), some (.inl (x2 + 1))]) q_29 rfl rfl rfl ?_
      refine e_goto q_29 rfl ?_
      exact h
theorem g_29_54 {S : Nat × (Nat → Int32)} {d : Nat} {σ : Mem} {Q : MQ1} {x1 : Int32} {o2 : Option MV}  (h : ((6 ≤ x1 → Q [.inl 0] σ) ∧ (¬ (6 ≤ x1) → Ec S (d + 3) 30 [.inr (some 3), .inl x1] σ (fun rv σ' => Ev S (d + 4) 29 60 [some (.inr (some 3)), some (.inl x1), o2] (rv ++ []) σ' Q)))) : Ev S (d + 4) 29 54 [some (.inr (some 3)), some (.inl x1), o2] [] σ Q := by
  refine e_load q_29 rfl rfl rfl ?_
  refine e_push q_29 rfl ?_
  refine e_icmp (P := 6 ≤ x1) q_29 rfl m_c3 (fun c => ?_) (fun c => ?_)
  · replace h := h.1 c
    refine e_push q_29 rfl ?_
    exact e_ireturn q_29 rfl rfl h
  · replace h := h.2 c
    refine e_load q_29 rfl rfl rfl ?_
    refine e_load q_29 rfl rfl rfl ?_
    exact e_virt q_29 rfl rfl (Nat.le_of_ble_eq_true rfl) rfl rfl (Nat.le_of_ble_eq_true rfl) rfl h
theorem g_29_45 {S : Nat × (Nat → Int32)} {d : Nat} {σ : Mem} {Q : MQ1} {x1 : Int32} {o2 : Option MV} {y0 : Int32}  (h : ((y0 = 0 → Ev S (d + 4) 29 34 [some (.inr (some 3)), some (.inl (x1 + 1)), o2] [] σ Q) ∧ (¬ (y0 = 0) → Q [.inl (600 + x1)] σ))) : Ev S (d + 4) 29 45 [some (.inr (some 3)), some (.inl x1), o2] [.inl y0] σ Q := by
  refine e_if (P := y0 = 0) q_29 rfl m_c0 (fun c => ?_) (fun c => ?_)
  · replace h := h.1 c
    refine e_iinc (ls' := [some (.inr (some 3)), some (.inl (x1 + 1)), o2]) q_29 rfl rfl rfl ?_
    refine e_goto q_29 rfl ?_
    exact h
  · replace h := h.2 c
    refine e_push q_29 rfl ?_
    refine e_load q_29 rfl rfl rfl ?_
    refine e_bin (r := 600 + x1) q_29 rfl rfl ?_
    exact e_ireturn q_29 rfl rfl h
theorem g_29_21 {S : Nat × (Nat → Int32)} {d : Nat} {σ : Mem} {Q : MQ1} {x1 : Int32} {x2 : Int32} {y0 : Int32}  (h : (((¬ y0 = 0) → Ev S (d + 4) 29 7 [some (.inr (some 3)), some (.inl x1), some (.inl (x2 + 1))] [] σ Q) ∧ (¬ (¬ y0 = 0) → Q [.inl ((100 * x1) + x2)] σ))) : Ev S (d + 4) 29 21 [some (.inr (some 3)), some (.inl x1), some (.inl x2)] [.inl y0] σ Q := by
  refine e_if (P := ¬ y0 = 0) q_29 rfl m_c1 (fun c => ?_) (fun c => ?_)
  · replace h := h.1 c
    refine e_iinc (ls' := [some (.inr (some 3)), some (.inl x1), some (.inl (x2 + 1))]) q_29 rfl rfl rfl ?_
    refine e_goto q_29 rfl ?_
    exact h
  · replace h := h.2 c
    refine e_push q_29 rfl ?_
    refine e_load q_29 rfl rfl rfl ?_
    refine e_bin (r := 100 * x1) q_29 rfl rfl ?_
    refine e_load q_29 rfl rfl rfl ?_
    refine e_bin (r := (100 * x1) + x2) q_29 rfl rfl ?_
    exact e_ireturn q_29 rfl rfl h
theorem g_29_60 {S : Nat × (Nat → Int32)} {d : Nat} {σ : Mem} {Q : MQ1} {x1 : Int32} {o2 : Option MV} {y0 : Int32}  (h : (∃ j1 : Nat, 72 + x1 = nI j1 ∧ j1 < 81 ∧ ((y0 ≤ (σ 2 j1) → Ev S (d + 4) 29 54 [some (.inr (some 3)), some (.inl (x1 + 1)), o2] [] σ Q) ∧ (¬ (y0 ≤ (σ 2 j1)) → Q [.inl (700 + x1)] σ)))) : Ev S (d + 4) 29 60 [some (.inr (some 3)), some (.inl x1), o2] [.inl y0] σ Q := by
  refine e_load q_29 rfl rfl rfl ?_
  refine e_getR q_29 rfl rfl rfl ?_
  refine e_load q_29 rfl rfl rfl ?_
  refine e_virt q_29 rfl rfl (Nat.le_of_ble_eq_true rfl) rfl rfl (Nat.le_of_ble_eq_true rfl) rfl ?_
  show Ev S (d + 3) 16 0 [some (.inr (some 1)), some (.inl x1)] [] σ _
  refine e_load q_16 rfl rfl rfl ?_
  refine e_getR q_16 rfl rfl rfl ?_
  refine e_push q_16 rfl ?_
  refine e_load q_16 rfl rfl rfl ?_
  refine e_bin (r := 72 + x1) q_16 rfl rfl ?_
  obtain ⟨j1, hjj1, hlj1, h⟩ := h
  refine e_iald q_16 rfl rfl (by decide) hjj1 hlj1 ?_
  refine e_ireturn q_16 rfl rfl ?_
  show Ev S (d + 4) 29 64 [some (.inr (some 3)), some (.inl x1), o2] [.inl (σ 2 j1), .inl y0] σ _
  refine e_icmp (P := y0 ≤ (σ 2 j1)) q_29 rfl m_c5 (fun c => ?_) (fun c => ?_)
  · replace h := h.1 c
    refine e_iinc (ls' := [some (.inr (some 3)), some (.inl (x1 + 1)), o2]) q_29 rfl rfl rfl ?_
    refine e_goto q_29 rfl ?_
    exact h
  · replace h := h.2 c
    refine e_push q_29 rfl ?_
    refine e_load q_29 rfl rfl rfl ?_
    refine e_bin (r := 700 + x1) q_29 rfl rfl ?_
    exact e_ireturn q_29 rfl rfl h
theorem g_30_0 {S : Nat × (Nat → Int32)} {d : Nat} {σ : Mem} {Q : MQ1} {x1 : Int32}  (h : (((((σ 2 78) >>> (x1 &&& 31)) &&& 1) = 0 → Ec S (d + 1) 14 [.inr (some 1)] σ (fun rv σ' => Ev S (d + 2) 31 10 [some (.inr (some 3)), some (.inl x1)] (rv ++ []) σ' (fun rv σ' => Ev S (d + 3) 30 3 [some (.inr (some 3)), some (.inl x1), none, none] (rv ++ []) σ' Q))) ∧ (¬ ((((σ 2 78) >>> (x1 &&& 31)) &&& 1) = 0) → Ev S (d + 3) 30 6 [some (.inr (some 3)), some (.inl x1), some (.inl 0), some (.inl 0)] [] σ Q))) : Ev S (d + 3) 30 0 [some (.inr (some 3)), some (.inl x1), none, none] [] σ Q := by
  refine e_load q_30 rfl rfl rfl ?_
  refine e_load q_30 rfl rfl rfl ?_
  refine e_virt q_30 rfl rfl (Nat.le_of_ble_eq_true rfl) rfl rfl (Nat.le_of_ble_eq_true rfl) rfl ?_
  show Ev S (d + 2) 31 0 [some (.inr (some 3)), some (.inl x1)] [] σ _
  refine e_load q_31 rfl rfl rfl ?_
  refine e_getR q_31 rfl rfl rfl ?_
  refine e_load q_31 rfl rfl rfl ?_
  refine e_virt q_31 rfl rfl (Nat.le_of_ble_eq_true rfl) rfl rfl (Nat.le_of_ble_eq_true rfl) rfl ?_
  show Ev S (d + 1) 18 0 [some (.inr (some 1)), some (.inl x1)] [] σ _
  refine e_load q_18 rfl rfl rfl ?_
  refine e_getR q_18 rfl rfl rfl ?_
  refine e_push q_18 rfl ?_
  refine e_iald (j := 78) q_18 rfl rfl (by decide) (by decide +kernel) (by decide) ?_
  refine e_load q_18 rfl rfl rfl ?_
  refine e_stat q_18 rfl (Nat.le_of_ble_eq_true rfl) rfl rfl (Nat.le_of_ble_eq_true rfl) ?_
  show Ev S d 110 0 [some (.inl (σ 2 78)), some (.inl x1)] [] σ _
  refine e_load q_110 rfl rfl rfl ?_
  refine e_load q_110 rfl rfl rfl ?_
  refine e_bin (r := (σ 2 78) >>> (x1 &&& 31)) q_110 rfl rfl ?_
  refine e_push q_110 rfl ?_
  refine e_bin (r := ((σ 2 78) >>> (x1 &&& 31)) &&& 1) q_110 rfl rfl ?_
  refine e_if (P := (((σ 2 78) >>> (x1 &&& 31)) &&& 1) = 0) q_110 rfl m_c0 (fun c => ?_) (fun c => ?_)
  · replace h := h.1 c
    refine e_push q_110 rfl ?_
    refine e_zreturn q_110 rfl rfl (by decide) ?_
    show Ev S (d + 1) 18 6 [some (.inr (some 1)), some (.inl x1)] [.inl 0] σ _
    refine e_zreturn q_18 rfl rfl (by decide) ?_
    show Ev S (d + 2) 31 4 [some (.inr (some 3)), some (.inl x1)] [.inl 0] σ _
    refine e_if (P := (0 : Int32) = 0) q_31 rfl m_c0 (fun _ => ?_) (fun c => absurd (by decide) c)
    refine e_load q_31 rfl rfl rfl ?_
    refine e_getR q_31 rfl rfl rfl ?_
    exact e_virt q_31 rfl rfl (Nat.le_of_ble_eq_true rfl) rfl rfl (Nat.le_of_ble_eq_true rfl) rfl h
  · replace h := h.2 c
    refine e_push q_110 rfl ?_
    refine e_goto q_110 rfl ?_
    refine e_zreturn q_110 rfl rfl (by decide) ?_
    show Ev S (d + 1) 18 6 [some (.inr (some 1)), some (.inl x1)] [.inl 1] σ _
    refine e_zreturn q_18 rfl rfl (by decide) ?_
    show Ev S (d + 2) 31 4 [some (.inr (some 3)), some (.inl x1)] [.inl 1] σ _
    refine e_if (P := (1 : Int32) = 0) q_31 rfl m_c0 (fun c => absurd c (by decide)) (fun _ => ?_)
    refine e_push q_31 rfl ?_
    refine e_goto q_31 rfl ?_
    refine e_ireturn q_31 rfl rfl ?_
    show Ev S (d + 3) 30 3 [some (.inr (some 3)), some (.inl x1), none, none] [.inl 0] σ _
    refine e_store (ls' := [some (.inr (some 3)), some (.inl x1), some (.inl 0), none]) q_30 rfl (Nat.le_of_ble_eq_true rfl) rfl rfl ?_
    refine e_push q_30 rfl ?_
    refine e_store (ls' := [some (.inr (some 3)), some (.inl x1), some (.inl 0), some (.inl 0)]) q_30 rfl (Nat.le_of_ble_eq_true rfl) rfl rfl ?_
    exact h
theorem g_30_6 {S : Nat × (Nat → Int32)} {d : Nat} {σ : Mem} {Q : MQ1} {x1 : Int32} {x2 : Int32} {x3 : Int32}  (h : (((σ 2 80) ≤ x3 → Q [.inl x2] σ) ∧ (¬ ((σ 2 80) ≤ x3) → (∃ j2 : Nat, (5 * 8) + x3 = nI j2 ∧ j2 < 81 ∧ (((¬ (σ 2 j2) = x1) → (∃ j3 : Nat, (6 * 8) + x3 = nI j3 ∧ j3 < 81 ∧ (((¬ (σ 2 j3) = x1) → Ev S (d + 3) 30 6 [some (.inr (some 3)), some (.inl x1), some (.inl x2), some (.inl (x3 + 1))] [] σ Q) ∧ (¬ (¬ (σ 2 j3) = x1) → Ev S (d + 3) 30 6 [some (.inr (some 3)), some (.inl x1), some (.inl (x2 + 1)), some (.inl (x3 + 1))] [] σ Q)))) ∧ (¬ (¬ (σ 2 j2) = x1) → (∃ j4 : Nat, (1 * 8) + x3 = nI j4 ∧ j4 < 81 ∧ (∃ j5 : Nat, (6 * 8) + x3 = nI j5 ∧ j5 < 81 ∧ (((¬ (σ 2 j5) = x1) → Ev S (d + 3) 30 6 [some (.inr (some 3)), some (.inl x1), some (.inl (x2 + (σ 2 j4))), some (.inl (x3 + 1))] [] σ Q) ∧ (¬ (¬ (σ 2 j5) = x1) → Ev S (d + 3) 30 6 [some (.inr (some 3)), some (.inl x1), some (.inl ((x2 + (σ 2 j4)) + 1)), some (.inl (x3 + 1))] [] σ Q)))))))))) : Ev S (d + 3) 30 6 [some (.inr (some 3)), some (.inl x1), some (.inl x2), some (.inl x3)] [] σ Q := by
  refine e_load q_30 rfl rfl rfl ?_
  refine e_load q_30 rfl rfl rfl ?_
  refine e_getR q_30 rfl rfl rfl ?_
  refine e_virt q_30 rfl rfl (Nat.le_of_ble_eq_true rfl) rfl rfl (Nat.le_of_ble_eq_true rfl) rfl ?_
  show Ev S (d + 2) 7 0 [some (.inr (some 1))] [] σ _
  refine e_load q_7 rfl rfl rfl ?_
  refine e_getR q_7 rfl rfl rfl ?_
  refine e_push q_7 rfl ?_
  refine e_iald (j := 80) q_7 rfl rfl (by decide) (by decide +kernel) (by decide) ?_
  refine e_ireturn q_7 rfl rfl ?_
  show Ev S (d + 3) 30 10 [some (.inr (some 3)), some (.inl x1), some (.inl x2), some (.inl x3)] [.inl (σ 2 80), .inl x3] σ _
  refine e_icmp (P := (σ 2 80) ≤ x3) q_30 rfl m_c3 (fun c => ?_) (fun c => ?_)
  · replace h := h.1 c
    refine e_load q_30 rfl rfl rfl ?_
    exact e_ireturn q_30 rfl rfl h
  · replace h := h.2 c
    refine e_load q_30 rfl rfl rfl ?_
    refine e_getR q_30 rfl rfl rfl ?_
    refine e_push q_30 rfl ?_
    refine e_load q_30 rfl rfl rfl ?_
    refine e_virt q_30 rfl rfl (Nat.le_of_ble_eq_true rfl) rfl rfl (Nat.le_of_ble_eq_true rfl) rfl ?_
    show Ev S (d + 2) 8 0 [some (.inr (some 1)), some (.inl 5), some (.inl x3)] [] σ _
    refine e_load q_8 rfl rfl rfl ?_
    refine e_getR q_8 rfl rfl rfl ?_
    refine e_load q_8 rfl rfl rfl ?_
    refine e_push q_8 rfl ?_
    refine e_bin (r := 5 * 8) q_8 rfl rfl ?_
    refine e_load q_8 rfl rfl rfl ?_
    refine e_bin (r := (5 * 8) + x3) q_8 rfl rfl ?_
    obtain ⟨j2, hjj2, hlj2, h⟩ := h
    refine e_iald q_8 rfl rfl (by decide) hjj2 hlj2 ?_
    refine e_ireturn q_8 rfl rfl ?_
    show Ev S (d + 3) 30 16 [some (.inr (some 3)), some (.inl x1), some (.inl x2), some (.inl x3)] [.inl (σ 2 j2)] σ _
    refine e_load q_30 rfl rfl rfl ?_
    refine e_icmp (P := ¬ (σ 2 j2) = x1) q_30 rfl m_c1 (fun c => ?_) (fun c => ?_)
    · replace h := h.1 c
      refine e_load q_30 rfl rfl rfl ?_
      refine e_getR q_30 rfl rfl rfl ?_
      refine e_push q_30 rfl ?_
      refine e_load q_30 rfl rfl rfl ?_
      refine e_virt q_30 rfl rfl (Nat.le_of_ble_eq_true rfl) rfl rfl (Nat.le_of_ble_eq_true rfl) rfl ?_
      show Ev S (d + 2) 8 0 [some (.inr (some 1)), some (.inl 6), some (.inl x3)] [] σ _
      refine e_load q_8 rfl rfl rfl ?_
      refine e_getR q_8 rfl rfl rfl ?_
      refine e_load q_8 rfl rfl rfl ?_
      refine e_push q_8 rfl ?_
      refine e_bin (r := 6 * 8) q_8 rfl rfl ?_
      refine e_load q_8 rfl rfl rfl ?_
      refine e_bin (r := (6 * 8) + x3) q_8 rfl rfl ?_
      obtain ⟨j3, hjj3, hlj3, h⟩ := h
      refine e_iald q_8 rfl rfl (by decide) hjj3 hlj3 ?_
      refine e_ireturn q_8 rfl rfl ?_
      show Ev S (d + 3) 30 31 [some (.inr (some 3)), some (.inl x1), some (.inl x2), some (.inl x3)] [.inl (σ 2 j3)] σ _
      refine e_load q_30 rfl rfl rfl ?_
      refine e_icmp (P := ¬ (σ 2 j3) = x1) q_30 rfl m_c1 (fun c => ?_) (fun c => ?_)
      · replace h := h.1 c
        refine e_iinc (ls' := [some (.inr (some 3)), some (.inl x1), some (.inl x2), some (.inl (x3 + 1))]) q_30 rfl rfl rfl ?_
        refine e_goto q_30 rfl ?_
        exact h
      · replace h := h.2 c
        refine e_iinc (ls' := [some (.inr (some 3)), some (.inl x1), some (.inl (x2 + 1)), some (.inl x3)]) q_30 rfl rfl rfl ?_
        refine e_iinc (ls' := [some (.inr (some 3)), some (.inl x1), some (.inl (x2 + 1)), some (.inl (x3 + 1))]) q_30 rfl rfl rfl ?_
        refine e_goto q_30 rfl ?_
        exact h
    · replace h := h.2 c
      refine e_load q_30 rfl rfl rfl ?_
      refine e_load q_30 rfl rfl rfl ?_
      refine e_getR q_30 rfl rfl rfl ?_
      refine e_push q_30 rfl ?_
      refine e_load q_30 rfl rfl rfl ?_
      refine e_virt q_30 rfl rfl (Nat.le_of_ble_eq_true rfl) rfl rfl (Nat.le_of_ble_eq_true rfl) rfl ?_
      show Ev S (d + 2) 8 0 [some (.inr (some 1)), some (.inl 1), some (.inl x3)] [] σ _
      refine e_load q_8 rfl rfl rfl ?_
      refine e_getR q_8 rfl rfl rfl ?_
      refine e_load q_8 rfl rfl rfl ?_
      refine e_push q_8 rfl ?_
      refine e_bin (r := 1 * 8) q_8 rfl rfl ?_
      refine e_load q_8 rfl rfl rfl ?_
      refine e_bin (r := (1 * 8) + x3) q_8 rfl rfl ?_
      obtain ⟨j4, hjj4, hlj4, h⟩ := h
      refine e_iald q_8 rfl rfl (by decide) hjj4 hlj4 ?_
      refine e_ireturn q_8 rfl rfl ?_
      show Ev S (d + 3) 30 24 [some (.inr (some 3)), some (.inl x1), some (.inl x2), some (.inl x3)] [.inl (σ 2 j4), .inl x2] σ _
      refine e_bin (r := x2 + (σ 2 j4)) q_30 rfl rfl ?_
      refine e_store (ls' := [some (.inr (some 3)), some (.inl x1), some (.inl (x2 + (σ 2 j4))), some (.inl x3)]) q_30 rfl (Nat.le_of_ble_eq_true rfl) rfl rfl ?_
      refine e_load q_30 rfl rfl rfl ?_
      refine e_getR q_30 rfl rfl rfl ?_
      refine e_push q_30 rfl ?_
      refine e_load q_30 rfl rfl rfl ?_
      refine e_virt q_30 rfl rfl (Nat.le_of_ble_eq_true rfl) rfl rfl (Nat.le_of_ble_eq_true rfl) rfl ?_
      show Ev S (d + 2) 8 0 [some (.inr (some 1)), some (.inl 6), some (.inl x3)] [] σ _
      refine e_load q_8 rfl rfl rfl ?_
      refine e_getR q_8 rfl rfl rfl ?_
      refine e_load q_8 rfl rfl rfl ?_
      refine e_push q_8 rfl ?_
      refine e_bin (r := 6 * 8) q_8 rfl rfl ?_
      refine e_load q_8 rfl rfl rfl ?_
      refine e_bin (r := (6 * 8) + x3) q_8 rfl rfl ?_
      obtain ⟨j5, hjj5, hlj5, h⟩ := h
      refine e_iald q_8 rfl rfl (by decide) hjj5 hlj5 ?_
      refine e_ireturn q_8 rfl rfl ?_
      show Ev S (d + 3) 30 31 [some (.inr (some 3)), some (.inl x1), some (.inl (x2 + (σ 2 j4))), some (.inl x3)] [.inl (σ 2 j5)] σ _
      refine e_load q_30 rfl rfl rfl ?_
      refine e_icmp (P := ¬ (σ 2 j5) = x1) q_30 rfl m_c1 (fun c => ?_) (fun c => ?_)
      · replace h := h.1 c
        refine e_iinc (ls' := [some (.inr (some 3)), some (.inl x1), some (.inl (x2 + (σ 2 j4))), some (.inl (x3 + 1))]) q_30 rfl rfl rfl ?_
        refine e_goto q_30 rfl ?_
        exact h
      · replace h := h.2 c
        refine e_iinc (ls' := [some (.inr (some 3)), some (.inl x1), some (.inl ((x2 + (σ 2 j4)) + 1)), some (.inl x3)]) q_30 rfl rfl rfl ?_
        refine e_iinc (ls' := [some (.inr (some 3)), some (.inl x1), some (.inl ((x2 + (σ 2 j4)) + 1)), some (.inl (x3 + 1))]) q_30 rfl rfl rfl ?_
        refine e_goto q_30 rfl ?_
        exact h
theorem g_30_3 {S : Nat × (Nat → Int32)} {d : Nat} {σ : Mem} {Q : MQ1} {x1 : Int32} {o2 : Option MV} {o3 : Option MV} {y0 : Int32}  (h : Ev S (d + 3) 30 6 [some (.inr (some 3)), some (.inl x1), some (.inl y0), some (.inl 0)] [] σ Q) : Ev S (d + 3) 30 3 [some (.inr (some 3)), some (.inl x1), o2, o3] [.inl y0] σ Q := by
  refine e_store (ls' := [some (.inr (some 3)), some (.inl x1), some (.inl y0), o3]) q_30 rfl (Nat.le_of_ble_eq_true rfl) rfl rfl ?_
  refine e_push q_30 rfl ?_
  refine e_store (ls' := [some (.inr (some 3)), some (.inl x1), some (.inl y0), some (.inl 0)]) q_30 rfl (Nat.le_of_ble_eq_true rfl) rfl rfl ?_
  exact h
theorem g_31_10 {S : Nat × (Nat → Int32)} {d : Nat} {σ : Mem} {Q : MQ1} {o0 : Option MV} {o1 : Option MV} {y0 : Int32}  (h : Q [.inl y0] σ) : Ev S (d + 2) 31 10 [o0, o1] [.inl y0] σ Q := by
  exact e_ireturn q_31 rfl rfl h
theorem g_32_0 {S : Nat × (Nat → Int32)} {d : Nat} {σ : Mem} {Q : MQ1} {x1 : Int32}  (h : ((x1 = (-1) → Q [.inl 0] σ) ∧ (¬ (x1 = (-1)) → (((((σ 2 78) >>> (x1 &&& 31)) &&& 1) = 0 → Q [.inl 1] σ) ∧ (¬ ((((σ 2 78) >>> (x1 &&& 31)) &&& 1) = 0) → Q [.inl 0] σ))))) : Ev S (d + 2) 32 0 [some (.inr (some 3)), some (.inl x1)] [] σ Q := by
  refine e_load q_32 rfl rfl rfl ?_
  refine e_push q_32 rfl ?_
  refine e_icmp (P := x1 = (-1)) q_32 rfl m_c0 (fun c => ?_) (fun c => ?_)
  · replace h := h.1 c
    refine e_push q_32 rfl ?_
    exact e_zreturn q_32 rfl rfl (by decide) h
  · replace h := h.2 c
    refine e_load q_32 rfl rfl rfl ?_
    refine e_getR q_32 rfl rfl rfl ?_
    refine e_load q_32 rfl rfl rfl ?_
    refine e_virt q_32 rfl rfl (Nat.le_of_ble_eq_true rfl) rfl rfl (Nat.le_of_ble_eq_true rfl) rfl ?_
    show Ev S (d + 1) 18 0 [some (.inr (some 1)), some (.inl x1)] [] σ _
    refine e_load q_18 rfl rfl rfl ?_
    refine e_getR q_18 rfl rfl rfl ?_
    refine e_push q_18 rfl ?_
    refine e_iald (j := 78) q_18 rfl rfl (by decide) (by decide +kernel) (by decide) ?_
    refine e_load q_18 rfl rfl rfl ?_
    refine e_stat q_18 rfl (Nat.le_of_ble_eq_true rfl) rfl rfl (Nat.le_of_ble_eq_true rfl) ?_
    show Ev S d 110 0 [some (.inl (σ 2 78)), some (.inl x1)] [] σ _
    refine e_load q_110 rfl rfl rfl ?_
    refine e_load q_110 rfl rfl rfl ?_
    refine e_bin (r := (σ 2 78) >>> (x1 &&& 31)) q_110 rfl rfl ?_
    refine e_push q_110 rfl ?_
    refine e_bin (r := ((σ 2 78) >>> (x1 &&& 31)) &&& 1) q_110 rfl rfl ?_
    refine e_if (P := (((σ 2 78) >>> (x1 &&& 31)) &&& 1) = 0) q_110 rfl m_c0 (fun c => ?_) (fun c => ?_)
    · replace h := h.1 c
      refine e_push q_110 rfl ?_
      refine e_zreturn q_110 rfl rfl (by decide) ?_
      show Ev S (d + 1) 18 6 [some (.inr (some 1)), some (.inl x1)] [.inl 0] σ _
      refine e_zreturn q_18 rfl rfl (by decide) ?_
      show Ev S (d + 2) 32 7 [some (.inr (some 3)), some (.inl x1)] [.inl 0] σ _
      refine e_if (P := ¬ (0 : Int32) = 0) q_32 rfl m_c1 (fun c => absurd c (by decide)) (fun _ => ?_)
      refine e_push q_32 rfl ?_
      refine e_goto q_32 rfl ?_
      exact e_zreturn q_32 rfl rfl (by decide) h
    · replace h := h.2 c
      refine e_push q_110 rfl ?_
      refine e_goto q_110 rfl ?_
      refine e_zreturn q_110 rfl rfl (by decide) ?_
      show Ev S (d + 1) 18 6 [some (.inr (some 1)), some (.inl x1)] [.inl 1] σ _
      refine e_zreturn q_18 rfl rfl (by decide) ?_
      show Ev S (d + 2) 32 7 [some (.inr (some 3)), some (.inl x1)] [.inl 1] σ _
      refine e_if (P := ¬ (1 : Int32) = 0) q_32 rfl m_c1 (fun _ => ?_) (fun c => absurd (by decide) c)
      refine e_push q_32 rfl ?_
      exact e_zreturn q_32 rfl rfl (by decide) h
theorem g_33_0 {S : Nat × (Nat → Int32)} {d : Nat} {σ : Mem} {Q : MQ1} {x1 : Int32} {x2 : Int32} {x3 : Int32}  (h : (∃ j1 : Nat, (3 * 8) + x1 = nI j1 ∧ j1 < 81 ∧ (((¬ (σ 2 j1) = 0) → ((x3 ≤ x2 → Q [.inl 0] σ) ∧ (¬ (x3 ≤ x2) → (((x2 + (σ 2 j1)) < x3 → Q [.inl 0] σ) ∧ (¬ ((x2 + (σ 2 j1)) < x3) → (((((σ 2 78) >>> (x3 &&& 31)) &&& 1) = 0 → Q [.inl 1] σ) ∧ (¬ ((((σ 2 78) >>> (x3 &&& 31)) &&& 1) = 0) → Q [.inl 0] σ))))))) ∧ (¬ (¬ (σ 2 j1) = 0) → (((¬ x3 = (-1)) → Q [.inl 0] σ) ∧ (¬ (¬ x3 = (-1)) → Q [.inl 1] σ)))))) : Ev S (d + 2) 33 0 [some (.inr (some 3)), some (.inl x1), some (.inl x2), some (.inl x3), none] [] σ Q := by
  refine e_load q_33 rfl rfl rfl ?_
  refine e_getR q_33 rfl rfl rfl ?_
  refine e_push q_33 rfl ?_
  refine e_load q_33 rfl rfl rfl ?_
  refine e_virt q_33 rfl rfl (Nat.le_of_ble_eq_true rfl) rfl rfl (Nat.le_of_ble_eq_true rfl) rfl ?_
  show Ev S (d + 1) 8 0 [some (.inr (some 1)), some (.inl 3), some (.inl x1)] [] σ _
  refine e_load q_8 rfl rfl rfl ?_
  refine e_getR q_8 rfl rfl rfl ?_
  refine e_load q_8 rfl rfl rfl ?_
  refine e_push q_8 rfl ?_
  refine e_bin (r := 3 * 8) q_8 rfl rfl ?_
  refine e_load q_8 rfl rfl rfl ?_
  refine e_bin (r := (3 * 8) + x1) q_8 rfl rfl ?_
  obtain ⟨j1, hjj1, hlj1, h⟩ := h
  refine e_iald q_8 rfl rfl (by decide) hjj1 hlj1 ?_
  refine e_ireturn q_8 rfl rfl ?_
  show Ev S (d + 2) 33 5 [some (.inr (some 3)), some (.inl x1), some (.inl x2), some (.inl x3), none] [.inl (σ 2 j1)] σ _
  refine e_store (ls' := [some (.inr (some 3)), some (.inl x1), some (.inl x2), some (.inl x3), some (.inl (σ 2 j1))]) q_33 rfl (Nat.le_of_ble_eq_true rfl) rfl rfl ?_
  refine e_load q_33 rfl rfl rfl ?_
  refine e_if (P := ¬ (σ 2 j1) = 0) q_33 rfl m_c1 (fun c => ?_) (fun c => ?_)
  · replace h := h.1 c
    refine e_load q_33 rfl rfl rfl ?_
    refine e_load q_33 rfl rfl rfl ?_
    refine e_icmp (P := x3 ≤ x2) q_33 rfl m_c5 (fun c => ?_) (fun c => ?_)
    · replace h := h.1 c
      refine e_push q_33 rfl ?_
      exact e_zreturn q_33 rfl rfl (by decide) h
    · replace h := h.2 c
      refine e_load q_33 rfl rfl rfl ?_
      refine e_load q_33 rfl rfl rfl ?_
      refine e_load q_33 rfl rfl rfl ?_
      refine e_bin (r := x2 + (σ 2 j1)) q_33 rfl rfl ?_
      refine e_icmp (P := (x2 + (σ 2 j1)) < x3) q_33 rfl m_c4 (fun c => ?_) (fun c => ?_)
      · replace h := h.1 c
        refine e_push q_33 rfl ?_
        exact e_zreturn q_33 rfl rfl (by decide) h
      · replace h := h.2 c
        refine e_load q_33 rfl rfl rfl ?_
        refine e_getR q_33 rfl rfl rfl ?_
        refine e_load q_33 rfl rfl rfl ?_
        refine e_virt q_33 rfl rfl (Nat.le_of_ble_eq_true rfl) rfl rfl (Nat.le_of_ble_eq_true rfl) rfl ?_
        show Ev S (d + 1) 18 0 [some (.inr (some 1)), some (.inl x3)] [] σ _
        refine e_load q_18 rfl rfl rfl ?_
        refine e_getR q_18 rfl rfl rfl ?_
        refine e_push q_18 rfl ?_
        refine e_iald (j := 78) q_18 rfl rfl (by decide) (by decide +kernel) (by decide) ?_
        refine e_load q_18 rfl rfl rfl ?_
        refine e_stat q_18 rfl (Nat.le_of_ble_eq_true rfl) rfl rfl (Nat.le_of_ble_eq_true rfl) ?_
        show Ev S d 110 0 [some (.inl (σ 2 78)), some (.inl x3)] [] σ _
        refine e_load q_110 rfl rfl rfl ?_
        refine e_load q_110 rfl rfl rfl ?_
        refine e_bin (r := (σ 2 78) >>> (x3 &&& 31)) q_110 rfl rfl ?_
        refine e_push q_110 rfl ?_
        refine e_bin (r := ((σ 2 78) >>> (x3 &&& 31)) &&& 1) q_110 rfl rfl ?_
        refine e_if (P := (((σ 2 78) >>> (x3 &&& 31)) &&& 1) = 0) q_110 rfl m_c0 (fun c => ?_) (fun c => ?_)
        · replace h := h.1 c
          refine e_push q_110 rfl ?_
          refine e_zreturn q_110 rfl rfl (by decide) ?_
          show Ev S (d + 1) 18 6 [some (.inr (some 1)), some (.inl x3)] [.inl 0] σ _
          refine e_zreturn q_18 rfl rfl (by decide) ?_
          show Ev S (d + 2) 33 27 [some (.inr (some 3)), some (.inl x1), some (.inl x2), some (.inl x3), some (.inl (σ 2 j1))] [.inl 0] σ _
          refine e_if (P := ¬ (0 : Int32) = 0) q_33 rfl m_c1 (fun c => absurd c (by decide)) (fun _ => ?_)
          refine e_push q_33 rfl ?_
          refine e_goto q_33 rfl ?_
          exact e_zreturn q_33 rfl rfl (by decide) h
        · replace h := h.2 c
          refine e_push q_110 rfl ?_
          refine e_goto q_110 rfl ?_
          refine e_zreturn q_110 rfl rfl (by decide) ?_
          show Ev S (d + 1) 18 6 [some (.inr (some 1)), some (.inl x3)] [.inl 1] σ _
          refine e_zreturn q_18 rfl rfl (by decide) ?_
          show Ev S (d + 2) 33 27 [some (.inr (some 3)), some (.inl x1), some (.inl x2), some (.inl x3), some (.inl (σ 2 j1))] [.inl 1] σ _
          refine e_if (P := ¬ (1 : Int32) = 0) q_33 rfl m_c1 (fun _ => ?_) (fun c => absurd (by decide) c)
          refine e_push q_33 rfl ?_
          exact e_zreturn q_33 rfl rfl (by decide) h
  · replace h := h.2 c
    refine e_load q_33 rfl rfl rfl ?_
    refine e_push q_33 rfl ?_
    refine e_icmp (P := ¬ x3 = (-1)) q_33 rfl m_c1 (fun c => ?_) (fun c => ?_)
    · replace h := h.1 c
      refine e_push q_33 rfl ?_
      exact e_zreturn q_33 rfl rfl (by decide) h
    · replace h := h.2 c
      refine e_push q_33 rfl ?_
      refine e_goto q_33 rfl ?_
      exact e_zreturn q_33 rfl rfl (by decide) h
theorem g_34_0 {S : Nat × (Nat → Int32)} {d : Nat} {σ : Mem} {Q : MQ1} {x1 : Int32} {x2 : Int32} {x3 : Int32}  (h : (∃ j2 : Nat, (0 * 8) + x1 = nI j2 ∧ j2 < 81 ∧ ((1 = (σ 2 j2) → (((σ 2 79) ≤ x2 → Q [.inl 0] σ) ∧ (¬ ((σ 2 79) ≤ x2) → (((σ 2 79) ≤ x3 → Q [.inl 0] σ) ∧ (¬ ((σ 2 79) ≤ x3) → Q [.inl 1] σ))))) ∧ (¬ (1 = (σ 2 j2)) → (((¬ (σ 2 j2) = 3) → Q [.inl 1] σ) ∧ (¬ (¬ (σ 2 j2) = 3) → (((σ 2 79) ≤ x2 → Q [.inl 0] σ) ∧ (¬ ((σ 2 79) ≤ x2) → (((σ 2 79) ≤ x3 → Q [.inl 0] σ) ∧ (¬ ((σ 2 79) ≤ x3) → Q [.inl 1] σ)))))))))) : Ev S (d + 2) 34 0 [some (.inr (some 3)), some (.inl x1), some (.inl x2), some (.inl x3), none] [] σ Q := by
  refine e_load q_34 rfl rfl rfl ?_
  refine e_getR q_34 rfl rfl rfl ?_
  refine e_virt q_34 rfl rfl (Nat.le_of_ble_eq_true rfl) rfl rfl (Nat.le_of_ble_eq_true rfl) rfl ?_
  show Ev S (d + 1) 22 0 [some (.inr (some 1))] [] σ _
  refine e_load q_22 rfl rfl rfl ?_
  refine e_getR q_22 rfl rfl rfl ?_
  refine e_push q_22 rfl ?_
  refine e_iald (j := 79) q_22 rfl rfl (by decide) (by decide +kernel) (by decide) ?_
  refine e_ireturn q_22 rfl rfl ?_
  show Ev S (d + 2) 34 3 [some (.inr (some 3)), some (.inl x1), some (.inl x2), some (.inl x3), none] [.inl (σ 2 79)] σ _
  refine e_store (ls' := [some (.inr (some 3)), some (.inl x1), some (.inl x2), some (.inl x3), some (.inl (σ 2 79))]) q_34 rfl (Nat.le_of_ble_eq_true rfl) rfl rfl ?_
  refine e_load q_34 rfl rfl rfl ?_
  refine e_getR q_34 rfl rfl rfl ?_
  refine e_load q_34 rfl rfl rfl ?_
  refine e_push q_34 rfl ?_
  refine e_virt q_34 rfl rfl (Nat.le_of_ble_eq_true rfl) rfl rfl (Nat.le_of_ble_eq_true rfl) rfl ?_
  show Ev S (d + 1) 11 0 [some (.inr (some 1)), some (.inl x1), some (.inl 1), none] [] σ _
  refine e_load q_11 rfl rfl rfl ?_
  refine e_push q_11 rfl ?_
  refine e_load q_11 rfl rfl rfl ?_
  refine e_virt q_11 rfl rfl (Nat.le_of_ble_eq_true rfl) rfl rfl (Nat.le_of_ble_eq_true rfl) rfl ?_
  show Ev S d 8 0 [some (.inr (some 1)), some (.inl 0), some (.inl x1)] [] σ _
  refine e_load q_8 rfl rfl rfl ?_
  refine e_getR q_8 rfl rfl rfl ?_
  refine e_load q_8 rfl rfl rfl ?_
  refine e_push q_8 rfl ?_
  refine e_bin (r := 0 * 8) q_8 rfl rfl ?_
  refine e_load q_8 rfl rfl rfl ?_
  refine e_bin (r := (0 * 8) + x1) q_8 rfl rfl ?_
  obtain ⟨j2, hjj2, hlj2, h⟩ := h
  refine e_iald q_8 rfl rfl (by decide) hjj2 hlj2 ?_
  refine e_ireturn q_8 rfl rfl ?_
  show Ev S (d + 1) 11 4 [some (.inr (some 1)), some (.inl x1), some (.inl 1), none] [.inl (σ 2 j2)] σ _
  refine e_store (ls' := [some (.inr (some 1)), some (.inl x1), some (.inl 1), some (.inl (σ 2 j2))]) q_11 rfl (Nat.le_of_ble_eq_true rfl) rfl rfl ?_
  refine e_load q_11 rfl rfl rfl ?_
  refine e_if (P := (1 : Int32) = 0) q_11 rfl m_c0 (fun c => absurd c (by decide)) (fun _ => ?_)
  refine e_load q_11 rfl rfl rfl ?_
  refine e_load q_11 rfl rfl rfl ?_
  refine e_icmp (P := 1 = (σ 2 j2)) q_11 rfl m_c0 (fun c => ?_) (fun c => ?_)
  · replace h := h.1 c
    refine e_push q_11 rfl ?_
    refine e_goto q_11 rfl ?_
    refine e_zreturn q_11 rfl rfl (by decide) ?_
    show Ev S (d + 2) 34 9 [some (.inr (some 3)), some (.inl x1), some (.inl x2), some (.inl x3), some (.inl (σ 2 79))] [.inl 1] σ _
    refine e_if (P := (1 : Int32) = 0) q_34 rfl m_c0 (fun c => absurd c (by decide)) (fun _ => ?_)
    refine e_load q_34 rfl rfl rfl ?_
    refine e_load q_34 rfl rfl rfl ?_
    refine e_icmp (P := (σ 2 79) ≤ x2) q_34 rfl m_c3 (fun c => ?_) (fun c => ?_)
    · replace h := h.1 c
      refine e_push q_34 rfl ?_
      exact e_zreturn q_34 rfl rfl (by decide) h
    · replace h := h.2 c
      refine e_load q_34 rfl rfl rfl ?_
      refine e_load q_34 rfl rfl rfl ?_
      refine e_icmp (P := (σ 2 79) ≤ x3) q_34 rfl m_c3 (fun c => ?_) (fun c => ?_)
      · replace h := h.1 c
        refine e_push q_34 rfl ?_
        exact e_zreturn q_34 rfl rfl (by decide) h
      · replace h := h.2 c
        refine e_push q_34 rfl ?_
        refine e_goto q_34 rfl ?_
        exact e_zreturn q_34 rfl rfl (by decide) h
  · replace h := h.2 c
    refine e_load q_11 rfl rfl rfl ?_
    refine e_push q_11 rfl ?_
    refine e_icmp (P := ¬ (1 : Int32) = 1) q_11 rfl m_c1 (fun c => absurd c (by decide)) (fun _ => ?_)
    refine e_load q_11 rfl rfl rfl ?_
    refine e_push q_11 rfl ?_
    refine e_icmp (P := ¬ (σ 2 j2) = 3) q_11 rfl m_c1 (fun c => ?_) (fun c => ?_)
    · replace h := h.1 c
      refine e_push q_11 rfl ?_
      refine e_zreturn q_11 rfl rfl (by decide) ?_
      show Ev S (d + 2) 34 9 [some (.inr (some 3)), some (.inl x1), some (.inl x2), some (.inl x3), some (.inl (σ 2 79))] [.inl 0] σ _
      refine e_if (P := (0 : Int32) = 0) q_34 rfl m_c0 (fun _ => ?_) (fun c => absurd (by decide) c)
      refine e_push q_34 rfl ?_
      refine e_goto q_34 rfl ?_
      exact e_zreturn q_34 rfl rfl (by decide) h
    · replace h := h.2 c
      refine e_push q_11 rfl ?_
      refine e_goto q_11 rfl ?_
      refine e_zreturn q_11 rfl rfl (by decide) ?_
      show Ev S (d + 2) 34 9 [some (.inr (some 3)), some (.inl x1), some (.inl x2), some (.inl x3), some (.inl (σ 2 79))] [.inl 1] σ _
      refine e_if (P := (1 : Int32) = 0) q_34 rfl m_c0 (fun c => absurd c (by decide)) (fun _ => ?_)
      refine e_load q_34 rfl rfl rfl ?_
      refine e_load q_34 rfl rfl rfl ?_
      refine e_icmp (P := (σ 2 79) ≤ x2) q_34 rfl m_c3 (fun c => ?_) (fun c => ?_)
      · replace h := h.1 c
        refine e_push q_34 rfl ?_
        exact e_zreturn q_34 rfl rfl (by decide) h
      · replace h := h.2 c
        refine e_load q_34 rfl rfl rfl ?_
        refine e_load q_34 rfl rfl rfl ?_
        refine e_icmp (P := (σ 2 79) ≤ x3) q_34 rfl m_c3 (fun c => ?_) (fun c => ?_)
        · replace h := h.1 c
          refine e_push q_34 rfl ?_
          exact e_zreturn q_34 rfl rfl (by decide) h
        · replace h := h.2 c
          refine e_push q_34 rfl ?_
          refine e_goto q_34 rfl ?_
          exact e_zreturn q_34 rfl rfl (by decide) h
theorem g_35_0 {S : Nat × (Nat → Int32)} {d : Nat} {σ : Mem} {Q : MQ1} {x1 : Int32} {x2 : Int32}  (h : (∃ j1 : Nat, (5 * 8) + x2 = nI j1 ∧ j1 < 81 ∧ (∃ j2 : Nat, (6 * 8) + x2 = nI j2 ∧ j2 < 81 ∧ ((x1 = 1 → (((σ 2 j1) = (-1) → Q [.inl 0] σ) ∧ (¬ ((σ 2 j1) = (-1)) → Q [.inl 1] σ))) ∧ (x1 = 2 → Ec S (d + 2) 32 [.inr (some 3), .inl (σ 2 j1)] σ (fun rv σ' => Ev S (d + 3) 35 24 [some (.inr (some 3)), some (.inl x1), some (.inl x2), some (.inl (σ 2 j1)), some (.inl (σ 2 j2))] (rv ++ []) σ' Q)) ∧ (x1 = 3 → Ec S (d + 2) 36 [.inr (some 3), .inl x2, .inl (σ 2 j1)] σ (fun rv σ' => Ev S (d + 3) 35 29 [some (.inr (some 3)), some (.inl x1), some (.inl x2), some (.inl (σ 2 j1)), some (.inl (σ 2 j2))] (rv ++ []) σ' Q)) ∧ (x1 = 4 → Ec S (d + 2) 33 [.inr (some 3), .inl x2, .inl (σ 2 j1), .inl (σ 2 j2)] σ (fun rv σ' => Ev S (d + 3) 35 35 [some (.inr (some 3)), some (.inl x1), some (.inl x2), some (.inl (σ 2 j1)), some (.inl (σ 2 j2))] (rv ++ []) σ' Q)) ∧ ((∀ j : Nat, j < 4 → ¬ x1 = 1 + nI j) → Ec S (d + 2) 34 [.inr (some 3), .inl x2, .inl (σ 2 j1), .inl (σ 2 j2)] σ (fun rv σ' => Ev S (d + 3) 35 41 [some (.inr (some 3)), some (.inl x1), some (.inl x2), some (.inl (σ 2 j1)), some (.inl (σ 2 j2))] (rv ++ []) σ' Q)))))) : Ev S (d + 3) 35 0 [some (.inr (some 3)), some (.inl x1), some (.inl x2), none, none] [] σ Q := by
  refine e_load q_35 rfl rfl rfl ?_
  refine e_getR q_35 rfl rfl rfl ?_
  refine e_push q_35 rfl ?_
  refine e_load q_35 rfl rfl rfl ?_
  refine e_virt q_35 rfl rfl (Nat.le_of_ble_eq_true rfl) rfl rfl (Nat.le_of_ble_eq_true rfl) rfl ?_
  show Ev S (d + 2) 8 0 [some (.inr (some 1)), some (.inl 5), some (.inl x2)] [] σ _
  refine e_load q_8 rfl rfl rfl ?_
  refine e_getR q_8 rfl rfl rfl ?_
  refine e_load q_8 rfl rfl rfl ?_
  refine e_push q_8 rfl ?_
  refine e_bin (r := 5 * 8) q_8 rfl rfl ?_
  refine e_load q_8 rfl rfl rfl ?_
  refine e_bin (r := (5 * 8) + x2) q_8 rfl rfl ?_
  obtain ⟨j1, hjj1, hlj1, h⟩ := h
  refine e_iald q_8 rfl rfl (by decide) hjj1 hlj1 ?_
  refine e_ireturn q_8 rfl rfl ?_
  show Ev S (d + 3) 35 5 [some (.inr (some 3)), some (.inl x1), some (.inl x2), none, none] [.inl (σ 2 j1)] σ _
  refine e_store (ls' := [some (.inr (some 3)), some (.inl x1), some (.inl x2), some (.inl (σ 2 j1)), none]) q_35 rfl (Nat.le_of_ble_eq_true rfl) rfl rfl ?_
  refine e_load q_35 rfl rfl rfl ?_
  refine e_getR q_35 rfl rfl rfl ?_
  refine e_push q_35 rfl ?_
  refine e_load q_35 rfl rfl rfl ?_
  refine e_virt q_35 rfl rfl (Nat.le_of_ble_eq_true rfl) rfl rfl (Nat.le_of_ble_eq_true rfl) rfl ?_
  show Ev S (d + 2) 8 0 [some (.inr (some 1)), some (.inl 6), some (.inl x2)] [] σ _
  refine e_load q_8 rfl rfl rfl ?_
  refine e_getR q_8 rfl rfl rfl ?_
  refine e_load q_8 rfl rfl rfl ?_
  refine e_push q_8 rfl ?_
  refine e_bin (r := 6 * 8) q_8 rfl rfl ?_
  refine e_load q_8 rfl rfl rfl ?_
  refine e_bin (r := (6 * 8) + x2) q_8 rfl rfl ?_
  obtain ⟨j2, hjj2, hlj2, h⟩ := h
  refine e_iald q_8 rfl rfl (by decide) hjj2 hlj2 ?_
  refine e_ireturn q_8 rfl rfl ?_
  show Ev S (d + 3) 35 11 [some (.inr (some 3)), some (.inl x1), some (.inl x2), some (.inl (σ 2 j1)), none] [.inl (σ 2 j2)] σ _
  refine e_store (ls' := [some (.inr (some 3)), some (.inl x1), some (.inl x2), some (.inl (σ 2 j1)), some (.inl (σ 2 j2))]) q_35 rfl (Nat.le_of_ble_eq_true rfl) rfl rfl ?_
  refine e_load q_35 rfl rfl rfl ?_
  refine e_switch q_35 rfl ?_
  rcases m_sw (x := x1) (t := 36) (lo := 1) (ts := [14, 21, 25, 30]) (by decide) (by decide) (by decide) with ⟨j, hj, hl, hx⟩ | ⟨hx, hn⟩
  · match j, hj, hl, hx with
    | 0, hj, hl, hx =>
      rw [show m_swt 36 1 [14, 21, 25, 30] (x1) = 14 from hx]
      replace h := h.1 (hj.trans (by decide +kernel))
      refine e_load q_35 rfl rfl rfl ?_
      refine e_push q_35 rfl ?_
      refine e_icmp (P := (σ 2 j1) = (-1)) q_35 rfl m_c0 (fun c => ?_) (fun c => ?_)
      · replace h := h.1 c
        refine e_push q_35 rfl ?_
        exact e_zreturn q_35 rfl rfl (by decide) h
      · replace h := h.2 c
        refine e_push q_35 rfl ?_
        refine e_goto q_35 rfl ?_
        exact e_zreturn q_35 rfl rfl (by decide) h
    | 1, hj, hl, hx =>
      rw [show m_swt 36 1 [14, 21, 25, 30] (x1) = 21 from hx]
      replace h := h.2.1 (hj.trans (by decide +kernel))
      refine e_load q_35 rfl rfl rfl ?_
      refine e_load q_35 rfl rfl rfl ?_
      exact e_virt q_35 rfl rfl (Nat.le_of_ble_eq_true rfl) rfl rfl (Nat.le_of_ble_eq_true rfl) rfl h
    | 2, hj, hl, hx =>
      rw [show m_swt 36 1 [14, 21, 25, 30] (x1) = 25 from hx]
      replace h := h.2.2.1 (hj.trans (by decide +kernel))
      refine e_load q_35 rfl rfl rfl ?_
      refine e_load q_35 rfl rfl rfl ?_
      refine e_load q_35 rfl rfl rfl ?_
      exact e_virt q_35 rfl rfl (Nat.le_of_ble_eq_true rfl) rfl rfl (Nat.le_of_ble_eq_true rfl) rfl h
    | 3, hj, hl, hx =>
      rw [show m_swt 36 1 [14, 21, 25, 30] (x1) = 30 from hx]
      replace h := h.2.2.2.1 (hj.trans (by decide +kernel))
      refine e_load q_35 rfl rfl rfl ?_
      refine e_load q_35 rfl rfl rfl ?_
      refine e_load q_35 rfl rfl rfl ?_
      refine e_load q_35 rfl rfl rfl ?_
      exact e_virt q_35 rfl rfl (Nat.le_of_ble_eq_true rfl) rfl rfl (Nat.le_of_ble_eq_true rfl) rfl h
    | j + 4, hj, hl, hx => exact absurd hl (show ¬ j + 4 < 4 by omega)
  · rw [hx]
    replace h := h.2.2.2.2 hn
    refine e_load q_35 rfl rfl rfl ?_
    refine e_load q_35 rfl rfl rfl ?_
    refine e_load q_35 rfl rfl rfl ?_
    refine e_load q_35 rfl rfl rfl ?_
    exact e_virt q_35 rfl rfl (Nat.le_of_ble_eq_true rfl) rfl rfl (Nat.le_of_ble_eq_true rfl) rfl h
theorem g_35_24 {S : Nat × (Nat → Int32)} {d : Nat} {σ : Mem} {Q : MQ1} {o0 : Option MV} {o1 : Option MV} {o2 : Option MV} {o3 : Option MV} {o4 : Option MV} {y0 : Int32}  (h : ((y0 = 0 ∨ y0 = 1) ∧ Q [.inl y0] σ)) : Ev S (d + 3) 35 24 [o0, o1, o2, o3, o4] [.inl y0] σ Q := by
  exact e_zreturn q_35 rfl rfl h.1 h.2
theorem g_35_29 {S : Nat × (Nat → Int32)} {d : Nat} {σ : Mem} {Q : MQ1} {o0 : Option MV} {o1 : Option MV} {o2 : Option MV} {o3 : Option MV} {o4 : Option MV} {y0 : Int32}  (h : ((y0 = 0 ∨ y0 = 1) ∧ Q [.inl y0] σ)) : Ev S (d + 3) 35 29 [o0, o1, o2, o3, o4] [.inl y0] σ Q := by
  exact e_zreturn q_35 rfl rfl h.1 h.2
theorem g_35_35 {S : Nat × (Nat → Int32)} {d : Nat} {σ : Mem} {Q : MQ1} {o0 : Option MV} {o1 : Option MV} {o2 : Option MV} {o3 : Option MV} {o4 : Option MV} {y0 : Int32}  (h : ((y0 = 0 ∨ y0 = 1) ∧ Q [.inl y0] σ)) : Ev S (d + 3) 35 35 [o0, o1, o2, o3, o4] [.inl y0] σ Q := by
  exact e_zreturn q_35 rfl rfl h.1 h.2
theorem g_35_41 {S : Nat × (Nat → Int32)} {d : Nat} {σ : Mem} {Q : MQ1} {o1 : Option MV} {x2 : Int32} {x3 : Int32} {o4 : Option MV} {y0 : Int32}  (h : ((y0 = 0 → Q [.inl 0] σ) ∧ (¬ (y0 = 0) → (∃ j1 : Nat, (8 * 8) + x2 = nI j1 ∧ j1 < 81 ∧ (((σ 2 j1) = (-1) → Q [.inl 1] σ) ∧ (¬ ((σ 2 j1) = (-1)) → (∃ j2 : Nat, 0 + (σ 2 j1) = nI j2 ∧ j2 < 81 ∧ (((¬ (σ 2 j2) = 2) → (∃ j3 : Nat, (5 * 8) + (σ 2 j1) = nI j3 ∧ j3 < 81 ∧ (((¬ (σ 2 j3) = x3) → Q [.inl 0] σ) ∧ (¬ (¬ (σ 2 j3) = x3) → Q [.inl 1] σ)))) ∧ (¬ (¬ (σ 2 j2) = 2) → Q [.inl 1] σ))))))))) : Ev S (d + 3) 35 41 [some (.inr (some 3)), o1, some (.inl x2), some (.inl x3), o4] [.inl y0] σ Q := by
  refine e_if (P := y0 = 0) q_35 rfl m_c0 (fun c => ?_) (fun c => ?_)
  · replace h := h.1 c
    refine e_push q_35 rfl ?_
    exact e_zreturn q_35 rfl rfl (by decide) h
  · replace h := h.2 c
    refine e_load q_35 rfl rfl rfl ?_
    refine e_load q_35 rfl rfl rfl ?_
    refine e_load q_35 rfl rfl rfl ?_
    refine e_virt q_35 rfl rfl (Nat.le_of_ble_eq_true rfl) rfl rfl (Nat.le_of_ble_eq_true rfl) rfl ?_
    show Ev S (d + 2) 37 0 [some (.inr (some 3)), some (.inl x2), some (.inl x3), none] [] σ _
    refine e_load q_37 rfl rfl rfl ?_
    refine e_getR q_37 rfl rfl rfl ?_
    refine e_push q_37 rfl ?_
    refine e_load q_37 rfl rfl rfl ?_
    refine e_virt q_37 rfl rfl (Nat.le_of_ble_eq_true rfl) rfl rfl (Nat.le_of_ble_eq_true rfl) rfl ?_
    show Ev S (d + 1) 8 0 [some (.inr (some 1)), some (.inl 8), some (.inl x2)] [] σ _
    refine e_load q_8 rfl rfl rfl ?_
    refine e_getR q_8 rfl rfl rfl ?_
    refine e_load q_8 rfl rfl rfl ?_
    refine e_push q_8 rfl ?_
    refine e_bin (r := 8 * 8) q_8 rfl rfl ?_
    refine e_load q_8 rfl rfl rfl ?_
    refine e_bin (r := (8 * 8) + x2) q_8 rfl rfl ?_
    obtain ⟨j1, hjj1, hlj1, h⟩ := h
    refine e_iald q_8 rfl rfl (by decide) hjj1 hlj1 ?_
    refine e_ireturn q_8 rfl rfl ?_
    show Ev S (d + 2) 37 5 [some (.inr (some 3)), some (.inl x2), some (.inl x3), none] [.inl (σ 2 j1)] σ _
    refine e_store (ls' := [some (.inr (some 3)), some (.inl x2), some (.inl x3), some (.inl (σ 2 j1))]) q_37 rfl (Nat.le_of_ble_eq_true rfl) rfl rfl ?_
    refine e_load q_37 rfl rfl rfl ?_
    refine e_push q_37 rfl ?_
    refine e_icmp (P := (σ 2 j1) = (-1)) q_37 rfl m_c0 (fun c => ?_) (fun c => ?_)
    · replace h := h.1 c
      refine e_push q_37 rfl ?_
      refine e_goto q_37 rfl ?_
      refine e_zreturn q_37 rfl rfl (by decide) ?_
      show Ev S (d + 3) 35 46 [some (.inr (some 3)), o1, some (.inl x2), some (.inl x3), o4] [.inl 1] σ _
      refine e_if (P := (1 : Int32) = 0) q_35 rfl m_c0 (fun c => absurd c (by decide)) (fun _ => ?_)
      refine e_push q_35 rfl ?_
      refine e_goto q_35 rfl ?_
      exact e_zreturn q_35 rfl rfl (by decide) h
    · replace h := h.2 c
      refine e_load q_37 rfl rfl rfl ?_
      refine e_getR q_37 rfl rfl rfl ?_
      refine e_load q_37 rfl rfl rfl ?_
      refine e_virt q_37 rfl rfl (Nat.le_of_ble_eq_true rfl) rfl rfl (Nat.le_of_ble_eq_true rfl) rfl ?_
      show Ev S (d + 1) 12 0 [some (.inr (some 1)), some (.inl (σ 2 j1))] [] σ _
      refine e_load q_12 rfl rfl rfl ?_
      refine e_getR q_12 rfl rfl rfl ?_
      refine e_push q_12 rfl ?_
      refine e_load q_12 rfl rfl rfl ?_
      refine e_bin (r := 0 + (σ 2 j1)) q_12 rfl rfl ?_
      obtain ⟨j2, hjj2, hlj2, h⟩ := h
      refine e_iald q_12 rfl rfl (by decide) hjj2 hlj2 ?_
      refine e_push q_12 rfl ?_
      refine e_icmp (P := ¬ (σ 2 j2) = 2) q_12 rfl m_c1 (fun c => ?_) (fun c => ?_)
      · replace h := h.1 c
        refine e_push q_12 rfl ?_
        refine e_zreturn q_12 rfl rfl (by decide) ?_
        show Ev S (d + 2) 37 13 [some (.inr (some 3)), some (.inl x2), some (.inl x3), some (.inl (σ 2 j1))] [.inl 0] σ _
        refine e_if (P := ¬ (0 : Int32) = 0) q_37 rfl m_c1 (fun c => absurd c (by decide)) (fun _ => ?_)
        refine e_load q_37 rfl rfl rfl ?_
        refine e_getR q_37 rfl rfl rfl ?_
        refine e_push q_37 rfl ?_
        refine e_load q_37 rfl rfl rfl ?_
        refine e_virt q_37 rfl rfl (Nat.le_of_ble_eq_true rfl) rfl rfl (Nat.le_of_ble_eq_true rfl) rfl ?_
        show Ev S (d + 1) 8 0 [some (.inr (some 1)), some (.inl 5), some (.inl (σ 2 j1))] [] σ _
        refine e_load q_8 rfl rfl rfl ?_
        refine e_getR q_8 rfl rfl rfl ?_
        refine e_load q_8 rfl rfl rfl ?_
        refine e_push q_8 rfl ?_
        refine e_bin (r := 5 * 8) q_8 rfl rfl ?_
        refine e_load q_8 rfl rfl rfl ?_
        refine e_bin (r := (5 * 8) + (σ 2 j1)) q_8 rfl rfl ?_
        obtain ⟨j3, hjj3, hlj3, h⟩ := h
        refine e_iald q_8 rfl rfl (by decide) hjj3 hlj3 ?_
        refine e_ireturn q_8 rfl rfl ?_
        show Ev S (d + 2) 37 19 [some (.inr (some 3)), some (.inl x2), some (.inl x3), some (.inl (σ 2 j1))] [.inl (σ 2 j3)] σ _
        refine e_load q_37 rfl rfl rfl ?_
        refine e_icmp (P := ¬ (σ 2 j3) = x3) q_37 rfl m_c1 (fun c => ?_) (fun c => ?_)
        · replace h := h.1 c
          refine e_push q_37 rfl ?_
          refine e_zreturn q_37 rfl rfl (by decide) ?_
          show Ev S (d + 3) 35 46 [some (.inr (some 3)), o1, some (.inl x2), some (.inl x3), o4] [.inl 0] σ _
          refine e_if (P := (0 : Int32) = 0) q_35 rfl m_c0 (fun _ => ?_) (fun c => absurd (by decide) c)
          refine e_push q_35 rfl ?_
          exact e_zreturn q_35 rfl rfl (by decide) h
        · replace h := h.2 c
          refine e_push q_37 rfl ?_
          refine e_goto q_37 rfl ?_
          refine e_zreturn q_37 rfl rfl (by decide) ?_
          show Ev S (d + 3) 35 46 [some (.inr (some 3)), o1, some (.inl x2), some (.inl x3), o4] [.inl 1] σ _
          refine e_if (P := (1 : Int32) = 0) q_35 rfl m_c0 (fun c => absurd c (by decide)) (fun _ => ?_)
          refine e_push q_35 rfl ?_
          refine e_goto q_35 rfl ?_
          exact e_zreturn q_35 rfl rfl (by decide) h
      · replace h := h.2 c
        refine e_push q_12 rfl ?_
        refine e_goto q_12 rfl ?_
        refine e_zreturn q_12 rfl rfl (by decide) ?_
        show Ev S (d + 2) 37 13 [some (.inr (some 3)), some (.inl x2), some (.inl x3), some (.inl (σ 2 j1))] [.inl 1] σ _
        refine e_if (P := ¬ (1 : Int32) = 0) q_37 rfl m_c1 (fun _ => ?_) (fun c => absurd (by decide) c)
        refine e_push q_37 rfl ?_
        refine e_goto q_37 rfl ?_
        refine e_zreturn q_37 rfl rfl (by decide) ?_
        show Ev S (d + 3) 35 46 [some (.inr (some 3)), o1, some (.inl x2), some (.inl x3), o4] [.inl 1] σ _
        refine e_if (P := (1 : Int32) = 0) q_35 rfl m_c0 (fun c => absurd c (by decide)) (fun _ => ?_)
        refine e_push q_35 rfl ?_
        refine e_goto q_35 rfl ?_
        exact e_zreturn q_35 rfl rfl (by decide) h
theorem g_36_0 {S : Nat × (Nat → Int32)} {d : Nat} {σ : Mem} {Q : MQ1} {x1 : Int32} {x2 : Int32}  (h : (∃ j1 : Nat, (2 * 8) + x1 = nI j1 ∧ j1 < 81 ∧ Ev S (d + 1) 36 8 [some (.inr (some 3)), some (.inl x1), some (.inl x2), some (.inl (σ 2 j1)), some (.inl 0)] [] σ Q)) : Ev S (d + 1) 36 0 [some (.inr (some 3)), some (.inl x1), some (.inl x2), none, none] [] σ Q := by
  refine e_load q_36 rfl rfl rfl ?_
  refine e_getR q_36 rfl rfl rfl ?_
  refine e_push q_36 rfl ?_
  refine e_load q_36 rfl rfl rfl ?_
  refine e_virt q_36 rfl rfl (Nat.le_of_ble_eq_true rfl) rfl rfl (Nat.le_of_ble_eq_true rfl) rfl ?_
  show Ev S d 8 0 [some (.inr (some 1)), some (.inl 2), some (.inl x1)] [] σ _
  refine e_load q_8 rfl rfl rfl ?_
  refine e_getR q_8 rfl rfl rfl ?_
  refine e_load q_8 rfl rfl rfl ?_
  refine e_push q_8 rfl ?_
  refine e_bin (r := 2 * 8) q_8 rfl rfl ?_
  refine e_load q_8 rfl rfl rfl ?_
  refine e_bin (r := (2 * 8) + x1) q_8 rfl rfl ?_
  obtain ⟨j1, hjj1, hlj1, h⟩ := h
  refine e_iald q_8 rfl rfl (by decide) hjj1 hlj1 ?_
  refine e_ireturn q_8 rfl rfl ?_
  show Ev S (d + 1) 36 5 [some (.inr (some 3)), some (.inl x1), some (.inl x2), none, none] [.inl (σ 2 j1)] σ _
  refine e_store (ls' := [some (.inr (some 3)), some (.inl x1), some (.inl x2), some (.inl (σ 2 j1)), none]) q_36 rfl (Nat.le_of_ble_eq_true rfl) rfl rfl ?_
  refine e_push q_36 rfl ?_
  refine e_store (ls' := [some (.inr (some 3)), some (.inl x1), some (.inl x2), some (.inl (σ 2 j1)), some (.inl 0)]) q_36 rfl (Nat.le_of_ble_eq_true rfl) rfl rfl ?_
  exact h
theorem g_36_8 {S : Nat × (Nat → Int32)} {d : Nat} {σ : Mem} {Q : MQ1} {o1 : Option MV} {x2 : Int32} {x3 : Int32} {x4 : Int32}  (h : (((σ 2 80) ≤ x4 → Q [.inl 1] σ) ∧ (¬ ((σ 2 80) ≤ x4) → ((((x3 >>> (x4 &&& 31)) &&& 1) = 0 → Ev S (d + 1) 36 8 [some (.inr (some 3)), o1, some (.inl x2), some (.inl x3), some (.inl (x4 + 1))] [] σ Q) ∧ (¬ (((x3 >>> (x4 &&& 31)) &&& 1) = 0) → (∃ j2 : Nat, 0 + x4 = nI j2 ∧ j2 < 81 ∧ (((¬ (σ 2 j2) = 2) → (∃ j3 : Nat, (5 * 8) + x4 = nI j3 ∧ j3 < 81 ∧ (((σ 2 j3) < x2 → Ev S (d + 1) 36 8 [some (.inr (some 3)), o1, some (.inl x2), some (.inl x3), some (.inl (x4 + 1))] [] σ Q) ∧ (¬ ((σ 2 j3) < x2) → Q [.inl 0] σ)))) ∧ (¬ (¬ (σ 2 j2) = 2) → Ev S (d + 1) 36 8 [some (.inr (some 3)), o1, some (.inl x2), some (.inl x3), some (.inl (x4 + 1))] [] σ Q)))))))) : Ev S (d + 1) 36 8 [some (.inr (some 3)), o1, some (.inl x2), some (.inl x3), some (.inl x4)] [] σ Q := by
  refine e_load q_36 rfl rfl rfl ?_
  refine e_load q_36 rfl rfl rfl ?_
  refine e_getR q_36 rfl rfl rfl ?_
  refine e_virt q_36 rfl rfl (Nat.le_of_ble_eq_true rfl) rfl rfl (Nat.le_of_ble_eq_true rfl) rfl ?_
  show Ev S d 7 0 [some (.inr (some 1))] [] σ _
  refine e_load q_7 rfl rfl rfl ?_
  refine e_getR q_7 rfl rfl rfl ?_
  refine e_push q_7 rfl ?_
  refine e_iald (j := 80) q_7 rfl rfl (by decide) (by decide +kernel) (by decide) ?_
  refine e_ireturn q_7 rfl rfl ?_
  show Ev S (d + 1) 36 12 [some (.inr (some 3)), o1, some (.inl x2), some (.inl x3), some (.inl x4)] [.inl (σ 2 80), .inl x4] σ _
  refine e_icmp (P := (σ 2 80) ≤ x4) q_36 rfl m_c3 (fun c => ?_) (fun c => ?_)
  · replace h := h.1 c
    refine e_push q_36 rfl ?_
    exact e_zreturn q_36 rfl rfl (by decide) h
  · replace h := h.2 c
    refine e_load q_36 rfl rfl rfl ?_
    refine e_load q_36 rfl rfl rfl ?_
    refine e_stat q_36 rfl (Nat.le_of_ble_eq_true rfl) rfl rfl (Nat.le_of_ble_eq_true rfl) ?_
    show Ev S d 110 0 [some (.inl x3), some (.inl x4)] [] σ _
    refine e_load q_110 rfl rfl rfl ?_
    refine e_load q_110 rfl rfl rfl ?_
    refine e_bin (r := x3 >>> (x4 &&& 31)) q_110 rfl rfl ?_
    refine e_push q_110 rfl ?_
    refine e_bin (r := (x3 >>> (x4 &&& 31)) &&& 1) q_110 rfl rfl ?_
    refine e_if (P := ((x3 >>> (x4 &&& 31)) &&& 1) = 0) q_110 rfl m_c0 (fun c => ?_) (fun c => ?_)
    · replace h := h.1 c
      refine e_push q_110 rfl ?_
      refine e_zreturn q_110 rfl rfl (by decide) ?_
      show Ev S (d + 1) 36 16 [some (.inr (some 3)), o1, some (.inl x2), some (.inl x3), some (.inl x4)] [.inl 0] σ _
      refine e_if (P := (0 : Int32) = 0) q_36 rfl m_c0 (fun _ => ?_) (fun c => absurd (by decide) c)
      refine e_iinc (ls' := [some (.inr (some 3)), o1, some (.inl x2), some (.inl x3), some (.inl (x4 + 1))]) q_36 rfl rfl rfl ?_
      refine e_goto q_36 rfl ?_
      exact h
    · replace h := h.2 c
      refine e_push q_110 rfl ?_
      refine e_goto q_110 rfl ?_
      refine e_zreturn q_110 rfl rfl (by decide) ?_
      show Ev S (d + 1) 36 16 [some (.inr (some 3)), o1, some (.inl x2), some (.inl x3), some (.inl x4)] [.inl 1] σ _
      refine e_if (P := (1 : Int32) = 0) q_36 rfl m_c0 (fun c => absurd c (by decide)) (fun _ => ?_)
      refine e_load q_36 rfl rfl rfl ?_
      refine e_getR q_36 rfl rfl rfl ?_
      refine e_load q_36 rfl rfl rfl ?_
      refine e_virt q_36 rfl rfl (Nat.le_of_ble_eq_true rfl) rfl rfl (Nat.le_of_ble_eq_true rfl) rfl ?_
      show Ev S d 12 0 [some (.inr (some 1)), some (.inl x4)] [] σ _
      refine e_load q_12 rfl rfl rfl ?_
      refine e_getR q_12 rfl rfl rfl ?_
      refine e_push q_12 rfl ?_
      refine e_load q_12 rfl rfl rfl ?_
      refine e_bin (r := 0 + x4) q_12 rfl rfl ?_
      obtain ⟨j2, hjj2, hlj2, h⟩ := h
      refine e_iald q_12 rfl rfl (by decide) hjj2 hlj2 ?_
      refine e_push q_12 rfl ?_
      refine e_icmp (P := ¬ (σ 2 j2) = 2) q_12 rfl m_c1 (fun c => ?_) (fun c => ?_)
      · replace h := h.1 c
        refine e_push q_12 rfl ?_
        refine e_zreturn q_12 rfl rfl (by decide) ?_
        show Ev S (d + 1) 36 21 [some (.inr (some 3)), o1, some (.inl x2), some (.inl x3), some (.inl x4)] [.inl 0] σ _
        refine e_if (P := ¬ (0 : Int32) = 0) q_36 rfl m_c1 (fun c => absurd c (by decide)) (fun _ => ?_)
        refine e_load q_36 rfl rfl rfl ?_
        refine e_getR q_36 rfl rfl rfl ?_
        refine e_push q_36 rfl ?_
        refine e_load q_36 rfl rfl rfl ?_
        refine e_virt q_36 rfl rfl (Nat.le_of_ble_eq_true rfl) rfl rfl (Nat.le_of_ble_eq_true rfl) rfl ?_
        show Ev S d 8 0 [some (.inr (some 1)), some (.inl 5), some (.inl x4)] [] σ _
        refine e_load q_8 rfl rfl rfl ?_
        refine e_getR q_8 rfl rfl rfl ?_
        refine e_load q_8 rfl rfl rfl ?_
        refine e_push q_8 rfl ?_
        refine e_bin (r := 5 * 8) q_8 rfl rfl ?_
        refine e_load q_8 rfl rfl rfl ?_
        refine e_bin (r := (5 * 8) + x4) q_8 rfl rfl ?_
        obtain ⟨j3, hjj3, hlj3, h⟩ := h
        refine e_iald q_8 rfl rfl (by decide) hjj3 hlj3 ?_
        refine e_ireturn q_8 rfl rfl ?_
        show Ev S (d + 1) 36 27 [some (.inr (some 3)), o1, some (.inl x2), some (.inl x3), some (.inl x4)] [.inl (σ 2 j3)] σ _
        refine e_load q_36 rfl rfl rfl ?_
        refine e_icmp (P := (σ 2 j3) < x2) q_36 rfl m_c2 (fun c => ?_) (fun c => ?_)
        · replace h := h.1 c
          refine e_iinc (ls' := [some (.inr (some 3)), o1, some (.inl x2), some (.inl x3), some (.inl (x4 + 1))]) q_36 rfl rfl rfl ?_
          refine e_goto q_36 rfl ?_
          exact h
        · replace h := h.2 c
          refine e_push q_36 rfl ?_
          exact e_zreturn q_36 rfl rfl (by decide) h
      · replace h := h.2 c
        refine e_push q_12 rfl ?_
        refine e_goto q_12 rfl ?_
        refine e_zreturn q_12 rfl rfl (by decide) ?_
        show Ev S (d + 1) 36 21 [some (.inr (some 3)), o1, some (.inl x2), some (.inl x3), some (.inl x4)] [.inl 1] σ _
        refine e_if (P := ¬ (1 : Int32) = 0) q_36 rfl m_c1 (fun _ => ?_) (fun c => absurd (by decide) c)
        refine e_iinc (ls' := [some (.inr (some 3)), o1, some (.inl x2), some (.inl x3), some (.inl (x4 + 1))]) q_36 rfl rfl rfl ?_
        refine e_goto q_36 rfl ?_
        exact h
