/-! METHODS, LINKS, by program -/
theorem zmem (i : Nat) {w : Cond} (h : tables_1[i]? = some w) (hg : goodWord w = true) : w ∈ ztbl := List.mem_filter.mpr ⟨List.mem_append_right _ (List.mem_of_getElem? h), hg⟩
theorem zmemp (i : Nat) {w : Cond} (h : (k2_sels lw_privs)[i]? = some w) (hg : goodWord w = true) : w ∈ ztbl := List.mem_filter.mpr ⟨List.mem_append_left _ (List.mem_of_getElem? h), hg⟩
theorem zmem_1 (i : Nat) {w : Cond} (h : tables_1_1[i]? = some w) (hg : goodWord w = true) : w ∈ ztbl := List.mem_filter.mpr ⟨List.mem_append_right _ (show w ∈ tables_1_1 ++ (tables_1_2 ++ (tables_1_3 ++ (tables_1_4 ++ (tables_1_5 ++ (tables_1_6 ++ tables_1_7))))) from (List.mem_append_left _ (List.mem_of_getElem? h))), hg⟩
theorem zmem_2 (i : Nat) {w : Cond} (h : tables_1_2[i]? = some w) (hg : goodWord w = true) : w ∈ ztbl := List.mem_filter.mpr ⟨List.mem_append_right _ (show w ∈ tables_1_1 ++ (tables_1_2 ++ (tables_1_3 ++ (tables_1_4 ++ (tables_1_5 ++ (tables_1_6 ++ tables_1_7))))) from (List.mem_append_right _ (List.mem_append_left _ (List.mem_of_getElem? h)))), hg⟩
theorem zmem_3 (i : Nat) {w : Cond} (h : tables_1_3[i]? = some w) (hg : goodWord w = true) : w ∈ ztbl := List.mem_filter.mpr ⟨List.mem_append_right _ (show w ∈ tables_1_1 ++ (tables_1_2 ++ (tables_1_3 ++ (tables_1_4 ++ (tables_1_5 ++ (tables_1_6 ++ tables_1_7))))) from (List.mem_append_right _ (List.mem_append_right _ (List.mem_append_left _ (List.mem_of_getElem? h))))), hg⟩
theorem zmem_4 (i : Nat) {w : Cond} (h : tables_1_4[i]? = some w) (hg : goodWord w = true) : w ∈ ztbl := List.mem_filter.mpr ⟨List.mem_append_right _ (show w ∈ tables_1_1 ++ (tables_1_2 ++ (tables_1_3 ++ (tables_1_4 ++ (tables_1_5 ++ (tables_1_6 ++ tables_1_7))))) from (List.mem_append_right _ (List.mem_append_right _ (List.mem_append_right _ (List.mem_append_left _ (List.mem_of_getElem? h)))))), hg⟩
theorem zmem_5 (i : Nat) {w : Cond} (h : tables_1_5[i]? = some w) (hg : goodWord w = true) : w ∈ ztbl := List.mem_filter.mpr ⟨List.mem_append_right _ (show w ∈ tables_1_1 ++ (tables_1_2 ++ (tables_1_3 ++ (tables_1_4 ++ (tables_1_5 ++ (tables_1_6 ++ tables_1_7))))) from (List.mem_append_right _ (List.mem_append_right _ (List.mem_append_right _ (List.mem_append_right _ (List.mem_append_left _ (List.mem_of_getElem? h))))))), hg⟩
theorem zmem_6 (i : Nat) {w : Cond} (h : tables_1_6[i]? = some w) (hg : goodWord w = true) : w ∈ ztbl := List.mem_filter.mpr ⟨List.mem_append_right _ (show w ∈ tables_1_1 ++ (tables_1_2 ++ (tables_1_3 ++ (tables_1_4 ++ (tables_1_5 ++ (tables_1_6 ++ tables_1_7))))) from (List.mem_append_right _ (List.mem_append_right _ (List.mem_append_right _ (List.mem_append_right _ (List.mem_append_right _ (List.mem_append_left _ (List.mem_of_getElem? h)))))))), hg⟩
theorem zmem_7 (i : Nat) {w : Cond} (h : tables_1_7[i]? = some w) (hg : goodWord w = true) : w ∈ ztbl := List.mem_filter.mpr ⟨List.mem_append_right _ (show w ∈ tables_1_1 ++ (tables_1_2 ++ (tables_1_3 ++ (tables_1_4 ++ (tables_1_5 ++ (tables_1_6 ++ tables_1_7))))) from (List.mem_append_right _ (List.mem_append_right _ (List.mem_append_right _ (List.mem_append_right _ (List.mem_append_right _ (List.mem_append_right _ (List.mem_of_getElem? h)))))))), hg⟩
theorem zmems (ps : List Nat) {ws : List Cond} (h : ws = ps.filterMap (fun i => tables_1[i]?)) (hg : ws.all goodWord = true) : ∀ w ∈ ws, w ∈ ztbl := fun w hw => by
  have h1 := List.all_eq_true.mp hg w hw
  rw [h] at hw
  obtain ⟨i, -, hi⟩ := List.mem_filterMap.mp hw
  exact zmem i hi h1
theorem zc_0 : zS 0 10 12 := zbq_of (by decide +kernel)
theorem zc_1 : zS 1 0 5 := zbq_of (by decide +kernel)
theorem zc_2 : zS 2 14 6 := zbq_of (by decide +kernel)
theorem zc_3 : zS 3 3 2 := zbq_of (by decide +kernel)
theorem zc_4 : zS 4 12 81 := zbq_of (by decide +kernel)
theorem zc_5 : zS 5 13 8 := zbq_of (by decide +kernel)
theorem zc_6 : zS 6 12 8 := zbq_of (by decide +kernel)
theorem zc_7 : zS 7 6 3 := zbq_of (by decide +kernel)
theorem zc_8 : zS 8 12 80 := zbq_of (by decide +kernel)
theorem zc_9 : zS 9 6 3 := zbq_of (by decide +kernel)
theorem zc_10 : zS 10 12 80 := zbq_of (by decide +kernel)
theorem zc_11 : zS 11 6 3 := zbq_of (by decide +kernel)
theorem zc_12 : zS 12 12 80 := zbq_of (by decide +kernel)
theorem zc_13 : zS 13 6 3 := zbq_of (by decide +kernel)
theorem zc_14 : zS 14 12 80 := zbq_of (by decide +kernel)
theorem zc_15 : zS 15 6 3 := zbq_of (by decide +kernel)
theorem zc_16 : zS 16 12 80 := zbq_of (by decide +kernel)
theorem zc_17 : zS 17 6 3 := zbq_of (by decide +kernel)
theorem zc_18 : zS 18 12 80 := zbq_of (by decide +kernel)
theorem zc_19 : zS 19 3 2 := zbq_of (by decide +kernel)
theorem zc_20 : zS 20 12 81 := zbq_of (by decide +kernel)
theorem zc_21 : zS 21 3 2 := zbq_of (by decide +kernel)
theorem zc_22 : zS 22 12 81 := zbq_of (by decide +kernel)
theorem zc_23 : zS 23 3 2 := zbq_of (by decide +kernel)
theorem zc_24 : zS 24 12 81 := zbq_of (by decide +kernel)
theorem zc_25 : zS 25 3 2 := zbq_of (by decide +kernel)
theorem zc_26 : zS 26 12 81 := zbq_of (by decide +kernel)
theorem zc_27 : zS 27 3 2 := zbq_of (by decide +kernel)
theorem zc_28 : zS 28 12 81 := zbq_of (by decide +kernel)
theorem zc_29 : zS 29 3 2 := zbq_of (by decide +kernel)
theorem zc_30 : zS 30 12 81 := zbq_of (by decide +kernel)
theorem zc_31 : zS 31 3 2 := zbq_of (by decide +kernel)
theorem zc_32 : zS 32 12 81 := zbq_of (by decide +kernel)
theorem zc_33 : zS 33 3 2 := zbq_of (by decide +kernel)
theorem zc_34 : zS 34 12 81 := zbq_of (by decide +kernel)
theorem zc_35 : zS 35 0 5 := zbq_of (by decide +kernel)
theorem zc_36 : zS 36 14 6 := zbq_of (by decide +kernel)
theorem zc_37 : zS 37 3 2 := zbq_of (by decide +kernel)
theorem zc_38 : zS 38 12 81 := zbq_of (by decide +kernel)
theorem zc_39 : zS 39 13 8 := zbq_of (by decide +kernel)
theorem zc_40 : zS 40 12 8 := zbq_of (by decide +kernel)
theorem zc_41 : zS 41 6 3 := zbq_of (by decide +kernel)
theorem zc_42 : zS 42 12 80 := zbq_of (by decide +kernel)
theorem zc_43 : zS 43 6 3 := zbq_of (by decide +kernel)
theorem zc_44 : zS 44 12 80 := zbq_of (by decide +kernel)
theorem zc_45 : zS 45 6 3 := zbq_of (by decide +kernel)
theorem zc_46 : zS 46 12 80 := zbq_of (by decide +kernel)
theorem zc_47 : zS 47 6 3 := zbq_of (by decide +kernel)
theorem zc_48 : zS 48 12 80 := zbq_of (by decide +kernel)
theorem zc_49 : zS 49 6 3 := zbq_of (by decide +kernel)
theorem zc_50 : zS 50 12 80 := zbq_of (by decide +kernel)
theorem zc_51 : zS 51 6 3 := zbq_of (by decide +kernel)
theorem zc_52 : zS 52 12 80 := zbq_of (by decide +kernel)
theorem zc_53 : zS 53 3 2 := zbq_of (by decide +kernel)
theorem zc_54 : zS 54 12 81 := zbq_of (by decide +kernel)
theorem zc_55 : zS 55 3 2 := zbq_of (by decide +kernel)
theorem zc_56 : zS 56 12 81 := zbq_of (by decide +kernel)
theorem zc_57 : zS 57 3 2 := zbq_of (by decide +kernel)
theorem zc_58 : zS 58 12 81 := zbq_of (by decide +kernel)
theorem zc_59 : zS 59 3 2 := zbq_of (by decide +kernel)
theorem zc_60 : zS 60 12 81 := zbq_of (by decide +kernel)
theorem zc_61 : zS 61 3 2 := zbq_of (by decide +kernel)
theorem zc_62 : zS 62 12 81 := zbq_of (by decide +kernel)
theorem zc_63 : zS 63 3 2 := zbq_of (by decide +kernel)
theorem zc_64 : zS 64 12 81 := zbq_of (by decide +kernel)
theorem zc_65 : zS 65 3 2 := zbq_of (by decide +kernel)
theorem zc_66 : zS 66 12 81 := zbq_of (by decide +kernel)
theorem zc_67 : zS 67 3 2 := zbq_of (by decide +kernel)
theorem zc_68 : zS 68 12 81 := zbq_of (by decide +kernel)
theorem zc_69 : zS 69 7 4 := zbq_of (by decide +kernel)
theorem zc_70 : zS 70 12 80 := zbq_of (by decide +kernel)
theorem zc_71 : zS 71 12 80 := zbq_of (by decide +kernel)
theorem zc_72 : zS 72 12 80 := zbq_of (by decide +kernel)
theorem zc_73 : zS 73 12 80 := zbq_of (by decide +kernel)
theorem zc_74 : zS 74 9 9 := zbq_of (by decide +kernel)
theorem zc_75 : zS 75 15 9 := zbq_of (by decide +kernel)
theorem zc_76 : zS 76 12 80 := zbq_of (by decide +kernel)
theorem zc_77 : zS 77 12 80 := zbq_of (by decide +kernel)
theorem zc_78 : zS 78 12 80 := zbq_of (by decide +kernel)
theorem zc_79 : zS 79 12 80 := zbq_of (by decide +kernel)
theorem zc_80 : zS 80 12 80 := zbq_of (by decide +kernel)
theorem zc_81 : zS 81 12 80 := zbq_of (by decide +kernel)
theorem zc_82 : zS 82 12 80 := zbq_of (by decide +kernel)
theorem zc_83 : zS 83 12 80 := zbq_of (by decide +kernel)
theorem zc_84 : zS 84 12 80 := zbq_of (by decide +kernel)
theorem zc_85 : zS 85 15 9 := zbq_of (by decide +kernel)
theorem zc_86 : zS 86 12 80 := zbq_of (by decide +kernel)
theorem zc_87 : zS 87 12 80 := zbq_of (by decide +kernel)
theorem zc_88 : zS 88 12 80 := zbq_of (by decide +kernel)
theorem zc_89 : zS 89 12 80 := zbq_of (by decide +kernel)
theorem zc_90 : zS 90 12 80 := zbq_of (by decide +kernel)
theorem zc_91 : zS 91 12 80 := zbq_of (by decide +kernel)
theorem zc_92 : zS 92 12 80 := zbq_of (by decide +kernel)
theorem zc_93 : zS 93 12 80 := zbq_of (by decide +kernel)
theorem zc_94 : zS 94 12 80 := zbq_of (by decide +kernel)
theorem zc_95 : zS 95 12 80 := zbq_of (by decide +kernel)
theorem zc_96 : zS 96 12 80 := zbq_of (by decide +kernel)
theorem zc_97 : zS 97 1 10 := zbq_of (by decide +kernel)
theorem zc_98 : zS 98 15 80 := zbq_of (by decide +kernel)
theorem zc_99 : zS 99 12 81 := zbq_of (by decide +kernel)
theorem zc_100 : zS 100 12 81 := zbq_of (by decide +kernel)
theorem zc_101 : zS 101 12 81 := zbq_of (by decide +kernel)
theorem zc_102 : zS 102 12 81 := zbq_of (by decide +kernel)
theorem zc_103 : zS 103 12 81 := zbq_of (by decide +kernel)
theorem zc_104 : zS 104 12 81 := zbq_of (by decide +kernel)
theorem zc_105 : zS 105 12 81 := zbq_of (by decide +kernel)
theorem zc_106 : zS 106 12 81 := zbq_of (by decide +kernel)
theorem zc_107 : zS 107 12 81 := zbq_of (by decide +kernel)
theorem zc_108 : zS 108 12 81 := zbq_of (by decide +kernel)
theorem zc_109 : zS 109 12 81 := zbq_of (by decide +kernel)
theorem zc_110 : zS 110 12 81 := zbq_of (by decide +kernel)
theorem zc_111 : zS 111 12 81 := zbq_of (by decide +kernel)
theorem zc_112 : zS 112 12 81 := zbq_of (by decide +kernel)
theorem zc_113 : zS 113 12 81 := zbq_of (by decide +kernel)
theorem zc_114 : zS 114 12 81 := zbq_of (by decide +kernel)
theorem zc_115 : zS 115 12 81 := zbq_of (by decide +kernel)
theorem zc_116 : zS 116 12 81 := zbq_of (by decide +kernel)
theorem zc_117 : zS 117 12 81 := zbq_of (by decide +kernel)
theorem zc_118 : zS 118 12 81 := zbq_of (by decide +kernel)
theorem zc_119 : zS 119 12 81 := zbq_of (by decide +kernel)
theorem zc_120 : zS 120 12 81 := zbq_of (by decide +kernel)
theorem zc_121 : zS 121 12 81 := zbq_of (by decide +kernel)
theorem zc_122 : zS 122 12 81 := zbq_of (by decide +kernel)
theorem zc_123 : zS 123 12 81 := zbq_of (by decide +kernel)
theorem zc_124 : zS 124 12 81 := zbq_of (by decide +kernel)
theorem zc_125 : zS 125 12 81 := zbq_of (by decide +kernel)
theorem zc_126 : zS 126 12 81 := zbq_of (by decide +kernel)
theorem zc_127 : zS 127 12 81 := zbq_of (by decide +kernel)
theorem zc_128 : zS 128 12 81 := zbq_of (by decide +kernel)
theorem zc_129 : zS 129 12 81 := zbq_of (by decide +kernel)
theorem zc_130 : zS 130 12 81 := zbq_of (by decide +kernel)
theorem zc_131 : zS 131 12 81 := zbq_of (by decide +kernel)
theorem zc_132 : zS 132 12 81 := zbq_of (by decide +kernel)
theorem zc_133 : zS 133 12 81 := zbq_of (by decide +kernel)
theorem zc_134 : zS 134 12 81 := zbq_of (by decide +kernel)
theorem zc_135 : zS 135 12 81 := zbq_of (by decide +kernel)
theorem zc_136 : zS 136 12 81 := zbq_of (by decide +kernel)
theorem zc_137 : zS 137 12 81 := zbq_of (by decide +kernel)
theorem zc_138 : zS 138 12 81 := zbq_of (by decide +kernel)
theorem zc_139 : zS 139 12 81 := zbq_of (by decide +kernel)
theorem zc_140 : zS 140 12 81 := zbq_of (by decide +kernel)
theorem zc_141 : zS 141 12 81 := zbq_of (by decide +kernel)
theorem zc_142 : zS 142 12 81 := zbq_of (by decide +kernel)
theorem zc_143 : zS 143 12 81 := zbq_of (by decide +kernel)
theorem zc_144 : zS 144 12 81 := zbq_of (by decide +kernel)
theorem zc_145 : zS 145 12 81 := zbq_of (by decide +kernel)
theorem zc_146 : zS 146 12 81 := zbq_of (by decide +kernel)
theorem zc_147 : zS 147 12 81 := zbq_of (by decide +kernel)
theorem zc_148 : zS 148 12 81 := zbq_of (by decide +kernel)
theorem zc_149 : zS 149 12 81 := zbq_of (by decide +kernel)
theorem zc_150 : zS 150 12 81 := zbq_of (by decide +kernel)
theorem zc_151 : zS 151 12 81 := zbq_of (by decide +kernel)
theorem zc_152 : zS 152 12 81 := zbq_of (by decide +kernel)
theorem zc_153 : zS 153 12 81 := zbq_of (by decide +kernel)
theorem zc_154 : zS 154 12 81 := zbq_of (by decide +kernel)
theorem zc_155 : zS 155 12 81 := zbq_of (by decide +kernel)
theorem zc_156 : zS 156 12 81 := zbq_of (by decide +kernel)
theorem zc_157 : zS 157 12 81 := zbq_of (by decide +kernel)
theorem zc_158 : zS 158 12 81 := zbq_of (by decide +kernel)
theorem zc_159 : zS 159 12 81 := zbq_of (by decide +kernel)
theorem zc_160 : zS 160 12 81 := zbq_of (by decide +kernel)
theorem zc_161 : zS 161 12 81 := zbq_of (by decide +kernel)
theorem zc_162 : zS 162 12 81 := zbq_of (by decide +kernel)
theorem zc_163 : zS 163 12 81 := zbq_of (by decide +kernel)
theorem zc_164 : zS 164 12 81 := zbq_of (by decide +kernel)
theorem zc_165 : zS 165 12 81 := zbq_of (by decide +kernel)
theorem zc_166 : zS 166 12 81 := zbq_of (by decide +kernel)
theorem zc_167 : zS 167 12 81 := zbq_of (by decide +kernel)
theorem zc_168 : zS 168 12 81 := zbq_of (by decide +kernel)
theorem zc_169 : zS 169 12 81 := zbq_of (by decide +kernel)
theorem zc_170 : zS 170 12 81 := zbq_of (by decide +kernel)
theorem zc_171 : zS 171 12 81 := zbq_of (by decide +kernel)
theorem zc_172 : zS 172 12 81 := zbq_of (by decide +kernel)
theorem zc_173 : zS 173 12 81 := zbq_of (by decide +kernel)
theorem zc_174 : zS 174 12 81 := zbq_of (by decide +kernel)
theorem zc_175 : zS 175 12 81 := zbq_of (by decide +kernel)
theorem zc_176 : zS 176 12 81 := zbq_of (by decide +kernel)
theorem zc_177 : zS 177 12 81 := zbq_of (by decide +kernel)
theorem zc_178 : zS 178 12 81 := zbq_of (by decide +kernel)
theorem zc_179 : zS 179 12 81 := zbq_of (by decide +kernel)
theorem zc_180 : zS 180 12 81 := zbq_of (by decide +kernel)
theorem zc_181 : zS 181 12 81 := zbq_of (by decide +kernel)
theorem zc_182 : zS 182 2 5 := zbq_of (by decide +kernel)
theorem zc_183 : zS 183 12 199 := zbq_of (by decide +kernel)
theorem zc_184 : zS 184 12 1592 := zbq_of (by decide +kernel)
theorem zc_185 : zS 185 12 9 := zbq_of (by decide +kernel)
theorem zc_186 : zS 186 12 199 := zbq_of (by decide +kernel)
theorem zc_187 : zS 187 12 199 := zbq_of (by decide +kernel)
theorem zc_188 : zS 188 8 4 := zbq_of (by decide +kernel)
theorem zc_189 : zS 189 12 100 := zbq_of (by decide +kernel)
theorem zc_190 : zS 190 5 3 := zbq_of (by decide +kernel)
theorem zc_191 : zS 191 12 100 := zbq_of (by decide +kernel)
theorem zc_192 : zS 192 12 400 := zbq_of (by decide +kernel)
theorem zc_193 : zS 193 4 3 := zbq_of (by decide +kernel)
theorem zc_194 : zS 194 3 2 := zbq_of (by decide +kernel)
theorem zc_195 : zS 195 12 81 := zbq_of (by decide +kernel)
theorem zc_196 : zS 196 12 648 := zbq_of (by decide +kernel)
theorem zc_197 : zS 197 15 4 := zbq_of (by decide +kernel)
theorem zc_198 : zS 198 12 80 := zbq_of (by decide +kernel)
theorem zc_199 : zS 199 12 80 := zbq_of (by decide +kernel)
theorem zc_200 : zS 200 12 80 := zbq_of (by decide +kernel)
theorem zc_201 : zS 201 12 80 := zbq_of (by decide +kernel)
theorem zc_202 : zS 202 12 4 := zbq_of (by decide +kernel)
theorem zc_203 : zS 203 11 50 := zbq_of (by decide +kernel)
theorem zc_204 : zS 204 12 6 := zbq_of (by decide +kernel)
theorem zc_205 : zS 205 12 6 := zbq_of (by decide +kernel)
theorem zc_206 : zS 206 12 480 := zbq_of (by decide +kernel)
theorem zc_207 : zS 207 12 81 := zbq_of (by decide +kernel)
theorem zc_208 : zS 208 12 664 := zbq_of (by decide +kernel)
theorem zc_209 : zS 209 12 80 := zbq_of (by decide +kernel)
theorem zc_210 : zS 210 12 80 := zbq_of (by decide +kernel)
theorem zc_211 : zS 211 12 80 := zbq_of (by decide +kernel)
theorem zc_212 : zS 212 12 720 := zbq_of (by decide +kernel)
theorem zc_213 : zS 213 12 720 := zbq_of (by decide +kernel)
theorem zc_214 : zS 214 12 80 := zbq_of (by decide +kernel)
theorem zc_215 : zS 215 12 6400 := zbq_of (by decide +kernel)
theorem zc_216 : zS 216 12 6480 := zbq_of (by decide +kernel)
theorem zc_217 : zS 217 12 80 := zbq_of (by decide +kernel)
theorem zc_218 : zS 218 12 81 := zbq_of (by decide +kernel)
theorem zc_219 : zS 219 12 81 := zbq_of (by decide +kernel)
theorem zc_220 : zS 220 12 9 := zbq_of (by decide +kernel)
theorem zc_221 : zS 221 12 8 := zbq_of (by decide +kernel)
theorem zc_222 : zS 222 12 200 := zbq_of (by decide +kernel)
theorem zc_223 : zS 223 12 100 := zbq_of (by decide +kernel)
theorem zc_224 : zS 224 12 47 := zbq_of (by decide +kernel)
theorem zc_225 : zS 225 12 9 := zbq_of (by decide +kernel)
theorem zc_226 : zS 226 12 500 := zbq_of (by decide +kernel)
theorem zc_227 : zS 227 12 81 := zbq_of (by decide +kernel)
theorem zc_228 : zS 228 12 729 := zbq_of (by decide +kernel)
theorem zc_229 : zS 229 12 4 := zbq_of (by decide +kernel)
theorem zc_230 : zS 230 12 320 := zbq_of (by decide +kernel)
theorem zc_231 : zS 231 12 6 := zbq_of (by decide +kernel)
theorem zc_232 : zS 232 12 6 := zbq_of (by decide +kernel)
theorem zc_233 : zS 233 12 480 := zbq_of (by decide +kernel)
theorem zc_234 : zS 234 12 81 := zbq_of (by decide +kernel)
theorem zc_235 : zS 235 12 664 := zbq_of (by decide +kernel)
theorem zcb_0 : zCB 0 RX0 TX0 5 := ⟨rfl, by decide, rfl, by decide +kernel, ⟨tyX0, tyX0_ok⟩, nmX0, zmems [98, 100, 102, 104, 106] (by decide +kernel) (by decide +kernel)⟩
theorem zcb_1 : zCB 1 RX1 TX1 10 := ⟨rfl, by decide, rfl, by decide +kernel, ⟨tyX1, tyX1_ok⟩, nmX1, zmems [184, 186, 188, 190, 192, 194, 196, 198, 200, 202] (by decide +kernel) (by decide +kernel)⟩
theorem zcb_2 : zCB 2 RX2 TX2 5 := ⟨rfl, by decide, rfl, by decide +kernel, ⟨tyX2, tyX2_ok⟩, nmX2, zmems [219, 221, 223, 225, 227] (by decide +kernel) (by decide +kernel)⟩
theorem zcb_3 : zCB 3 RX3 TX3 2 := ⟨rfl, by decide, rfl, by decide +kernel, ⟨tyX3, tyX3_ok⟩, nmX3, zmems [54, 56] (by decide +kernel) (by decide +kernel)⟩
theorem zcb_4 : zCB 4 RX4 TX4 3 := ⟨rfl, by decide, rfl, by decide +kernel, ⟨tyX4, tyX4_ok⟩, nmX4, zmems [286, 288, 290] (by decide +kernel) (by decide +kernel)⟩
theorem zcb_5 : zCB 5 RX5 TX5 3 := ⟨rfl, by decide, rfl, by decide +kernel, ⟨tyX5, tyX5_ok⟩, nmX5, zmems [265, 267, 269] (by decide +kernel) (by decide +kernel)⟩
theorem zcb_6 : zCB 6 RX6 TX6 3 := ⟨rfl, by decide, rfl, by decide +kernel, ⟨tyX6, tyX6_ok⟩, nmX6, zmems [79, 81, 83] (by decide +kernel) (by decide +kernel)⟩
theorem zcb_7 : zCB 7 RX7 TX7 4 := ⟨rfl, by decide, rfl, by decide +kernel, ⟨tyX7, tyX7_ok⟩, nmX7, zmems [119, 121, 123, 125] (by decide +kernel) (by decide +kernel)⟩
theorem zcb_8 : zCB 8 RX8 TX8 4 := ⟨rfl, by decide, rfl, by decide +kernel, ⟨tyX8, tyX8_ok⟩, nmX8, zmems [245, 247, 249, 251] (by decide +kernel) (by decide +kernel)⟩
theorem zcb_9 : zCB 9 RX9 TX9 9 := ⟨rfl, by decide, rfl, by decide +kernel, ⟨tyX9, tyX9_ok⟩, nmX9, zmems [148, 150, 152, 154, 156, 158, 160, 162, 164] (by decide +kernel) (by decide +kernel)⟩
theorem zcb_10 : zCB 10 RX10 TX10 12 := ⟨rfl, by decide, rfl, by decide +kernel, ⟨tyX10, tyX10_ok⟩, nmX10, zmems [307, 309, 311, 313, 315, 317, 319, 321, 323, 325, 327, 329] (by decide +kernel) (by decide +kernel)⟩
theorem zcb_11 : zCB 11 RX11 TX11 50 := ⟨rfl, by decide, rfl, by decide +kernel, ⟨tyX11, tyX11_ok⟩, nmX11, zmems [1017, 1019, 1021, 1023, 1025, 1027, 1029, 1031, 1033, 1035, 1037, 1039, 1041, 1043, 1045, 1047, 1049, 1051, 1053, 1055, 1057, 1059, 1061, 1063, 1065, 1067, 1069, 1071, 1073, 1075, 1077, 1079, 1081, 1083, 1085, 1087, 1089, 1091, 1093, 1095, 1097, 1099, 1101, 1103, 1105, 1107, 1109, 1111, 1113, 1115] (by decide +kernel) (by decide +kernel)⟩
theorem zf_10_14 : zFL RX10 14 10 0 (.object "LevelEquations$Contents") true := ⟨_, _, _, zcb_10, by decide, rfl, by decide +kernel, zmem_2 55 (by decide +kernel) rfl⟩
theorem zf_10_18 : zFL RX10 18 10 1 (.object "LevelEquations$Contents") true := ⟨_, _, _, zcb_10, by decide, rfl, by decide +kernel, zmem_2 56 (by decide +kernel) rfl⟩
theorem zf_10_24 : zFL RX10 24 10 3 (.object "LevelEquations$SeriesMath") true := ⟨_, _, _, zcb_10, by decide, rfl, by decide +kernel, zmem_2 58 (by decide +kernel) rfl⟩
theorem zf_10_31 : zFL RX10 31 10 4 (.object "LevelEquations$Vanishing") true := ⟨_, _, _, zcb_10, by decide, rfl, by decide +kernel, zmem_2 59 (by decide +kernel) rfl⟩
theorem zf_10_38 : zFL RX10 38 10 5 (.object "LevelEquations$Finder") true := ⟨_, _, _, zcb_10, by decide, rfl, by decide +kernel, zmem_2 60 (by decide +kernel) rfl⟩
theorem zf_10_45 : zFL RX10 45 10 6 (.object "LevelEquations$Graph") true := ⟨_, _, _, zcb_10, by decide, rfl, by decide +kernel, zmem_2 61 (by decide +kernel) rfl⟩
theorem zf_10_52 : zFL RX10 52 10 7 (.object "LevelEquations$Tape") true := ⟨_, _, _, zcb_10, by decide, rfl, by decide +kernel, zmem_2 62 (by decide +kernel) rfl⟩
theorem zf_10_59 : zFL RX10 59 10 8 (.object "LevelEquations$Program") true := ⟨_, _, _, zcb_10, by decide, rfl, by decide +kernel, zmem_2 63 (by decide +kernel) rfl⟩
theorem zf_10_66 : zFL RX10 66 10 9 (.object "LevelEquations$PolynomialText") true := ⟨_, _, _, zcb_10, by decide, rfl, by decide +kernel, zmem_2 64 (by decide +kernel) rfl⟩
theorem zf_10_72 : zFL RX10 72 10 10 (.array (.array .int)) true := ⟨_, _, _, zcb_10, by decide, rfl, by decide +kernel, zmem_2 65 (by decide +kernel) rfl⟩
theorem zf_10_75 : zFL RX10 75 10 11 (.array .int) true := ⟨_, _, _, zcb_10, by decide, rfl, by decide +kernel, zmem_2 66 (by decide +kernel) rfl⟩
theorem zf_10_89 : zFL RX10 89 0 0 .int false := ⟨_, _, _, zcb_0, by decide, rfl, by decide +kernel, zmem_1 87 (by decide +kernel) rfl⟩
theorem zf_10_103 : zFL RX10 103 0 1 (.array (.object "LevelEquations$Series")) true := ⟨_, _, _, zcb_0, by decide, rfl, by decide +kernel, zmem_1 90 (by decide +kernel) rfl⟩
theorem zf_10_131 : zFL RX10 131 6 2 .int false := ⟨_, _, _, zcb_6, by decide, rfl, by decide +kernel, zmem_1 78 (by decide +kernel) rfl⟩
theorem zf_10_134 : zFL RX10 134 6 1 .int false := ⟨_, _, _, zcb_6, by decide, rfl, by decide +kernel, zmem_1 73 (by decide +kernel) rfl⟩
theorem zf_10_144 : zFL RX10 144 6 0 (.array .int) true := ⟨_, _, _, zcb_6, by decide, rfl, by decide +kernel, zmem_1 69 (by decide +kernel) rfl⟩
theorem zf_10_174 : zFL RX10 174 0 2 (.object "LevelEquations$Polynomial") true := ⟨_, _, _, zcb_0, by decide, rfl, by decide +kernel, zmem_1 93 (by decide +kernel) rfl⟩
theorem zf_10_185 : zFL RX10 185 3 1 .int false := ⟨_, _, _, zcb_3, by decide, rfl, by decide +kernel, zmem_1 53 (by decide +kernel) rfl⟩
theorem zf_10_201 : zFL RX10 201 3 0 (.array .int) true := ⟨_, _, _, zcb_3, by decide, rfl, by decide +kernel, zmem_1 47 (by decide +kernel) rfl⟩
theorem zf_10_249 : zFL RX10 249 0 3 (.array (.object "LevelEquations$Polynomial")) true := ⟨_, _, _, zcb_0, by decide, rfl, by decide +kernel, zmem_1 95 (by decide +kernel) rfl⟩
theorem zf_10_256 : zFL RX10 256 0 4 (.array .int) true := ⟨_, _, _, zcb_0, by decide, rfl, by decide +kernel, zmem_1 97 (by decide +kernel) rfl⟩
theorem zf_10_275 : zFL RX10 275 8 1 .int false := ⟨_, _, _, zcb_8, by decide, rfl, by decide +kernel, zmem_1 238 (by decide +kernel) rfl⟩
theorem zf_10_283 : zFL RX10 283 8 2 .int false := ⟨_, _, _, zcb_8, by decide, rfl, by decide +kernel, zmem_2 1 (by decide +kernel) rfl⟩
theorem zf_10_289 : zFL RX10 289 5 2 .int false := ⟨_, _, _, zcb_5, by decide, rfl, by decide +kernel, zmem_2 24 (by decide +kernel) rfl⟩
theorem zf_10_298 : zFL RX10 298 5 0 (.array .int) true := ⟨_, _, _, zcb_5, by decide, rfl, by decide +kernel, zmem_2 21 (by decide +kernel) rfl⟩
theorem zf_10_332 : zFL RX10 332 4 0 (.object "LevelEquations$Polynomial") true := ⟨_, _, _, zcb_4, by decide, rfl, by decide +kernel, zmem_2 41 (by decide +kernel) rfl⟩
theorem zf_10_338 : zFL RX10 338 4 2 .int false := ⟨_, _, _, zcb_4, by decide, rfl, by decide +kernel, zmem_2 45 (by decide +kernel) rfl⟩
theorem zf_10_341 : zFL RX10 341 4 1 (.array .int) true := ⟨_, _, _, zcb_4, by decide, rfl, by decide +kernel, zmem_2 43 (by decide +kernel) rfl⟩
theorem zf_10_358 : zFL RX10 358 10 2 .boolean false := ⟨_, _, _, zcb_10, by decide, rfl, by decide +kernel, zmem_2 57 (by decide +kernel) rfl⟩
theorem zf_0_9 : zFL RX0 9 0 0 .int false := ⟨_, _, _, zcb_0, by decide, rfl, by decide +kernel, zmem_1 86 (by decide +kernel) rfl⟩
theorem zf_0_17 : zFL RX0 17 0 1 (.array (.object "LevelEquations$Series")) true := ⟨_, _, _, zcb_0, by decide, rfl, by decide +kernel, zmem_1 89 (by decide +kernel) rfl⟩
theorem zf_0_24 : zFL RX0 24 0 2 (.object "LevelEquations$Polynomial") true := ⟨_, _, _, zcb_0, by decide, rfl, by decide +kernel, zmem_1 91 (by decide +kernel) rfl⟩
theorem zf_0_28 : zFL RX0 28 0 3 (.array (.object "LevelEquations$Polynomial")) true := ⟨_, _, _, zcb_0, by decide, rfl, by decide +kernel, zmem_1 94 (by decide +kernel) rfl⟩
theorem zf_0_32 : zFL RX0 32 0 4 (.array .int) true := ⟨_, _, _, zcb_0, by decide, rfl, by decide +kernel, zmem_1 96 (by decide +kernel) rfl⟩
theorem zf_0_37 : zFL RX0 37 3 1 .int false := ⟨_, _, _, zcb_3, by decide, rfl, by decide +kernel, zmem_1 49 (by decide +kernel) rfl⟩
theorem zf_0_40 : zFL RX0 40 6 2 .int false := ⟨_, _, _, zcb_6, by decide, rfl, by decide +kernel, zmem_1 75 (by decide +kernel) rfl⟩
theorem zf_0_55 : zFL RX0 55 3 0 (.array .int) true := ⟨_, _, _, zcb_3, by decide, rfl, by decide +kernel, zmem_1 45 (by decide +kernel) rfl⟩
theorem zf_1_11 : zFL RX1 11 1 0 (.array (.array .int)) true := ⟨_, _, _, zcb_1, by decide, rfl, by decide +kernel, zmem_1 174 (by decide +kernel) rfl⟩
theorem zf_1_16 : zFL RX1 16 1 1 (.array .int) true := ⟨_, _, _, zcb_1, by decide, rfl, by decide +kernel, zmem_1 175 (by decide +kernel) rfl⟩
theorem zf_1_20 : zFL RX1 20 1 2 (.array .int) true := ⟨_, _, _, zcb_1, by decide, rfl, by decide +kernel, zmem_1 176 (by decide +kernel) rfl⟩
theorem zf_1_23 : zFL RX1 23 1 3 (.array .int) true := ⟨_, _, _, zcb_1, by decide, rfl, by decide +kernel, zmem_1 177 (by decide +kernel) rfl⟩
theorem zf_1_26 : zFL RX1 26 1 4 .int false := ⟨_, _, _, zcb_1, by decide, rfl, by decide +kernel, zmem_1 178 (by decide +kernel) rfl⟩
theorem zf_1_30 : zFL RX1 30 1 5 .boolean false := ⟨_, _, _, zcb_1, by decide, rfl, by decide +kernel, zmem_1 179 (by decide +kernel) rfl⟩
theorem zf_1_34 : zFL RX1 34 9 7 .int false := ⟨_, _, _, zcb_9, by decide, rfl, by decide +kernel, zmem_1 144 (by decide +kernel) rfl⟩
theorem zf_1_39 : zFL RX1 39 1 7 .int false := ⟨_, _, _, zcb_1, by decide, rfl, by decide +kernel, zmem_1 181 (by decide +kernel) rfl⟩
theorem zf_1_42 : zFL RX1 42 9 8 .int false := ⟨_, _, _, zcb_9, by decide, rfl, by decide +kernel, zmem_1 146 (by decide +kernel) rfl⟩
theorem zf_1_45 : zFL RX1 45 1 9 .int false := ⟨_, _, _, zcb_1, by decide, rfl, by decide +kernel, zmem_1 183 (by decide +kernel) rfl⟩
theorem zf_1_52 : zFL RX1 52 1 6 .int false := ⟨_, _, _, zcb_1, by decide, rfl, by decide +kernel, zmem_1 180 (by decide +kernel) rfl⟩
theorem zf_1_73 : zFL RX1 73 9 2 (.array .int) true := ⟨_, _, _, zcb_9, by decide, rfl, by decide +kernel, zmem_1 139 (by decide +kernel) rfl⟩
theorem zf_1_76 : zFL RX1 76 1 8 .int false := ⟨_, _, _, zcb_1, by decide, rfl, by decide +kernel, zmem_1 182 (by decide +kernel) rfl⟩
theorem zf_1_110 : zFL RX1 110 3 0 (.array .int) true := ⟨_, _, _, zcb_3, by decide, rfl, by decide +kernel, zmem_1 46 (by decide +kernel) rfl⟩
theorem zf_2_9 : zFL RX2 9 2 0 (.array .int) true := ⟨_, _, _, zcb_2, by decide, rfl, by decide +kernel, zmem_1 214 (by decide +kernel) rfl⟩
theorem zf_2_15 : zFL RX2 15 2 1 (.array .int) true := ⟨_, _, _, zcb_2, by decide, rfl, by decide +kernel, zmem_1 215 (by decide +kernel) rfl⟩
theorem zf_2_18 : zFL RX2 18 2 2 (.array .int) true := ⟨_, _, _, zcb_2, by decide, rfl, by decide +kernel, zmem_1 216 (by decide +kernel) rfl⟩
theorem zf_2_21 : zFL RX2 21 2 3 (.array .int) true := ⟨_, _, _, zcb_2, by decide, rfl, by decide +kernel, zmem_1 217 (by decide +kernel) rfl⟩
theorem zf_2_24 : zFL RX2 24 2 4 (.array .int) true := ⟨_, _, _, zcb_2, by decide, rfl, by decide +kernel, zmem_1 218 (by decide +kernel) rfl⟩
theorem zf_2_43 : zFL RX2 43 0 2 (.object "LevelEquations$Polynomial") true := ⟨_, _, _, zcb_0, by decide, rfl, by decide +kernel, zmem_1 92 (by decide +kernel) rfl⟩
theorem zf_2_49 : zFL RX2 49 0 0 .int false := ⟨_, _, _, zcb_0, by decide, rfl, by decide +kernel, zmem_1 88 (by decide +kernel) rfl⟩
theorem zf_2_68 : zFL RX2 68 3 1 .int false := ⟨_, _, _, zcb_3, by decide, rfl, by decide +kernel, zmem_1 52 (by decide +kernel) rfl⟩
theorem zf_3_9 : zFL RX3 9 3 0 (.array .int) true := ⟨_, _, _, zcb_3, by decide, rfl, by decide +kernel, zmem_1 42 (by decide +kernel) rfl⟩
theorem zf_3_15 : zFL RX3 15 3 1 .int false := ⟨_, _, _, zcb_3, by decide, rfl, by decide +kernel, zmem_1 48 (by decide +kernel) rfl⟩
theorem zf_4_12 : zFL RX4 12 4 0 (.object "LevelEquations$Polynomial") true := ⟨_, _, _, zcb_4, by decide, rfl, by decide +kernel, zmem_2 40 (by decide +kernel) rfl⟩
theorem zf_4_18 : zFL RX4 18 4 1 (.array .int) true := ⟨_, _, _, zcb_4, by decide, rfl, by decide +kernel, zmem_2 42 (by decide +kernel) rfl⟩
theorem zf_4_46 : zFL RX4 46 8 3 .int false := ⟨_, _, _, zcb_8, by decide, rfl, by decide +kernel, zmem_2 2 (by decide +kernel) rfl⟩
theorem zf_4_53 : zFL RX4 53 3 0 (.array .int) true := ⟨_, _, _, zcb_3, by decide, rfl, by decide +kernel, zmem_1 43 (by decide +kernel) rfl⟩
theorem zf_4_56 : zFL RX4 56 3 1 .int false := ⟨_, _, _, zcb_3, by decide, rfl, by decide +kernel, zmem_1 50 (by decide +kernel) rfl⟩
theorem zf_4_65 : zFL RX4 65 4 2 .int false := ⟨_, _, _, zcb_4, by decide, rfl, by decide +kernel, zmem_2 44 (by decide +kernel) rfl⟩
theorem zf_5_9 : zFL RX5 9 5 0 (.array .int) true := ⟨_, _, _, zcb_5, by decide, rfl, by decide +kernel, zmem_2 20 (by decide +kernel) rfl⟩
theorem zf_5_15 : zFL RX5 15 5 1 (.array .int) true := ⟨_, _, _, zcb_5, by decide, rfl, by decide +kernel, zmem_2 22 (by decide +kernel) rfl⟩
theorem zf_5_23 : zFL RX5 23 5 2 .int false := ⟨_, _, _, zcb_5, by decide, rfl, by decide +kernel, zmem_2 23 (by decide +kernel) rfl⟩
theorem zf_5_47 : zFL RX5 47 8 2 .int false := ⟨_, _, _, zcb_8, by decide, rfl, by decide +kernel, zmem_2 0 (by decide +kernel) rfl⟩
theorem zf_5_57 : zFL RX5 57 8 3 .int false := ⟨_, _, _, zcb_8, by decide, rfl, by decide +kernel, zmem_2 3 (by decide +kernel) rfl⟩
theorem zf_6_9 : zFL RX6 9 6 0 (.array .int) true := ⟨_, _, _, zcb_6, by decide, rfl, by decide +kernel, zmem_1 66 (by decide +kernel) rfl⟩
theorem zf_6_15 : zFL RX6 15 6 1 .int false := ⟨_, _, _, zcb_6, by decide, rfl, by decide +kernel, zmem_1 70 (by decide +kernel) rfl⟩
theorem zf_6_19 : zFL RX6 19 6 2 .int false := ⟨_, _, _, zcb_6, by decide, rfl, by decide +kernel, zmem_1 74 (by decide +kernel) rfl⟩
theorem zf_7_9 : zFL RX7 9 7 0 (.array .int) true := ⟨_, _, _, zcb_7, by decide, rfl, by decide +kernel, zmem_1 115 (by decide +kernel) rfl⟩
theorem zf_7_15 : zFL RX7 15 7 1 (.array .int) true := ⟨_, _, _, zcb_7, by decide, rfl, by decide +kernel, zmem_1 116 (by decide +kernel) rfl⟩
theorem zf_7_18 : zFL RX7 18 7 2 (.array .int) true := ⟨_, _, _, zcb_7, by decide, rfl, by decide +kernel, zmem_1 117 (by decide +kernel) rfl⟩
theorem zf_7_21 : zFL RX7 21 7 3 (.array .int) true := ⟨_, _, _, zcb_7, by decide, rfl, by decide +kernel, zmem_1 118 (by decide +kernel) rfl⟩
theorem zf_7_36 : zFL RX7 36 6 1 .int false := ⟨_, _, _, zcb_6, by decide, rfl, by decide +kernel, zmem_1 72 (by decide +kernel) rfl⟩
theorem zf_7_51 : zFL RX7 51 6 2 .int false := ⟨_, _, _, zcb_6, by decide, rfl, by decide +kernel, zmem_1 77 (by decide +kernel) rfl⟩
theorem zf_7_54 : zFL RX7 54 6 0 (.array .int) true := ⟨_, _, _, zcb_6, by decide, rfl, by decide +kernel, zmem_1 68 (by decide +kernel) rfl⟩
theorem zf_8_9 : zFL RX8 9 8 0 (.array .int) true := ⟨_, _, _, zcb_8, by decide, rfl, by decide +kernel, zmem_1 236 (by decide +kernel) rfl⟩
theorem zf_8_15 : zFL RX8 15 8 1 .int false := ⟨_, _, _, zcb_8, by decide, rfl, by decide +kernel, zmem_1 237 (by decide +kernel) rfl⟩
theorem zf_8_19 : zFL RX8 19 8 2 .int false := ⟨_, _, _, zcb_8, by decide, rfl, by decide +kernel, zmem_1 239 (by decide +kernel) rfl⟩
theorem zf_8_22 : zFL RX8 22 8 3 .int false := ⟨_, _, _, zcb_8, by decide, rfl, by decide +kernel, zmem_2 4 (by decide +kernel) rfl⟩
theorem zf_9_11 : zFL RX9 11 9 0 (.array (.array .int)) true := ⟨_, _, _, zcb_9, by decide, rfl, by decide +kernel, zmem_1 136 (by decide +kernel) rfl⟩
theorem zf_9_16 : zFL RX9 16 9 1 (.array (.array .int)) true := ⟨_, _, _, zcb_9, by decide, rfl, by decide +kernel, zmem_1 137 (by decide +kernel) rfl⟩
theorem zf_9_19 : zFL RX9 19 9 2 (.array .int) true := ⟨_, _, _, zcb_9, by decide, rfl, by decide +kernel, zmem_1 138 (by decide +kernel) rfl⟩
theorem zf_9_23 : zFL RX9 23 9 3 (.array .int) true := ⟨_, _, _, zcb_9, by decide, rfl, by decide +kernel, zmem_1 140 (by decide +kernel) rfl⟩
theorem zf_9_26 : zFL RX9 26 6 1 .int false := ⟨_, _, _, zcb_6, by decide, rfl, by decide +kernel, zmem_1 71 (by decide +kernel) rfl⟩
theorem zf_9_32 : zFL RX9 32 9 4 .int false := ⟨_, _, _, zcb_9, by decide, rfl, by decide +kernel, zmem_1 141 (by decide +kernel) rfl⟩
theorem zf_9_35 : zFL RX9 35 9 5 .int false := ⟨_, _, _, zcb_9, by decide, rfl, by decide +kernel, zmem_1 142 (by decide +kernel) rfl⟩
theorem zf_9_44 : zFL RX9 44 9 6 .int false := ⟨_, _, _, zcb_9, by decide, rfl, by decide +kernel, zmem_1 143 (by decide +kernel) rfl⟩
theorem zf_9_47 : zFL RX9 47 6 2 .int false := ⟨_, _, _, zcb_6, by decide, rfl, by decide +kernel, zmem_1 76 (by decide +kernel) rfl⟩
theorem zf_9_50 : zFL RX9 50 9 7 .int false := ⟨_, _, _, zcb_9, by decide, rfl, by decide +kernel, zmem_1 145 (by decide +kernel) rfl⟩
theorem zf_9_51 : zFL RX9 51 9 8 .int false := ⟨_, _, _, zcb_9, by decide, rfl, by decide +kernel, zmem_1 147 (by decide +kernel) rfl⟩
theorem zf_9_54 : zFL RX9 54 6 0 (.array .int) true := ⟨_, _, _, zcb_6, by decide, rfl, by decide +kernel, zmem_1 67 (by decide +kernel) rfl⟩
theorem zf_9_71 : zFL RX9 71 3 1 .int false := ⟨_, _, _, zcb_3, by decide, rfl, by decide +kernel, zmem_1 51 (by decide +kernel) rfl⟩
theorem zf_9_76 : zFL RX9 76 3 0 (.array .int) true := ⟨_, _, _, zcb_3, by decide, rfl, by decide +kernel, zmem_1 44 (by decide +kernel) rfl⟩
theorem zf_11_9 : zFL RX11 9 11 0 .int false := ⟨_, _, _, zcb_11, by decide, rfl, by decide +kernel, zmem_5 7 (by decide +kernel) rfl⟩
theorem zf_11_15 : zFL RX11 15 11 1 (.array .int) true := ⟨_, _, _, zcb_11, by decide, rfl, by decide +kernel, zmem_5 8 (by decide +kernel) rfl⟩
theorem zf_11_19 : zFL RX11 19 11 2 (.array .int) true := ⟨_, _, _, zcb_11, by decide, rfl, by decide +kernel, zmem_5 9 (by decide +kernel) rfl⟩
theorem zf_11_22 : zFL RX11 22 11 3 (.array .int) true := ⟨_, _, _, zcb_11, by decide, rfl, by decide +kernel, zmem_5 10 (by decide +kernel) rfl⟩
theorem zf_11_25 : zFL RX11 25 11 5 (.array .int) true := ⟨_, _, _, zcb_11, by decide, rfl, by decide +kernel, zmem_5 12 (by decide +kernel) rfl⟩
theorem zf_11_28 : zFL RX11 28 11 6 (.array .int) true := ⟨_, _, _, zcb_11, by decide, rfl, by decide +kernel, zmem_5 13 (by decide +kernel) rfl⟩
theorem zf_11_31 : zFL RX11 31 11 9 (.array .int) true := ⟨_, _, _, zcb_11, by decide, rfl, by decide +kernel, zmem_5 16 (by decide +kernel) rfl⟩
theorem zf_11_34 : zFL RX11 34 11 10 (.array .int) true := ⟨_, _, _, zcb_11, by decide, rfl, by decide +kernel, zmem_5 17 (by decide +kernel) rfl⟩
theorem zf_11_37 : zFL RX11 37 11 11 (.array .int) true := ⟨_, _, _, zcb_11, by decide, rfl, by decide +kernel, zmem_5 18 (by decide +kernel) rfl⟩
theorem zf_11_40 : zFL RX11 40 11 12 (.array .int) true := ⟨_, _, _, zcb_11, by decide, rfl, by decide +kernel, zmem_5 19 (by decide +kernel) rfl⟩
theorem zf_11_43 : zFL RX11 43 11 13 (.array .int) true := ⟨_, _, _, zcb_11, by decide, rfl, by decide +kernel, zmem_5 20 (by decide +kernel) rfl⟩
theorem zf_11_46 : zFL RX11 46 11 18 (.array .int) true := ⟨_, _, _, zcb_11, by decide, rfl, by decide +kernel, zmem_5 25 (by decide +kernel) rfl⟩
theorem zf_11_49 : zFL RX11 49 11 19 (.array .int) true := ⟨_, _, _, zcb_11, by decide, rfl, by decide +kernel, zmem_5 26 (by decide +kernel) rfl⟩
theorem zf_11_52 : zFL RX11 52 11 20 (.array .int) true := ⟨_, _, _, zcb_11, by decide, rfl, by decide +kernel, zmem_5 27 (by decide +kernel) rfl⟩
theorem zf_11_55 : zFL RX11 55 11 21 (.array .int) true := ⟨_, _, _, zcb_11, by decide, rfl, by decide +kernel, zmem_5 28 (by decide +kernel) rfl⟩
theorem zf_11_58 : zFL RX11 58 11 23 (.array .int) true := ⟨_, _, _, zcb_11, by decide, rfl, by decide +kernel, zmem_5 30 (by decide +kernel) rfl⟩
theorem zf_11_61 : zFL RX11 61 11 25 (.array .int) true := ⟨_, _, _, zcb_11, by decide, rfl, by decide +kernel, zmem_5 32 (by decide +kernel) rfl⟩
theorem zf_11_64 : zFL RX11 64 11 26 (.array .int) true := ⟨_, _, _, zcb_11, by decide, rfl, by decide +kernel, zmem_5 33 (by decide +kernel) rfl⟩
theorem zf_11_67 : zFL RX11 67 11 27 (.array .int) true := ⟨_, _, _, zcb_11, by decide, rfl, by decide +kernel, zmem_5 34 (by decide +kernel) rfl⟩
theorem zf_11_70 : zFL RX11 70 11 29 (.array .int) true := ⟨_, _, _, zcb_11, by decide, rfl, by decide +kernel, zmem_5 36 (by decide +kernel) rfl⟩
theorem zf_11_73 : zFL RX11 73 11 30 (.array .int) true := ⟨_, _, _, zcb_11, by decide, rfl, by decide +kernel, zmem_5 37 (by decide +kernel) rfl⟩
theorem zf_11_76 : zFL RX11 76 11 33 (.array .int) true := ⟨_, _, _, zcb_11, by decide, rfl, by decide +kernel, zmem_5 40 (by decide +kernel) rfl⟩
theorem zf_11_79 : zFL RX11 79 11 34 (.array .int) true := ⟨_, _, _, zcb_11, by decide, rfl, by decide +kernel, zmem_5 41 (by decide +kernel) rfl⟩
theorem zf_11_82 : zFL RX11 82 11 35 (.array .int) true := ⟨_, _, _, zcb_11, by decide, rfl, by decide +kernel, zmem_5 42 (by decide +kernel) rfl⟩
theorem zf_11_85 : zFL RX11 85 11 36 (.array .int) true := ⟨_, _, _, zcb_11, by decide, rfl, by decide +kernel, zmem_5 43 (by decide +kernel) rfl⟩
theorem zf_11_88 : zFL RX11 88 11 38 (.array .int) true := ⟨_, _, _, zcb_11, by decide, rfl, by decide +kernel, zmem_5 45 (by decide +kernel) rfl⟩
theorem zf_11_91 : zFL RX11 91 11 40 (.array .int) true := ⟨_, _, _, zcb_11, by decide, rfl, by decide +kernel, zmem_5 47 (by decide +kernel) rfl⟩
theorem zf_11_94 : zFL RX11 94 11 41 (.array .int) true := ⟨_, _, _, zcb_11, by decide, rfl, by decide +kernel, zmem_5 48 (by decide +kernel) rfl⟩
theorem zf_11_97 : zFL RX11 97 11 45 (.array .int) true := ⟨_, _, _, zcb_11, by decide, rfl, by decide +kernel, zmem_5 52 (by decide +kernel) rfl⟩
theorem zf_11_100 : zFL RX11 100 11 46 (.array .int) true := ⟨_, _, _, zcb_11, by decide, rfl, by decide +kernel, zmem_5 53 (by decide +kernel) rfl⟩
theorem zf_11_103 : zFL RX11 103 11 47 (.array .int) true := ⟨_, _, _, zcb_11, by decide, rfl, by decide +kernel, zmem_5 54 (by decide +kernel) rfl⟩
theorem zf_11_106 : zFL RX11 106 11 48 (.array .int) true := ⟨_, _, _, zcb_11, by decide, rfl, by decide +kernel, zmem_5 55 (by decide +kernel) rfl⟩
theorem zf_11_109 : zFL RX11 109 11 49 (.array .int) true := ⟨_, _, _, zcb_11, by decide, rfl, by decide +kernel, zmem_5 56 (by decide +kernel) rfl⟩
theorem zf_11_128 : zFL RX11 128 11 4 .int false := ⟨_, _, _, zcb_11, by decide, rfl, by decide +kernel, zmem_5 11 (by decide +kernel) rfl⟩
theorem zf_11_131 : zFL RX11 131 11 7 .int false := ⟨_, _, _, zcb_11, by decide, rfl, by decide +kernel, zmem_5 14 (by decide +kernel) rfl⟩
theorem zf_11_134 : zFL RX11 134 11 8 .int false := ⟨_, _, _, zcb_11, by decide, rfl, by decide +kernel, zmem_5 15 (by decide +kernel) rfl⟩
theorem zf_11_189 : zFL RX11 189 11 14 .int false := ⟨_, _, _, zcb_11, by decide, rfl, by decide +kernel, zmem_5 21 (by decide +kernel) rfl⟩
theorem zf_11_192 : zFL RX11 192 11 16 .int false := ⟨_, _, _, zcb_11, by decide, rfl, by decide +kernel, zmem_5 23 (by decide +kernel) rfl⟩
theorem zf_11_195 : zFL RX11 195 11 17 .int false := ⟨_, _, _, zcb_11, by decide, rfl, by decide +kernel, zmem_5 24 (by decide +kernel) rfl⟩
theorem zf_11_198 : zFL RX11 198 11 15 .int false := ⟨_, _, _, zcb_11, by decide, rfl, by decide +kernel, zmem_5 22 (by decide +kernel) rfl⟩
theorem zf_11_201 : zFL RX11 201 11 22 .int false := ⟨_, _, _, zcb_11, by decide, rfl, by decide +kernel, zmem_5 29 (by decide +kernel) rfl⟩
theorem zf_11_226 : zFL RX11 226 11 24 .int false := ⟨_, _, _, zcb_11, by decide, rfl, by decide +kernel, zmem_5 31 (by decide +kernel) rfl⟩
theorem zf_11_252 : zFL RX11 252 11 28 .int false := ⟨_, _, _, zcb_11, by decide, rfl, by decide +kernel, zmem_5 35 (by decide +kernel) rfl⟩
theorem zf_11_282 : zFL RX11 282 11 31 .int false := ⟨_, _, _, zcb_11, by decide, rfl, by decide +kernel, zmem_5 38 (by decide +kernel) rfl⟩
theorem zf_11_285 : zFL RX11 285 11 32 .int false := ⟨_, _, _, zcb_11, by decide, rfl, by decide +kernel, zmem_5 39 (by decide +kernel) rfl⟩
theorem zf_11_349 : zFL RX11 349 11 37 .int false := ⟨_, _, _, zcb_11, by decide, rfl, by decide +kernel, zmem_5 44 (by decide +kernel) rfl⟩
theorem zf_11_358 : zFL RX11 358 11 39 .int false := ⟨_, _, _, zcb_11, by decide, rfl, by decide +kernel, zmem_5 46 (by decide +kernel) rfl⟩
theorem zf_11_374 : zFL RX11 374 11 42 .boolean false := ⟨_, _, _, zcb_11, by decide, rfl, by decide +kernel, zmem_5 49 (by decide +kernel) rfl⟩
theorem zf_11_378 : zFL RX11 378 11 43 .int false := ⟨_, _, _, zcb_11, by decide, rfl, by decide +kernel, zmem_5 50 (by decide +kernel) rfl⟩
theorem zf_11_381 : zFL RX11 381 11 44 .int false := ⟨_, _, _, zcb_11, by decide, rfl, by decide +kernel, zmem_5 51 (by decide +kernel) rfl⟩
abbrev zm_X10_init : zM := (yX10_init, cX10_init, 1, none, { frames := 3, cells := 202, slots := 15180, locals := 61 })
theorem zi_X10_init : zCal zm_X10_init 0 := ⟨zmem_1 1 (by decide +kernel) rfl, zmem_1 24 (by decide +kernel) rfl, by decide +kernel, by decide +kernel, by decide +kernel⟩
theorem zii_X10_init : Cond.instanceMethod yX10_init ∈ ztbl := zmem_1 23 (by decide +kernel) rfl
abbrev zm_X0_init : zM := (yX0_init, cX0_init, 2, none, { frames := 2, cells := 33, slots := 1267, locals := 40 })
theorem zi_X0_init : zCal zm_X0_init 0 := ⟨zmem_1 2 (by decide +kernel) rfl, zmem_1 32 (by decide +kernel) rfl, by decide +kernel, by decide +kernel, by decide +kernel⟩
theorem zii_X0_init : Cond.instanceMethod yX0_init ∈ ztbl := zmem_1 31 (by decide +kernel) rfl
abbrev zm_X3_init : zM := (yX3_init, cX3_init, 1, none, { frames := 1, cells := 1, slots := 81, locals := 20 })
theorem zi_X3_init : zCal zm_X3_init 0 := ⟨zmem_1 3 (by decide +kernel) rfl, zmem_1 40 (by decide +kernel) rfl, by decide +kernel, by decide +kernel, by decide +kernel⟩
theorem zii_X3_init : Cond.instanceMethod yX3_init ∈ ztbl := zmem_1 39 (by decide +kernel) rfl
abbrev zm_X6_init : zM := (yX6_init, cX6_init, 1, none, { frames := 1, cells := 1, slots := 80, locals := 20 })
theorem zi_X6_init : zCal zm_X6_init 0 := ⟨zmem_1 4 (by decide +kernel) rfl, zmem_1 64 (by decide +kernel) rfl, by decide +kernel, by decide +kernel, by decide +kernel⟩
theorem zii_X6_init : Cond.instanceMethod yX6_init ∈ ztbl := zmem_1 63 (by decide +kernel) rfl
abbrev zm_X7_init : zM := (yX7_init, cX7_init, 1, none, { frames := 1, cells := 4, slots := 320, locals := 20 })
theorem zi_X7_init : zCal zm_X7_init 0 := ⟨zmem_1 5 (by decide +kernel) rfl, zmem_1 113 (by decide +kernel) rfl, by decide +kernel, by decide +kernel, by decide +kernel⟩
theorem zii_X7_init : Cond.instanceMethod yX7_init ∈ ztbl := zmem_1 112 (by decide +kernel) rfl
abbrev zm_X9_init : zM := (yX9_init, cX9_init, 1, none, { frames := 1, cells := 22, slots := 1618, locals := 20 })
theorem zi_X9_init : zCal zm_X9_init 0 := ⟨zmem_1 6 (by decide +kernel) rfl, zmem_1 132 (by decide +kernel) rfl, by decide +kernel, by decide +kernel, by decide +kernel⟩
theorem zii_X9_init : Cond.instanceMethod yX9_init ∈ ztbl := zmem_1 131 (by decide +kernel) rfl
abbrev zm_X1_init : zM := (yX1_init, cX1_init, 1, none, { frames := 1, cells := 84, slots := 6803, locals := 20 })
theorem zi_X1_init : zCal zm_X1_init 0 := ⟨zmem_1 7 (by decide +kernel) rfl, zmem_1 171 (by decide +kernel) rfl, by decide +kernel, by decide +kernel, by decide +kernel⟩
theorem zii_X1_init : Cond.instanceMethod yX1_init ∈ ztbl := zmem_1 170 (by decide +kernel) rfl
abbrev zm_X2_init : zM := (yX2_init, cX2_init, 1, none, { frames := 1, cells := 5, slots := 2198, locals := 23 })
theorem zi_X2_init : zCal zm_X2_init 0 := ⟨zmem_1 8 (by decide +kernel) rfl, zmem_1 209 (by decide +kernel) rfl, by decide +kernel, by decide +kernel, by decide +kernel⟩
theorem zii_X2_init : Cond.instanceMethod yX2_init ∈ ztbl := zmem_1 208 (by decide +kernel) rfl
abbrev zm_J7_fill_53178 : zM := (yJ7_fill_53178, cJ7_fill_53178, 4, none, { frames := 0, cells := 0, slots := 0, locals := 0 })
theorem zi_J7_fill_53178 : zCal zm_J7_fill_53178 2 := ⟨zmem_1 9 (by decide +kernel) rfl, zmem_1 213 (by decide +kernel) rfl, by decide +kernel, by decide +kernel, by decide +kernel⟩
theorem zis_J7_fill_53178 : Cond.static yJ7_fill_53178 ∈ ztbl := zmem_1 212 (by decide +kernel) rfl
abbrev zm_X8_init : zM := (yX8_init, cX8_init, 1, none, { frames := 1, cells := 1, slots := 100, locals := 20 })
theorem zi_X8_init : zCal zm_X8_init 0 := ⟨zmem_1 10 (by decide +kernel) rfl, zmem_1 234 (by decide +kernel) rfl, by decide +kernel, by decide +kernel, by decide +kernel⟩
theorem zii_X8_init : Cond.instanceMethod yX8_init ∈ ztbl := zmem_1 233 (by decide +kernel) rfl
abbrev zm_X5_init : zM := (yX5_init, cX5_init, 1, none, { frames := 1, cells := 2, slots := 500, locals := 20 })
theorem zi_X5_init : zCal zm_X5_init 0 := ⟨zmem_1 11 (by decide +kernel) rfl, zmem_2 18 (by decide +kernel) rfl, by decide +kernel, by decide +kernel, by decide +kernel⟩
theorem zii_X5_init : Cond.instanceMethod yX5_init ∈ ztbl := zmem_2 17 (by decide +kernel) rfl
abbrev zm_X4_init : zM := (yX4_init, cX4_init, 1, none, { frames := 2, cells := 3, slots := 731, locals := 40 })
theorem zi_X4_init : zCal zm_X4_init 0 := ⟨zmem_1 12 (by decide +kernel) rfl, zmem_2 36 (by decide +kernel) rfl, by decide +kernel, by decide +kernel, by decide +kernel⟩
theorem zii_X4_init : Cond.instanceMethod yX4_init ∈ ztbl := zmem_2 35 (by decide +kernel) rfl
abbrev zm_X10_prime : zM := (yX10_prime, cX10_prime, 3, (some .int), { frames := 2, cells := 0, slots := 0, locals := 43 })
theorem zi_X10_prime : zCal zm_X10_prime 1 := ⟨zmem_1 1 (by decide +kernel) rfl, zmem_2 95 (by decide +kernel) rfl, by decide +kernel, by decide +kernel, by decide +kernel⟩
theorem zii_X10_prime : Cond.instanceMethod yX10_prime ∈ ztbl := zmem_2 93 (by decide +kernel) rfl
theorem zie_X10_prime : Cond.selects zm_X10_prime.1.cls yX10_prime yX10_prime ∈ ztbl := zmem_2 94 (by decide +kernel) rfl
abbrev zm_X10_isModulus : zM := (yX10_isModulus, cX10_isModulus, 2, (some .boolean), { frames := 0, cells := 0, slots := 0, locals := 0 })
theorem zi_X10_isModulus : zCal zm_X10_isModulus 1 := ⟨zmem_1 1 (by decide +kernel) rfl, zmem_2 98 (by decide +kernel) rfl, by decide +kernel, by decide +kernel, by decide +kernel⟩
theorem zis_X10_isModulus : Cond.static yX10_isModulus ∈ ztbl := zmem_2 97 (by decide +kernel) rfl
abbrev zm_X0_startAnew : zM := (yX0_startAnew, cX0_startAnew, 3, none, { frames := 0, cells := 0, slots := 0, locals := 0 })
theorem zi_X0_startAnew : zCal zm_X0_startAnew 1 := ⟨zmem_1 2 (by decide +kernel) rfl, zmem_2 102 (by decide +kernel) rfl, by decide +kernel, by decide +kernel, by decide +kernel⟩
theorem zii_X0_startAnew : Cond.instanceMethod yX0_startAnew ∈ ztbl := zmem_2 100 (by decide +kernel) rfl
theorem zie_X0_startAnew : Cond.selects zm_X0_startAnew.1.cls yX0_startAnew yX0_startAnew ∈ ztbl := zmem_2 101 (by decide +kernel) rfl
abbrev zm_X2_forget : zM := (yX2_forget, cX2_forget, 1, none, { frames := 1, cells := 0, slots := 0, locals := 23 })
theorem zi_X2_forget : zCal zm_X2_forget 0 := ⟨zmem_1 8 (by decide +kernel) rfl, zmem_2 106 (by decide +kernel) rfl, by decide +kernel, by decide +kernel, by decide +kernel⟩
theorem zii_X2_forget : Cond.instanceMethod yX2_forget ∈ ztbl := zmem_2 104 (by decide +kernel) rfl
theorem zie_X2_forget : Cond.selects zm_X2_forget.1.cls yX2_forget yX2_forget ∈ ztbl := zmem_2 105 (by decide +kernel) rfl
abbrev zm_X10_j : zM := (yX10_j, cX10_j, 3, (some .int), { frames := 3, cells := 0, slots := 0, locals := 74 })
theorem zi_X10_j : zCal zm_X10_j 2 := ⟨zmem_1 1 (by decide +kernel) rfl, zmem_2 110 (by decide +kernel) rfl, by decide +kernel, by decide +kernel, by decide +kernel⟩
theorem zii_X10_j : Cond.instanceMethod yX10_j ∈ ztbl := zmem_2 108 (by decide +kernel) rfl
theorem zie_X10_j : Cond.selects zm_X10_j.1.cls yX10_j yX10_j ∈ ztbl := zmem_2 109 (by decide +kernel) rfl
abbrev zm_X10_isSeries : zM := (yX10_isSeries, cX10_isSeries, 1, (some .boolean), { frames := 0, cells := 0, slots := 0, locals := 0 })
theorem zi_X10_isSeries : zCal zm_X10_isSeries 1 := ⟨zmem_1 1 (by decide +kernel) rfl, zmem_2 113 (by decide +kernel) rfl, by decide +kernel, by decide +kernel, by decide +kernel⟩
theorem zis_X10_isSeries : Cond.static yX10_isSeries ∈ ztbl := zmem_2 112 (by decide +kernel) rfl
abbrev zm_X7_makeInvariant : zM := (yX7_makeInvariant, cX7_makeInvariant, 4, none, { frames := 2, cells := 0, slots := 0, locals := 51 })
theorem zi_X7_makeInvariant : zCal zm_X7_makeInvariant 3 := ⟨zmem_1 5 (by decide +kernel) rfl, zmem_2 117 (by decide +kernel) rfl, by decide +kernel, by decide +kernel, by decide +kernel⟩
theorem zii_X7_makeInvariant : Cond.instanceMethod yX7_makeInvariant ∈ ztbl := zmem_2 115 (by decide +kernel) rfl
theorem zie_X7_makeInvariant : Cond.selects zm_X7_makeInvariant.1.cls yX7_makeInvariant yX7_makeInvariant ∈ ztbl := zmem_2 116 (by decide +kernel) rfl
abbrev zm_X7_fillEisenstein : zM := (yX7_fillEisenstein, cX7_fillEisenstein, 6, none, { frames := 1, cells := 0, slots := 0, locals := 23 })
theorem zi_X7_fillEisenstein : zCal zm_X7_fillEisenstein 2 := ⟨zmem_1 5 (by decide +kernel) rfl, zmem_2 121 (by decide +kernel) rfl, by decide +kernel, by decide +kernel, by decide +kernel⟩
theorem zii_X7_fillEisenstein : Cond.instanceMethod yX7_fillEisenstein ∈ ztbl := zmem_2 120 (by decide +kernel) rfl
theorem zie_X7_fillEisenstein : Cond.selects zm_X7_fillEisenstein.1.cls yX7_fillEisenstein yX7_fillEisenstein ∈ ztbl := zmemp 0 (by decide +kernel) rfl
abbrev zm_X10_multiply : zM := (yX10_multiply, cX10_multiply, 8, none, { frames := 1, cells := 0, slots := 0, locals := 23 })
theorem zi_X10_multiply : zCal zm_X10_multiply 5 := ⟨zmem_1 1 (by decide +kernel) rfl, zmem_2 125 (by decide +kernel) rfl, by decide +kernel, by decide +kernel, by decide +kernel⟩
theorem zis_X10_multiply : Cond.static yX10_multiply ∈ ztbl := zmem_2 124 (by decide +kernel) rfl
abbrev zm_X7_fillEulerProduct : zM := (yX7_fillEulerProduct, cX7_fillEulerProduct, 5, none, { frames := 1, cells := 0, slots := 0, locals := 23 })
theorem zi_X7_fillEulerProduct : zCal zm_X7_fillEulerProduct 2 := ⟨zmem_1 5 (by decide +kernel) rfl, zmem_2 129 (by decide +kernel) rfl, by decide +kernel, by decide +kernel, by decide +kernel⟩
theorem zii_X7_fillEulerProduct : Cond.instanceMethod yX7_fillEulerProduct ∈ ztbl := zmem_2 128 (by decide +kernel) rfl
theorem zie_X7_fillEulerProduct : Cond.selects zm_X7_fillEulerProduct.1.cls yX7_fillEulerProduct yX7_fillEulerProduct ∈ ztbl := zmemp 1 (by decide +kernel) rfl
abbrev zm_X7_invert : zM := (yX7_invert, cX7_invert, 8, none, { frames := 1, cells := 0, slots := 0, locals := 24 })
theorem zi_X7_invert : zCal zm_X7_invert 4 := ⟨zmem_1 5 (by decide +kernel) rfl, zmem_2 132 (by decide +kernel) rfl, by decide +kernel, by decide +kernel, by decide +kernel⟩
theorem zis_X7_invert : Cond.static yX7_invert ∈ ztbl := zmem_2 131 (by decide +kernel) rfl
abbrev zm_X10_inverse : zM := (yX10_inverse, cX10_inverse, 5, (some .int), { frames := 0, cells := 0, slots := 0, locals := 0 })
theorem zi_X10_inverse : zCal zm_X10_inverse 2 := ⟨zmem_1 1 (by decide +kernel) rfl, zmem_2 135 (by decide +kernel) rfl, by decide +kernel, by decide +kernel, by decide +kernel⟩
theorem zis_X10_inverse : Cond.static yX10_inverse ∈ ztbl := zmem_2 134 (by decide +kernel) rfl
abbrev zm_X6_become : zM := (yX6_become, cX6_become, 4, none, { frames := 1, cells := 0, slots := 0, locals := 26 })
theorem zi_X6_become : zCal zm_X6_become 3 := ⟨zmem_1 4 (by decide +kernel) rfl, zmem_2 139 (by decide +kernel) rfl, by decide +kernel, by decide +kernel, by decide +kernel⟩
theorem zii_X6_become : Cond.instanceMethod yX6_become ∈ ztbl := zmem_2 137 (by decide +kernel) rfl
theorem zie_X6_become : Cond.selects zm_X6_become.1.cls yX6_become yX6_become ∈ ztbl := zmem_2 138 (by decide +kernel) rfl
abbrev zm_X10_tell : zM := (yX10_tell, cX10_tell, 5, (some .int), { frames := 3, cells := 0, slots := 0, locals := 75 })
theorem zi_X10_tell : zCal zm_X10_tell 3 := ⟨zmem_1 1 (by decide +kernel) rfl, zmem_2 146 (by decide +kernel) rfl, by decide +kernel, by decide +kernel, by decide +kernel⟩
theorem zii_X10_tell : Cond.instanceMethod yX10_tell ∈ ztbl := zmem_2 144 (by decide +kernel) rfl
theorem zie_X10_tell : Cond.selects zm_X10_tell.1.cls yX10_tell yX10_tell ∈ ztbl := zmem_2 145 (by decide +kernel) rfl
abbrev zm_X10_isList : zM := (yX10_isList, cX10_isList, 1, (some .boolean), { frames := 0, cells := 0, slots := 0, locals := 0 })
theorem zi_X10_isList : zCal zm_X10_isList 1 := ⟨zmem_1 1 (by decide +kernel) rfl, zmem_2 149 (by decide +kernel) rfl, by decide +kernel, by decide +kernel, by decide +kernel⟩
theorem zis_X10_isList : Cond.static yX10_isList ∈ ztbl := zmem_2 148 (by decide +kernel) rfl
abbrev zm_X10_isTooFar : zM := (yX10_isTooFar, cX10_isTooFar, 1, (some .boolean), { frames := 0, cells := 0, slots := 0, locals := 0 })
theorem zi_X10_isTooFar : zCal zm_X10_isTooFar 1 := ⟨zmem_1 1 (by decide +kernel) rfl, zmem_2 152 (by decide +kernel) rfl, by decide +kernel, by decide +kernel, by decide +kernel⟩
theorem zis_X10_isTooFar : Cond.static yX10_isTooFar ∈ ztbl := zmem_2 151 (by decide +kernel) rfl
abbrev zm_X7_reduce : zM := (yX7_reduce, cX7_reduce, 7, none, { frames := 2, cells := 0, slots := 0, locals := 49 })
theorem zi_X7_reduce : zCal zm_X7_reduce 5 := ⟨zmem_1 5 (by decide +kernel) rfl, zmem_2 156 (by decide +kernel) rfl, by decide +kernel, by decide +kernel, by decide +kernel⟩
theorem zii_X7_reduce : Cond.instanceMethod yX7_reduce ∈ ztbl := zmem_2 154 (by decide +kernel) rfl
theorem zie_X7_reduce : Cond.selects zm_X7_reduce.1.cls yX7_reduce yX7_reduce ∈ ztbl := zmem_2 155 (by decide +kernel) rfl
abbrev zm_J9_floorMod_7cf53 : zM := (yJ9_floorMod_7cf53, cJ9_floorMod_7cf53, 3, (some .int), { frames := 0, cells := 0, slots := 0, locals := 0 })
theorem zi_J9_floorMod_7cf53 : zCal zm_J9_floorMod_7cf53 2 := ⟨zmem_1 15 (by decide +kernel) rfl, zmem_2 159 (by decide +kernel) rfl, by decide +kernel, by decide +kernel, by decide +kernel⟩
theorem zis_J9_floorMod_7cf53 : Cond.static yJ9_floorMod_7cf53 ∈ ztbl := zmem_2 158 (by decide +kernel) rfl
abbrev zm_X10_sum : zM := (yX10_sum, cX10_sum, 4, (some .int), { frames := 3, cells := 0, slots := 0, locals := 76 })
theorem zi_X10_sum : zCal zm_X10_sum 3 := ⟨zmem_1 1 (by decide +kernel) rfl, zmem_2 163 (by decide +kernel) rfl, by decide +kernel, by decide +kernel, by decide +kernel⟩
theorem zii_X10_sum : Cond.instanceMethod yX10_sum ∈ ztbl := zmem_2 161 (by decide +kernel) rfl
theorem zie_X10_sum : Cond.selects zm_X10_sum.1.cls yX10_sum yX10_sum ∈ ztbl := zmem_2 162 (by decide +kernel) rfl
abbrev zm_X6_isMissing : zM := (yX6_isMissing, cX6_isMissing, 1, (some .boolean), { frames := 0, cells := 0, slots := 0, locals := 0 })
theorem zi_X6_isMissing : zCal zm_X6_isMissing 0 := ⟨zmem_1 4 (by decide +kernel) rfl, zmem_2 167 (by decide +kernel) rfl, by decide +kernel, by decide +kernel, by decide +kernel⟩
theorem zii_X6_isMissing : Cond.instanceMethod yX6_isMissing ∈ ztbl := zmem_2 165 (by decide +kernel) rfl
theorem zie_X6_isMissing : Cond.selects zm_X6_isMissing.1.cls yX6_isMissing yX6_isMissing ∈ ztbl := zmem_2 166 (by decide +kernel) rfl
abbrev zm_X7_add : zM := (yX7_add, cX7_add, 8, none, { frames := 2, cells := 0, slots := 0, locals := 49 })
theorem zi_X7_add : zCal zm_X7_add 4 := ⟨zmem_1 5 (by decide +kernel) rfl, zmem_2 171 (by decide +kernel) rfl, by decide +kernel, by decide +kernel, by decide +kernel⟩
theorem zii_X7_add : Cond.instanceMethod yX7_add ∈ ztbl := zmem_2 169 (by decide +kernel) rfl
theorem zie_X7_add : Cond.selects zm_X7_add.1.cls yX7_add yX7_add ∈ ztbl := zmem_2 170 (by decide +kernel) rfl
abbrev zm_X6_last : zM := (yX6_last, cX6_last, 1, (some .int), { frames := 0, cells := 0, slots := 0, locals := 0 })
theorem zi_X6_last : zCal zm_X6_last 0 := ⟨zmem_1 4 (by decide +kernel) rfl, zmem_2 178 (by decide +kernel) rfl, by decide +kernel, by decide +kernel, by decide +kernel⟩
theorem zii_X6_last : Cond.instanceMethod yX6_last ∈ ztbl := zmem_2 176 (by decide +kernel) rfl
theorem zie_X6_last : Cond.selects zm_X6_last.1.cls yX6_last yX6_last ∈ ztbl := zmem_2 177 (by decide +kernel) rfl
abbrev zm_X6_valueOf : zM := (yX6_valueOf, cX6_valueOf, 2, (some .int), { frames := 0, cells := 0, slots := 0, locals := 0 })
theorem zi_X6_valueOf : zCal zm_X6_valueOf 1 := ⟨zmem_1 4 (by decide +kernel) rfl, zmem_2 182 (by decide +kernel) rfl, by decide +kernel, by decide +kernel, by decide +kernel⟩
theorem zii_X6_valueOf : Cond.instanceMethod yX6_valueOf ∈ ztbl := zmem_2 180 (by decide +kernel) rfl
theorem zie_X6_valueOf : Cond.selects zm_X6_valueOf.1.cls yX6_valueOf yX6_valueOf ∈ ztbl := zmem_2 181 (by decide +kernel) rfl
abbrev zm_X10_times : zM := (yX10_times, cX10_times, 6, (some .int), { frames := 3, cells := 0, slots := 0, locals := 75 })
theorem zi_X10_times : zCal zm_X10_times 3 := ⟨zmem_1 1 (by decide +kernel) rfl, zmem_2 186 (by decide +kernel) rfl, by decide +kernel, by decide +kernel, by decide +kernel⟩
theorem zii_X10_times : Cond.instanceMethod yX10_times ∈ ztbl := zmem_2 184 (by decide +kernel) rfl
theorem zie_X10_times : Cond.selects zm_X10_times.1.cls yX10_times yX10_times ∈ ztbl := zmem_2 185 (by decide +kernel) rfl
abbrev zm_X7_makeProduct : zM := (yX7_makeProduct, cX7_makeProduct, 6, none, { frames := 2, cells := 0, slots := 0, locals := 50 })
theorem zi_X7_makeProduct : zCal zm_X7_makeProduct 4 := ⟨zmem_1 5 (by decide +kernel) rfl, zmem_2 190 (by decide +kernel) rfl, by decide +kernel, by decide +kernel, by decide +kernel⟩
theorem zii_X7_makeProduct : Cond.instanceMethod yX7_makeProduct ∈ ztbl := zmem_2 188 (by decide +kernel) rfl
theorem zie_X7_makeProduct : Cond.selects zm_X7_makeProduct.1.cls yX7_makeProduct yX7_makeProduct ∈ ztbl := zmem_2 189 (by decide +kernel) rfl
abbrev zm_X10_stretch : zM := (yX10_stretch, cX10_stretch, 4, (some .int), { frames := 3, cells := 0, slots := 0, locals := 74 })
theorem zi_X10_stretch : zCal zm_X10_stretch 3 := ⟨zmem_1 1 (by decide +kernel) rfl, zmem_2 194 (by decide +kernel) rfl, by decide +kernel, by decide +kernel, by decide +kernel⟩
theorem zii_X10_stretch : Cond.instanceMethod yX10_stretch ∈ ztbl := zmem_2 192 (by decide +kernel) rfl
theorem zie_X10_stretch : Cond.selects zm_X10_stretch.1.cls yX10_stretch yX10_stretch ∈ ztbl := zmem_2 193 (by decide +kernel) rfl
abbrev zm_X7_widen : zM := (yX7_widen, cX7_widen, 6, none, { frames := 2, cells := 0, slots := 0, locals := 49 })
theorem zi_X7_widen : zCal zm_X7_widen 3 := ⟨zmem_1 5 (by decide +kernel) rfl, zmem_2 198 (by decide +kernel) rfl, by decide +kernel, by decide +kernel, by decide +kernel⟩
theorem zii_X7_widen : Cond.instanceMethod yX7_widen ∈ ztbl := zmem_2 196 (by decide +kernel) rfl
theorem zie_X7_widen : Cond.selects zm_X7_widen.1.cls yX7_widen yX7_widen ∈ ztbl := zmem_2 197 (by decide +kernel) rfl
abbrev zm_X10_over : zM := (yX10_over, cX10_over, 3, (some .int), { frames := 3, cells := 0, slots := 0, locals := 74 })
theorem zi_X10_over : zCal zm_X10_over 2 := ⟨zmem_1 1 (by decide +kernel) rfl, zmem_2 202 (by decide +kernel) rfl, by decide +kernel, by decide +kernel, by decide +kernel⟩
theorem zii_X10_over : Cond.instanceMethod yX10_over ∈ ztbl := zmem_2 200 (by decide +kernel) rfl
theorem zie_X10_over : Cond.selects zm_X10_over.1.cls yX10_over yX10_over ∈ ztbl := zmem_2 201 (by decide +kernel) rfl
abbrev zm_X7_makeReciprocal : zM := (yX7_makeReciprocal, cX7_makeReciprocal, 4, none, { frames := 2, cells := 0, slots := 0, locals := 51 })
theorem zi_X7_makeReciprocal : zCal zm_X7_makeReciprocal 3 := ⟨zmem_1 5 (by decide +kernel) rfl, zmem_2 206 (by decide +kernel) rfl, by decide +kernel, by decide +kernel, by decide +kernel⟩
theorem zii_X7_makeReciprocal : Cond.instanceMethod yX7_makeReciprocal ∈ ztbl := zmem_2 204 (by decide +kernel) rfl
theorem zie_X7_makeReciprocal : Cond.selects zm_X7_makeReciprocal.1.cls yX7_makeReciprocal yX7_makeReciprocal ∈ ztbl := zmem_2 205 (by decide +kernel) rfl
abbrev zm_X10_power : zM := (yX10_power, cX10_power, 4, (some .int), { frames := 3, cells := 0, slots := 0, locals := 75 })
theorem zi_X10_power : zCal zm_X10_power 3 := ⟨zmem_1 1 (by decide +kernel) rfl, zmem_2 210 (by decide +kernel) rfl, by decide +kernel, by decide +kernel, by decide +kernel⟩
theorem zii_X10_power : Cond.instanceMethod yX10_power ∈ ztbl := zmem_2 208 (by decide +kernel) rfl
theorem zie_X10_power : Cond.selects zm_X10_power.1.cls yX10_power yX10_power ∈ ztbl := zmem_2 209 (by decide +kernel) rfl
abbrev zm_X7_makePower : zM := (yX7_makePower, cX7_makePower, 6, none, { frames := 2, cells := 0, slots := 0, locals := 50 })
theorem zi_X7_makePower : zCal zm_X7_makePower 4 := ⟨zmem_1 5 (by decide +kernel) rfl, zmem_2 214 (by decide +kernel) rfl, by decide +kernel, by decide +kernel, by decide +kernel⟩
theorem zii_X7_makePower : Cond.instanceMethod yX7_makePower ∈ ztbl := zmem_2 212 (by decide +kernel) rfl
theorem zie_X7_makePower : Cond.selects zm_X7_makePower.1.cls yX7_makePower yX7_makePower ∈ ztbl := zmem_2 213 (by decide +kernel) rfl
abbrev zm_X10_of : zM := (yX10_of, cX10_of, 5, (some .int), { frames := 1, cells := 0, slots := 0, locals := 21 })
theorem zi_X10_of : zCal zm_X10_of 2 := ⟨zmem_1 1 (by decide +kernel) rfl, zmem_2 219 (by decide +kernel) rfl, by decide +kernel, by decide +kernel, by decide +kernel⟩
theorem zii_X10_of : Cond.instanceMethod yX10_of ∈ ztbl := zmem_2 217 (by decide +kernel) rfl
theorem zie_X10_of : Cond.selects zm_X10_of.1.cls yX10_of yX10_of ∈ ztbl := zmem_2 218 (by decide +kernel) rfl
abbrev zm_X6_firstNonzero : zM := (yX6_firstNonzero, cX6_firstNonzero, 2, (some .int), { frames := 0, cells := 0, slots := 0, locals := 0 })
theorem zi_X6_firstNonzero : zCal zm_X6_firstNonzero 0 := ⟨zmem_1 4 (by decide +kernel) rfl, zmem_2 223 (by decide +kernel) rfl, by decide +kernel, by decide +kernel, by decide +kernel⟩
theorem zii_X6_firstNonzero : Cond.instanceMethod yX6_firstNonzero ∈ ztbl := zmem_2 221 (by decide +kernel) rfl
theorem zie_X6_firstNonzero : Cond.selects zm_X6_firstNonzero.1.cls yX6_firstNonzero yX6_firstNonzero ∈ ztbl := zmem_2 222 (by decide +kernel) rfl
abbrev zm_X10_coefficient : zM := (yX10_coefficient, cX10_coefficient, 3, (some .int), { frames := 1, cells := 0, slots := 0, locals := 21 })
theorem zi_X10_coefficient : zCal zm_X10_coefficient 2 := ⟨zmem_1 1 (by decide +kernel) rfl, zmem_2 227 (by decide +kernel) rfl, by decide +kernel, by decide +kernel, by decide +kernel⟩
theorem zii_X10_coefficient : Cond.instanceMethod yX10_coefficient ∈ ztbl := zmem_2 225 (by decide +kernel) rfl
theorem zie_X10_coefficient : Cond.selects zm_X10_coefficient.1.cls yX10_coefficient yX10_coefficient ∈ ztbl := zmem_2 226 (by decide +kernel) rfl
abbrev zm_X10_find : zM := (yX10_find, cX10_find, 6, (some .int), { frames := 5, cells := 0, slots := 0, locals := 123 })
theorem zi_X10_find : zCal zm_X10_find 4 := ⟨zmem_1 1 (by decide +kernel) rfl, zmem_2 233 (by decide +kernel) rfl, by decide +kernel, by decide +kernel, by decide +kernel⟩
theorem zii_X10_find : Cond.instanceMethod yX10_find ∈ ztbl := zmem_2 231 (by decide +kernel) rfl
theorem zie_X10_find : Cond.selects zm_X10_find.1.cls yX10_find yX10_find ∈ ztbl := zmem_2 232 (by decide +kernel) rfl
abbrev zm_X9_prepare : zM := (yX9_prepare, cX9_prepare, 5, none, { frames := 3, cells := 0, slots := 0, locals := 74 })
theorem zi_X9_prepare : zCal zm_X9_prepare 4 := ⟨zmem_1 6 (by decide +kernel) rfl, zmem_2 237 (by decide +kernel) rfl, by decide +kernel, by decide +kernel, by decide +kernel⟩
theorem zii_X9_prepare : Cond.instanceMethod yX9_prepare ∈ ztbl := zmem_2 235 (by decide +kernel) rfl
theorem zie_X9_prepare : Cond.selects zm_X9_prepare.1.cls yX9_prepare yX9_prepare ∈ ztbl := zmem_2 236 (by decide +kernel) rfl
abbrev zm_X9_fillPowers : zM := (yX9_fillPowers, cX9_fillPowers, 5, none, { frames := 2, cells := 0, slots := 0, locals := 50 })
theorem zi_X9_fillPowers : zCal zm_X9_fillPowers 3 := ⟨zmem_1 6 (by decide +kernel) rfl, zmem_3 2 (by decide +kernel) rfl, by decide +kernel, by decide +kernel, by decide +kernel⟩
theorem zii_X9_fillPowers : Cond.instanceMethod yX9_fillPowers ∈ ztbl := zmem_3 1 (by decide +kernel) rfl
theorem zie_X9_fillPowers : Cond.selects zm_X9_fillPowers.1.cls yX9_fillPowers yX9_fillPowers ∈ ztbl := zmemp 2 (by decide +kernel) rfl
abbrev zm_X1_search : zM := (yX1_search, cX1_search, 5, (some .int), { frames := 4, cells := 0, slots := 0, locals := 99 })
theorem zi_X1_search : zCal zm_X1_search 3 := ⟨zmem_1 7 (by decide +kernel) rfl, zmem_3 8 (by decide +kernel) rfl, by decide +kernel, by decide +kernel, by decide +kernel⟩
theorem zii_X1_search : Cond.instanceMethod yX1_search ∈ ztbl := zmem_3 6 (by decide +kernel) rfl
theorem zie_X1_search : Cond.selects zm_X1_search.1.cls yX1_search yX1_search ∈ ztbl := zmem_3 7 (by decide +kernel) rfl
abbrev zm_X1_listTerms : zM := (yX1_listTerms, cX1_listTerms, 4, none, { frames := 0, cells := 0, slots := 0, locals := 0 })
theorem zi_X1_listTerms : zCal zm_X1_listTerms 0 := ⟨zmem_1 7 (by decide +kernel) rfl, zmem_3 12 (by decide +kernel) rfl, by decide +kernel, by decide +kernel, by decide +kernel⟩
theorem zii_X1_listTerms : Cond.instanceMethod yX1_listTerms ∈ ztbl := zmem_3 11 (by decide +kernel) rfl
theorem zie_X1_listTerms : Cond.selects zm_X1_listTerms.1.cls yX1_listTerms yX1_listTerms ∈ ztbl := zmemp 3 (by decide +kernel) rfl
abbrev zm_X1_clearMatrix : zM := (yX1_clearMatrix, cX1_clearMatrix, 2, none, { frames := 1, cells := 0, slots := 0, locals := 23 })
theorem zi_X1_clearMatrix : zCal zm_X1_clearMatrix 0 := ⟨zmem_1 7 (by decide +kernel) rfl, zmem_3 16 (by decide +kernel) rfl, by decide +kernel, by decide +kernel, by decide +kernel⟩
theorem zii_X1_clearMatrix : Cond.instanceMethod yX1_clearMatrix ∈ ztbl := zmem_3 15 (by decide +kernel) rfl
theorem zie_X1_clearMatrix : Cond.selects zm_X1_clearMatrix.1.cls yX1_clearMatrix yX1_clearMatrix ∈ ztbl := zmemp 4 (by decide +kernel) rfl
abbrev zm_X1_addProduct : zM := (yX1_addProduct, cX1_addProduct, 7, none, { frames := 3, cells := 0, slots := 0, locals := 73 })
theorem zi_X1_addProduct : zCal zm_X1_addProduct 4 := ⟨zmem_1 7 (by decide +kernel) rfl, zmem_3 21 (by decide +kernel) rfl, by decide +kernel, by decide +kernel, by decide +kernel⟩
theorem zii_X1_addProduct : Cond.instanceMethod yX1_addProduct ∈ ztbl := zmem_3 20 (by decide +kernel) rfl
theorem zie_X1_addProduct : Cond.selects zm_X1_addProduct.1.cls yX1_addProduct yX1_addProduct ∈ ztbl := zmemp 5 (by decide +kernel) rfl
abbrev zm_X9_multiplyTerm : zM := (yX9_multiplyTerm, cX9_multiplyTerm, 4, (some .int), { frames := 2, cells := 0, slots := 0, locals := 50 })
theorem zi_X9_multiplyTerm : zCal zm_X9_multiplyTerm 2 := ⟨zmem_1 6 (by decide +kernel) rfl, zmem_3 25 (by decide +kernel) rfl, by decide +kernel, by decide +kernel, by decide +kernel⟩
theorem zii_X9_multiplyTerm : Cond.instanceMethod yX9_multiplyTerm ∈ ztbl := zmem_3 23 (by decide +kernel) rfl
theorem zie_X9_multiplyTerm : Cond.selects zm_X9_multiplyTerm.1.cls yX9_multiplyTerm yX9_multiplyTerm ∈ ztbl := zmem_3 24 (by decide +kernel) rfl
abbrev zm_X1_eliminate : zM := (yX1_eliminate, cX1_eliminate, 4, (some .int), { frames := 2, cells := 0, slots := 0, locals := 48 })
theorem zi_X1_eliminate : zCal zm_X1_eliminate 0 := ⟨zmem_1 7 (by decide +kernel) rfl, zmem_3 29 (by decide +kernel) rfl, by decide +kernel, by decide +kernel, by decide +kernel⟩
theorem zii_X1_eliminate : Cond.instanceMethod yX1_eliminate ∈ ztbl := zmem_3 28 (by decide +kernel) rfl
theorem zie_X1_eliminate : Cond.selects zm_X1_eliminate.1.cls yX1_eliminate yX1_eliminate ∈ ztbl := zmemp 6 (by decide +kernel) rfl
abbrev zm_X1_pivotRow : zM := (yX1_pivotRow, cX1_pivotRow, 4, (some .int), { frames := 0, cells := 0, slots := 0, locals := 0 })
theorem zi_X1_pivotRow : zCal zm_X1_pivotRow 2 := ⟨zmem_1 7 (by decide +kernel) rfl, zmem_3 33 (by decide +kernel) rfl, by decide +kernel, by decide +kernel, by decide +kernel⟩
theorem zii_X1_pivotRow : Cond.instanceMethod yX1_pivotRow ∈ ztbl := zmem_3 32 (by decide +kernel) rfl
theorem zie_X1_pivotRow : Cond.selects zm_X1_pivotRow.1.cls yX1_pivotRow yX1_pivotRow ∈ ztbl := zmemp 7 (by decide +kernel) rfl
abbrev zm_X1_swapRows : zM := (yX1_swapRows, cX1_swapRows, 6, none, { frames := 0, cells := 0, slots := 0, locals := 0 })
theorem zi_X1_swapRows : zCal zm_X1_swapRows 3 := ⟨zmem_1 7 (by decide +kernel) rfl, zmem_3 38 (by decide +kernel) rfl, by decide +kernel, by decide +kernel, by decide +kernel⟩
theorem zii_X1_swapRows : Cond.instanceMethod yX1_swapRows ∈ ztbl := zmem_3 37 (by decide +kernel) rfl
theorem zie_X1_swapRows : Cond.selects zm_X1_swapRows.1.cls yX1_swapRows yX1_swapRows ∈ ztbl := zmemp 8 (by decide +kernel) rfl
abbrev zm_X1_scaleRow : zM := (yX1_scaleRow, cX1_scaleRow, 5, none, { frames := 1, cells := 0, slots := 0, locals := 24 })
theorem zi_X1_scaleRow : zCal zm_X1_scaleRow 2 := ⟨zmem_1 7 (by decide +kernel) rfl, zmem_3 42 (by decide +kernel) rfl, by decide +kernel, by decide +kernel, by decide +kernel⟩
theorem zii_X1_scaleRow : Cond.instanceMethod yX1_scaleRow ∈ ztbl := zmem_3 41 (by decide +kernel) rfl
theorem zie_X1_scaleRow : Cond.selects zm_X1_scaleRow.1.cls yX1_scaleRow yX1_scaleRow ∈ ztbl := zmemp 9 (by decide +kernel) rfl
abbrev zm_X1_clearBelow : zM := (yX1_clearBelow, cX1_clearBelow, 8, none, { frames := 0, cells := 0, slots := 0, locals := 0 })
theorem zi_X1_clearBelow : zCal zm_X1_clearBelow 2 := ⟨zmem_1 7 (by decide +kernel) rfl, zmem_3 47 (by decide +kernel) rfl, by decide +kernel, by decide +kernel, by decide +kernel⟩
theorem zii_X1_clearBelow : Cond.instanceMethod yX1_clearBelow ∈ ztbl := zmem_3 46 (by decide +kernel) rfl
theorem zie_X1_clearBelow : Cond.selects zm_X1_clearBelow.1.cls yX1_clearBelow yX1_clearBelow ∈ ztbl := zmemp 10 (by decide +kernel) rfl
abbrev zm_X1_handOver : zM := (yX1_handOver, cX1_handOver, 3, none, { frames := 2, cells := 0, slots := 0, locals := 44 })
theorem zi_X1_handOver : zCal zm_X1_handOver 1 := ⟨zmem_1 7 (by decide +kernel) rfl, zmem_3 51 (by decide +kernel) rfl, by decide +kernel, by decide +kernel, by decide +kernel⟩
theorem zii_X1_handOver : Cond.instanceMethod yX1_handOver ∈ ztbl := zmem_3 49 (by decide +kernel) rfl
theorem zie_X1_handOver : Cond.selects zm_X1_handOver.1.cls yX1_handOver yX1_handOver ∈ ztbl := zmem_3 50 (by decide +kernel) rfl
abbrev zm_X1_solve : zM := (yX1_solve, cX1_solve, 4, none, { frames := 0, cells := 0, slots := 0, locals := 0 })
theorem zi_X1_solve : zCal zm_X1_solve 0 := ⟨zmem_1 7 (by decide +kernel) rfl, zmem_3 55 (by decide +kernel) rfl, by decide +kernel, by decide +kernel, by decide +kernel⟩
theorem zii_X1_solve : Cond.instanceMethod yX1_solve ∈ ztbl := zmem_3 54 (by decide +kernel) rfl
theorem zie_X1_solve : Cond.selects zm_X1_solve.1.cls yX1_solve yX1_solve ∈ ztbl := zmemp 11 (by decide +kernel) rfl
abbrev zm_X3_clear : zM := (yX3_clear, cX3_clear, 2, none, { frames := 1, cells := 0, slots := 0, locals := 23 })
theorem zi_X3_clear : zCal zm_X3_clear 1 := ⟨zmem_1 3 (by decide +kernel) rfl, zmem_3 59 (by decide +kernel) rfl, by decide +kernel, by decide +kernel, by decide +kernel⟩
theorem zii_X3_clear : Cond.instanceMethod yX3_clear ∈ ztbl := zmem_3 57 (by decide +kernel) rfl
theorem zie_X3_clear : Cond.selects zm_X3_clear.1.cls yX3_clear yX3_clear ∈ ztbl := zmem_3 58 (by decide +kernel) rfl
abbrev zm_X10_equation : zM := (yX10_equation, cX10_equation, 2, (some .int), { frames := 1, cells := 0, slots := 0, locals := 22 })
theorem zi_X10_equation : zCal zm_X10_equation 1 := ⟨zmem_1 1 (by decide +kernel) rfl, zmem_3 64 (by decide +kernel) rfl, by decide +kernel, by decide +kernel, by decide +kernel⟩
theorem zii_X10_equation : Cond.instanceMethod yX10_equation ∈ ztbl := zmem_3 62 (by decide +kernel) rfl
theorem zie_X10_equation : Cond.selects zm_X10_equation.1.cls yX10_equation yX10_equation ∈ ztbl := zmem_3 63 (by decide +kernel) rfl
abbrev zm_X3_isMissing : zM := (yX3_isMissing, cX3_isMissing, 1, (some .boolean), { frames := 0, cells := 0, slots := 0, locals := 0 })
theorem zi_X3_isMissing : zCal zm_X3_isMissing 0 := ⟨zmem_1 3 (by decide +kernel) rfl, zmem_3 68 (by decide +kernel) rfl, by decide +kernel, by decide +kernel, by decide +kernel⟩
theorem zii_X3_isMissing : Cond.instanceMethod yX3_isMissing ∈ ztbl := zmem_3 66 (by decide +kernel) rfl
theorem zie_X3_isMissing : Cond.selects zm_X3_isMissing.1.cls yX3_isMissing yX3_isMissing ∈ ztbl := zmem_3 67 (by decide +kernel) rfl
abbrev zm_X3_leadingTerm : zM := (yX3_leadingTerm, cX3_leadingTerm, 2, (some .int), { frames := 0, cells := 0, slots := 0, locals := 0 })
theorem zi_X3_leadingTerm : zCal zm_X3_leadingTerm 0 := ⟨zmem_1 3 (by decide +kernel) rfl, zmem_3 72 (by decide +kernel) rfl, by decide +kernel, by decide +kernel, by decide +kernel⟩
theorem zii_X3_leadingTerm : Cond.instanceMethod yX3_leadingTerm ∈ ztbl := zmem_3 70 (by decide +kernel) rfl
theorem zie_X3_leadingTerm : Cond.selects zm_X3_leadingTerm.1.cls yX3_leadingTerm yX3_leadingTerm ∈ ztbl := zmem_3 71 (by decide +kernel) rfl
abbrev zm_X3_isSymmetric : zM := (yX3_isSymmetric, cX3_isSymmetric, 3, (some .boolean), { frames := 0, cells := 0, slots := 0, locals := 0 })
theorem zi_X3_isSymmetric : zCal zm_X3_isSymmetric 0 := ⟨zmem_1 3 (by decide +kernel) rfl, zmem_3 76 (by decide +kernel) rfl, by decide +kernel, by decide +kernel, by decide +kernel⟩
theorem zii_X3_isSymmetric : Cond.instanceMethod yX3_isSymmetric ∈ ztbl := zmem_3 74 (by decide +kernel) rfl
theorem zie_X3_isSymmetric : Cond.selects zm_X3_isSymmetric.1.cls yX3_isSymmetric yX3_isSymmetric ∈ ztbl := zmem_3 75 (by decide +kernel) rfl
abbrev zm_X3_nonzeroCount : zM := (yX3_nonzeroCount, cX3_nonzeroCount, 3, (some .int), { frames := 0, cells := 0, slots := 0, locals := 0 })
theorem zi_X3_nonzeroCount : zCal zm_X3_nonzeroCount 0 := ⟨zmem_1 3 (by decide +kernel) rfl, zmem_3 80 (by decide +kernel) rfl, by decide +kernel, by decide +kernel, by decide +kernel⟩
theorem zii_X3_nonzeroCount : Cond.instanceMethod yX3_nonzeroCount ∈ ztbl := zmem_3 78 (by decide +kernel) rfl
theorem zie_X3_nonzeroCount : Cond.selects zm_X3_nonzeroCount.1.cls yX3_nonzeroCount yX3_nonzeroCount ∈ ztbl := zmem_3 79 (by decide +kernel) rfl
abbrev zm_X10_term : zM := (yX10_term, cX10_term, 3, (some .int), { frames := 1, cells := 0, slots := 0, locals := 22 })
theorem zi_X10_term : zCal zm_X10_term 2 := ⟨zmem_1 1 (by decide +kernel) rfl, zmem_3 84 (by decide +kernel) rfl, by decide +kernel, by decide +kernel, by decide +kernel⟩
theorem zii_X10_term : Cond.instanceMethod yX10_term ∈ ztbl := zmem_3 82 (by decide +kernel) rfl
theorem zie_X10_term : Cond.selects zm_X10_term.1.cls yX10_term yX10_term ∈ ztbl := zmem_3 83 (by decide +kernel) rfl
abbrev zm_X3_has : zM := (yX3_has, cX3_has, 3, (some .boolean), { frames := 0, cells := 0, slots := 0, locals := 0 })
theorem zi_X3_has : zCal zm_X3_has 2 := ⟨zmem_1 3 (by decide +kernel) rfl, zmem_3 88 (by decide +kernel) rfl, by decide +kernel, by decide +kernel, by decide +kernel⟩
theorem zii_X3_has : Cond.instanceMethod yX3_has ∈ ztbl := zmem_3 86 (by decide +kernel) rfl
theorem zie_X3_has : Cond.selects zm_X3_has.1.cls yX3_has yX3_has ∈ ztbl := zmem_3 87 (by decide +kernel) rfl
abbrev zm_X10_at : zM := (yX10_at, cX10_at, 3, (some .int), { frames := 1, cells := 0, slots := 0, locals := 27 })
theorem zi_X10_at : zCal zm_X10_at 2 := ⟨zmem_1 1 (by decide +kernel) rfl, zmem_3 92 (by decide +kernel) rfl, by decide +kernel, by decide +kernel, by decide +kernel⟩
theorem zii_X10_at : Cond.instanceMethod yX10_at ∈ ztbl := zmem_3 90 (by decide +kernel) rfl
theorem zie_X10_at : Cond.selects zm_X10_at.1.cls yX10_at yX10_at ∈ ztbl := zmem_3 91 (by decide +kernel) rfl
abbrev zm_X10_isValue : zM := (yX10_isValue, cX10_isValue, 2, (some .boolean), { frames := 0, cells := 0, slots := 0, locals := 0 })
theorem zi_X10_isValue : zCal zm_X10_isValue 1 := ⟨zmem_1 1 (by decide +kernel) rfl, zmem_3 96 (by decide +kernel) rfl, by decide +kernel, by decide +kernel, by decide +kernel⟩
theorem zii_X10_isValue : Cond.instanceMethod yX10_isValue ∈ ztbl := zmem_3 95 (by decide +kernel) rfl
theorem zie_X10_isValue : Cond.selects zm_X10_isValue.1.cls yX10_isValue yX10_isValue ∈ ztbl := zmemp 12 (by decide +kernel) rfl
abbrev zm_X3_valueOf : zM := (yX3_valueOf, cX3_valueOf, 8, (some .int), { frames := 0, cells := 0, slots := 0, locals := 0 })
theorem zi_X3_valueOf : zCal zm_X3_valueOf 3 := ⟨zmem_1 3 (by decide +kernel) rfl, zmem_3 100 (by decide +kernel) rfl, by decide +kernel, by decide +kernel, by decide +kernel⟩
theorem zii_X3_valueOf : Cond.instanceMethod yX3_valueOf ∈ ztbl := zmem_3 98 (by decide +kernel) rfl
theorem zie_X3_valueOf : Cond.selects zm_X3_valueOf.1.cls yX3_valueOf yX3_valueOf ∈ ztbl := zmem_3 99 (by decide +kernel) rfl
abbrev zm_X10_vanishes : zM := (yX10_vanishes, cX10_vanishes, 3, (some .int), { frames := 5, cells := 0, slots := 0, locals := 121 })
theorem zi_X10_vanishes : zCal zm_X10_vanishes 2 := ⟨zmem_1 1 (by decide +kernel) rfl, zmem_3 104 (by decide +kernel) rfl, by decide +kernel, by decide +kernel, by decide +kernel⟩
theorem zii_X10_vanishes : Cond.instanceMethod yX10_vanishes ∈ ztbl := zmem_3 102 (by decide +kernel) rfl
theorem zie_X10_vanishes : Cond.selects zm_X10_vanishes.1.cls yX10_vanishes yX10_vanishes ∈ ztbl := zmem_3 103 (by decide +kernel) rfl
abbrev zm_X9_isZeroFor : zM := (yX9_isZeroFor, cX9_isZeroFor, 4, (some .boolean), { frames := 4, cells := 0, slots := 0, locals := 98 })
theorem zi_X9_isZeroFor : zCal zm_X9_isZeroFor 1 := ⟨zmem_1 6 (by decide +kernel) rfl, zmem_3 108 (by decide +kernel) rfl, by decide +kernel, by decide +kernel, by decide +kernel⟩
theorem zii_X9_isZeroFor : Cond.instanceMethod yX9_isZeroFor ∈ ztbl := zmem_3 106 (by decide +kernel) rfl
theorem zie_X9_isZeroFor : Cond.selects zm_X9_isZeroFor.1.cls yX9_isZeroFor yX9_isZeroFor ∈ ztbl := zmem_3 107 (by decide +kernel) rfl
abbrev zm_X9_addTerm : zM := (yX9_addTerm, cX9_addTerm, 6, none, { frames := 3, cells := 0, slots := 0, locals := 73 })
theorem zi_X9_addTerm : zCal zm_X9_addTerm 3 := ⟨zmem_1 6 (by decide +kernel) rfl, zmem_3 112 (by decide +kernel) rfl, by decide +kernel, by decide +kernel, by decide +kernel⟩
theorem zii_X9_addTerm : Cond.instanceMethod yX9_addTerm ∈ ztbl := zmem_3 111 (by decide +kernel) rfl
theorem zie_X9_addTerm : Cond.selects zm_X9_addTerm.1.cls yX9_addTerm yX9_addTerm ∈ ztbl := zmemp 13 (by decide +kernel) rfl
abbrev zm_X10_neighbour : zM := (yX10_neighbour, cX10_neighbour, 4, (some .int), { frames := 5, cells := 0, slots := 0, locals := 120 })
theorem zi_X10_neighbour : zCal zm_X10_neighbour 2 := ⟨zmem_1 1 (by decide +kernel) rfl, zmem_3 117 (by decide +kernel) rfl, by decide +kernel, by decide +kernel, by decide +kernel⟩
theorem zii_X10_neighbour : Cond.instanceMethod yX10_neighbour ∈ ztbl := zmem_3 115 (by decide +kernel) rfl
theorem zie_X10_neighbour : Cond.selects zm_X10_neighbour.1.cls yX10_neighbour yX10_neighbour ∈ ztbl := zmem_3 116 (by decide +kernel) rfl
abbrev zm_X2_isDegenerate : zM := (yX2_isDegenerate, cX2_isDegenerate, 3, (some .boolean), { frames := 4, cells := 0, slots := 0, locals := 98 })
theorem zi_X2_isDegenerate : zCal zm_X2_isDegenerate 2 := ⟨zmem_1 8 (by decide +kernel) rfl, zmem_3 121 (by decide +kernel) rfl, by decide +kernel, by decide +kernel, by decide +kernel⟩
theorem zii_X2_isDegenerate : Cond.instanceMethod yX2_isDegenerate ∈ ztbl := zmem_3 119 (by decide +kernel) rfl
theorem zie_X2_isDegenerate : Cond.selects zm_X2_isDegenerate.1.cls yX2_isDegenerate yX2_isDegenerate ∈ ztbl := zmem_3 120 (by decide +kernel) rfl
abbrev zm_X2_explore : zM := (yX2_explore, cX2_explore, 3, none, { frames := 3, cells := 0, slots := 0, locals := 76 })
theorem zi_X2_explore : zCal zm_X2_explore 2 := ⟨zmem_1 8 (by decide +kernel) rfl, zmem_3 125 (by decide +kernel) rfl, by decide +kernel, by decide +kernel, by decide +kernel⟩
theorem zii_X2_explore : Cond.instanceMethod yX2_explore ∈ ztbl := zmem_3 124 (by decide +kernel) rfl
theorem zie_X2_explore : Cond.selects zm_X2_explore.1.cls yX2_explore yX2_explore ∈ ztbl := zmemp 14 (by decide +kernel) rfl
abbrev zm_X2_listNeighbours : zM := (yX2_listNeighbours, cX2_listNeighbours, 7, (some .int), { frames := 2, cells := 0, slots := 0, locals := 50 })
theorem zi_X2_listNeighbours : zCal zm_X2_listNeighbours 3 := ⟨zmem_1 8 (by decide +kernel) rfl, zmem_3 129 (by decide +kernel) rfl, by decide +kernel, by decide +kernel, by decide +kernel⟩
theorem zii_X2_listNeighbours : Cond.instanceMethod yX2_listNeighbours ∈ ztbl := zmem_3 128 (by decide +kernel) rfl
theorem zie_X2_listNeighbours : Cond.selects zm_X2_listNeighbours.1.cls yX2_listNeighbours yX2_listNeighbours ∈ ztbl := zmemp 15 (by decide +kernel) rfl
abbrev zm_X2_fillLine : zM := (yX2_fillLine, cX2_fillLine, 6, (some .int), { frames := 1, cells := 0, slots := 0, locals := 25 })
theorem zi_X2_fillLine : zCal zm_X2_fillLine 3 := ⟨zmem_1 8 (by decide +kernel) rfl, zmem_3 133 (by decide +kernel) rfl, by decide +kernel, by decide +kernel, by decide +kernel⟩
theorem zii_X2_fillLine : Cond.instanceMethod yX2_fillLine ∈ ztbl := zmem_3 132 (by decide +kernel) rfl
theorem zie_X2_fillLine : Cond.selects zm_X2_fillLine.1.cls yX2_fillLine yX2_fillLine ∈ ztbl := zmemp 16 (by decide +kernel) rfl
abbrev zm_X3_lineCoefficient : zM := (yX3_lineCoefficient, cX3_lineCoefficient, 6, (some .int), { frames := 0, cells := 0, slots := 0, locals := 0 })
theorem zi_X3_lineCoefficient : zCal zm_X3_lineCoefficient 3 := ⟨zmem_1 3 (by decide +kernel) rfl, zmem_3 137 (by decide +kernel) rfl, by decide +kernel, by decide +kernel, by decide +kernel⟩
theorem zii_X3_lineCoefficient : Cond.instanceMethod yX3_lineCoefficient ∈ ztbl := zmem_3 135 (by decide +kernel) rfl
theorem zie_X3_lineCoefficient : Cond.selects zm_X3_lineCoefficient.1.cls yX3_lineCoefficient yX3_lineCoefficient ∈ ztbl := zmem_3 136 (by decide +kernel) rfl
abbrev zm_X2_lineAt : zM := (yX2_lineAt, cX2_lineAt, 6, (some .int), { frames := 0, cells := 0, slots := 0, locals := 0 })
theorem zi_X2_lineAt : zCal zm_X2_lineAt 3 := ⟨zmem_1 8 (by decide +kernel) rfl, zmem_3 141 (by decide +kernel) rfl, by decide +kernel, by decide +kernel, by decide +kernel⟩
theorem zii_X2_lineAt : Cond.instanceMethod yX2_lineAt ∈ ztbl := zmem_3 140 (by decide +kernel) rfl
theorem zie_X2_lineAt : Cond.selects zm_X2_lineAt.1.cls yX2_lineAt yX2_lineAt ∈ ztbl := zmemp 17 (by decide +kernel) rfl
abbrev zm_X2_divideLine : zM := (yX2_divideLine, cX2_divideLine, 7, none, { frames := 0, cells := 0, slots := 0, locals := 0 })
theorem zi_X2_divideLine : zCal zm_X2_divideLine 3 := ⟨zmem_1 8 (by decide +kernel) rfl, zmem_3 145 (by decide +kernel) rfl, by decide +kernel, by decide +kernel, by decide +kernel⟩
theorem zii_X2_divideLine : Cond.instanceMethod yX2_divideLine ∈ ztbl := zmem_3 144 (by decide +kernel) rfl
theorem zie_X2_divideLine : Cond.selects zm_X2_divideLine.1.cls yX2_divideLine yX2_divideLine ∈ ztbl := zmemp 18 (by decide +kernel) rfl
abbrev zm_X2_sizeOf : zM := (yX2_sizeOf, cX2_sizeOf, 3, (some .int), { frames := 4, cells := 0, slots := 0, locals := 98 })
theorem zi_X2_sizeOf : zCal zm_X2_sizeOf 2 := ⟨zmem_1 8 (by decide +kernel) rfl, zmem_3 149 (by decide +kernel) rfl, by decide +kernel, by decide +kernel, by decide +kernel⟩
theorem zii_X2_sizeOf : Cond.instanceMethod yX2_sizeOf ∈ ztbl := zmem_3 147 (by decide +kernel) rfl
theorem zie_X2_sizeOf : Cond.selects zm_X2_sizeOf.1.cls yX2_sizeOf yX2_sizeOf ∈ ztbl := zmem_3 148 (by decide +kernel) rfl
abbrev zm_X2_neighbourOf : zM := (yX2_neighbourOf, cX2_neighbourOf, 3, (some .int), { frames := 0, cells := 0, slots := 0, locals := 0 })
theorem zi_X2_neighbourOf : zCal zm_X2_neighbourOf 2 := ⟨zmem_1 8 (by decide +kernel) rfl, zmem_3 156 (by decide +kernel) rfl, by decide +kernel, by decide +kernel, by decide +kernel⟩
theorem zii_X2_neighbourOf : Cond.instanceMethod yX2_neighbourOf ∈ ztbl := zmem_3 154 (by decide +kernel) rfl
theorem zie_X2_neighbourOf : Cond.selects zm_X2_neighbourOf.1.cls yX2_neighbourOf yX2_neighbourOf ∈ ztbl := zmem_3 155 (by decide +kernel) rfl
abbrev zm_X10_far : zM := (yX10_far, cX10_far, 4, (some .int), { frames := 6, cells := 0, slots := 0, locals := 148 })
theorem zi_X10_far : zCal zm_X10_far 2 := ⟨zmem_1 1 (by decide +kernel) rfl, zmem_3 160 (by decide +kernel) rfl, by decide +kernel, by decide +kernel, by decide +kernel⟩
theorem zii_X10_far : Cond.instanceMethod yX10_far ∈ ztbl := zmem_3 158 (by decide +kernel) rfl
theorem zie_X10_far : Cond.selects zm_X10_far.1.cls yX10_far yX10_far ∈ ztbl := zmem_3 159 (by decide +kernel) rfl
abbrev zm_X2_walkFrom : zM := (yX2_walkFrom, cX2_walkFrom, 9, (some .int), { frames := 5, cells := 0, slots := 0, locals := 120 })
theorem zi_X2_walkFrom : zCal zm_X2_walkFrom 2 := ⟨zmem_1 8 (by decide +kernel) rfl, zmem_3 164 (by decide +kernel) rfl, by decide +kernel, by decide +kernel, by decide +kernel⟩
theorem zii_X2_walkFrom : Cond.instanceMethod yX2_walkFrom ∈ ztbl := zmem_3 162 (by decide +kernel) rfl
theorem zie_X2_walkFrom : Cond.selects zm_X2_walkFrom.1.cls yX2_walkFrom yX2_walkFrom ∈ ztbl := zmem_3 163 (by decide +kernel) rfl
abbrev zm_X2_distanceTo : zM := (yX2_distanceTo, cX2_distanceTo, 2, (some .int), { frames := 0, cells := 0, slots := 0, locals := 0 })
theorem zi_X2_distanceTo : zCal zm_X2_distanceTo 1 := ⟨zmem_1 8 (by decide +kernel) rfl, zmem_3 170 (by decide +kernel) rfl, by decide +kernel, by decide +kernel, by decide +kernel⟩
theorem zii_X2_distanceTo : Cond.instanceMethod yX2_distanceTo ∈ ztbl := zmem_3 168 (by decide +kernel) rfl
theorem zie_X2_distanceTo : Cond.selects zm_X2_distanceTo.1.cls yX2_distanceTo yX2_distanceTo ∈ ztbl := zmem_3 169 (by decide +kernel) rfl
abbrev zm_X10_reach : zM := (yX10_reach, cX10_reach, 2, (some .int), { frames := 6, cells := 0, slots := 0, locals := 148 })
theorem zi_X10_reach : zCal zm_X10_reach 1 := ⟨zmem_1 1 (by decide +kernel) rfl, zmem_3 174 (by decide +kernel) rfl, by decide +kernel, by decide +kernel, by decide +kernel⟩
theorem zii_X10_reach : Cond.instanceMethod yX10_reach ∈ ztbl := zmem_3 172 (by decide +kernel) rfl
theorem zie_X10_reach : Cond.selects zm_X10_reach.1.cls yX10_reach yX10_reach ∈ ztbl := zmem_3 173 (by decide +kernel) rfl
abbrev zm_X10_values : zM := (yX10_values, cX10_values, 2, (some .int), { frames := 6, cells := 0, slots := 0, locals := 143 })
theorem zi_X10_values : zCal zm_X10_values 1 := ⟨zmem_1 1 (by decide +kernel) rfl, zmem_3 178 (by decide +kernel) rfl, by decide +kernel, by decide +kernel, by decide +kernel⟩
theorem zii_X10_values : Cond.instanceMethod yX10_values ∈ ztbl := zmem_3 176 (by decide +kernel) rfl
theorem zie_X10_values : Cond.selects zm_X10_values.1.cls yX10_values yX10_values ∈ ztbl := zmem_3 177 (by decide +kernel) rfl
abbrev zm_X2_ownNeighbours : zM := (yX2_ownNeighbours, cX2_ownNeighbours, 4, (some .int), { frames := 5, cells := 0, slots := 0, locals := 120 })
theorem zi_X2_ownNeighbours : zCal zm_X2_ownNeighbours 1 := ⟨zmem_1 8 (by decide +kernel) rfl, zmem_3 182 (by decide +kernel) rfl, by decide +kernel, by decide +kernel, by decide +kernel⟩
theorem zii_X2_ownNeighbours : Cond.instanceMethod yX2_ownNeighbours ∈ ztbl := zmem_3 180 (by decide +kernel) rfl
theorem zie_X2_ownNeighbours : Cond.selects zm_X2_ownNeighbours.1.cls yX2_ownNeighbours yX2_ownNeighbours ∈ ztbl := zmem_3 181 (by decide +kernel) rfl
abbrev zm_X2_degenerateValues : zM := (yX2_degenerateValues, cX2_degenerateValues, 4, (some .int), { frames := 5, cells := 0, slots := 0, locals := 120 })
theorem zi_X2_degenerateValues : zCal zm_X2_degenerateValues 1 := ⟨zmem_1 8 (by decide +kernel) rfl, zmem_3 188 (by decide +kernel) rfl, by decide +kernel, by decide +kernel, by decide +kernel⟩
theorem zii_X2_degenerateValues : Cond.instanceMethod yX2_degenerateValues ∈ ztbl := zmem_3 186 (by decide +kernel) rfl
theorem zie_X2_degenerateValues : Cond.selects zm_X2_degenerateValues.1.cls yX2_degenerateValues yX2_degenerateValues ∈ ztbl := zmem_3 187 (by decide +kernel) rfl
abbrev zm_X2_lonelyValues : zM := (yX2_lonelyValues, cX2_lonelyValues, 4, (some .int), { frames := 5, cells := 0, slots := 0, locals := 120 })
theorem zi_X2_lonelyValues : zCal zm_X2_lonelyValues 1 := ⟨zmem_1 8 (by decide +kernel) rfl, zmem_3 192 (by decide +kernel) rfl, by decide +kernel, by decide +kernel, by decide +kernel⟩
theorem zii_X2_lonelyValues : Cond.instanceMethod yX2_lonelyValues ∈ ztbl := zmem_3 190 (by decide +kernel) rfl
theorem zie_X2_lonelyValues : Cond.selects zm_X2_lonelyValues.1.cls yX2_lonelyValues yX2_lonelyValues ∈ ztbl := zmem_3 191 (by decide +kernel) rfl
abbrev zm_X2_greatestSize : zM := (yX2_greatestSize, cX2_greatestSize, 4, (some .int), { frames := 5, cells := 0, slots := 0, locals := 120 })
theorem zi_X2_greatestSize : zCal zm_X2_greatestSize 1 := ⟨zmem_1 8 (by decide +kernel) rfl, zmem_3 196 (by decide +kernel) rfl, by decide +kernel, by decide +kernel, by decide +kernel⟩
theorem zii_X2_greatestSize : Cond.instanceMethod yX2_greatestSize ∈ ztbl := zmem_3 194 (by decide +kernel) rfl
theorem zie_X2_greatestSize : Cond.selects zm_X2_greatestSize.1.cls yX2_greatestSize yX2_greatestSize ∈ ztbl := zmem_3 195 (by decide +kernel) rfl
abbrev zm_X10_keep : zM := (yX10_keep, cX10_keep, 3, (some .int), { frames := 2, cells := 0, slots := 0, locals := 47 })
theorem zi_X10_keep : zCal zm_X10_keep 1 := ⟨zmem_1 1 (by decide +kernel) rfl, zmem_3 200 (by decide +kernel) rfl, by decide +kernel, by decide +kernel, by decide +kernel⟩
theorem zii_X10_keep : Cond.instanceMethod yX10_keep ∈ ztbl := zmem_3 198 (by decide +kernel) rfl
theorem zie_X10_keep : Cond.selects zm_X10_keep.1.cls yX10_keep yX10_keep ∈ ztbl := zmem_3 199 (by decide +kernel) rfl
abbrev zm_X10_isPlace : zM := (yX10_isPlace, cX10_isPlace, 1, (some .boolean), { frames := 0, cells := 0, slots := 0, locals := 0 })
theorem zi_X10_isPlace : zCal zm_X10_isPlace 1 := ⟨zmem_1 1 (by decide +kernel) rfl, zmem_3 203 (by decide +kernel) rfl, by decide +kernel, by decide +kernel, by decide +kernel⟩
theorem zis_X10_isPlace : Cond.static yX10_isPlace ∈ ztbl := zmem_3 202 (by decide +kernel) rfl
abbrev zm_X0_placeOf : zM := (yX0_placeOf, cX0_placeOf, 3, (some .int), { frames := 1, cells := 0, slots := 0, locals := 20 })
theorem zi_X0_placeOf : zCal zm_X0_placeOf 1 := ⟨zmem_1 2 (by decide +kernel) rfl, zmem_3 207 (by decide +kernel) rfl, by decide +kernel, by decide +kernel, by decide +kernel⟩
theorem zii_X0_placeOf : Cond.instanceMethod yX0_placeOf ∈ ztbl := zmem_3 205 (by decide +kernel) rfl
theorem zie_X0_placeOf : Cond.selects zm_X0_placeOf.1.cls yX0_placeOf yX0_placeOf ∈ ztbl := zmem_3 206 (by decide +kernel) rfl
abbrev zm_X3_copyFrom : zM := (yX3_copyFrom, cX3_copyFrom, 2, none, { frames := 1, cells := 0, slots := 0, locals := 26 })
theorem zi_X3_copyFrom : zCal zm_X3_copyFrom 1 := ⟨zmem_1 3 (by decide +kernel) rfl, zmem_3 212 (by decide +kernel) rfl, by decide +kernel, by decide +kernel, by decide +kernel⟩
theorem zii_X3_copyFrom : Cond.instanceMethod yX3_copyFrom ∈ ztbl := zmem_3 210 (by decide +kernel) rfl
theorem zie_X3_copyFrom : Cond.selects zm_X3_copyFrom.1.cls yX3_copyFrom yX3_copyFrom ∈ ztbl := zmem_3 211 (by decide +kernel) rfl
abbrev zm_X0_keptCount : zM := (yX0_keptCount, cX0_keptCount, 3, (some .int), { frames := 1, cells := 0, slots := 0, locals := 20 })
theorem zi_X0_keptCount : zCal zm_X0_keptCount 0 := ⟨zmem_1 2 (by decide +kernel) rfl, zmem_3 217 (by decide +kernel) rfl, by decide +kernel, by decide +kernel, by decide +kernel⟩
theorem zii_X0_keptCount : Cond.instanceMethod yX0_keptCount ∈ ztbl := zmem_3 215 (by decide +kernel) rfl
theorem zie_X0_keptCount : Cond.selects zm_X0_keptCount.1.cls yX0_keptCount yX0_keptCount ∈ ztbl := zmem_3 216 (by decide +kernel) rfl
abbrev zm_X10_drop : zM := (yX10_drop, cX10_drop, 2, (some .int), { frames := 1, cells := 0, slots := 0, locals := 20 })
theorem zi_X10_drop : zCal zm_X10_drop 1 := ⟨zmem_1 1 (by decide +kernel) rfl, zmem_3 221 (by decide +kernel) rfl, by decide +kernel, by decide +kernel, by decide +kernel⟩
theorem zii_X10_drop : Cond.instanceMethod yX10_drop ∈ ztbl := zmem_3 219 (by decide +kernel) rfl
theorem zie_X10_drop : Cond.selects zm_X10_drop.1.cls yX10_drop yX10_drop ∈ ztbl := zmem_3 220 (by decide +kernel) rfl
abbrev zm_X10_joined : zM := (yX10_joined, cX10_joined, 4, (some .long), { frames := 2, cells := 0, slots := 0, locals := 53 })
theorem zi_X10_joined : zCal zm_X10_joined 2 := ⟨zmem_1 1 (by decide +kernel) rfl, zmem_3 225 (by decide +kernel) rfl, by decide +kernel, by decide +kernel, by decide +kernel⟩
theorem zii_X10_joined : Cond.instanceMethod yX10_joined ∈ ztbl := zmem_3 223 (by decide +kernel) rfl
theorem zie_X10_joined : Cond.selects zm_X10_joined.1.cls yX10_joined yX10_joined ∈ ztbl := zmem_3 224 (by decide +kernel) rfl
abbrev zm_X0_commonDegree : zM := (yX0_commonDegree, cX0_commonDegree, 3, (some .int), { frames := 1, cells := 0, slots := 0, locals := 20 })
theorem zi_X0_commonDegree : zCal zm_X0_commonDegree 0 := ⟨zmem_1 2 (by decide +kernel) rfl, zmem_3 229 (by decide +kernel) rfl, by decide +kernel, by decide +kernel, by decide +kernel⟩
theorem zii_X0_commonDegree : Cond.instanceMethod yX0_commonDegree ∈ ztbl := zmem_3 227 (by decide +kernel) rfl
theorem zie_X0_commonDegree : Cond.selects zm_X0_commonDegree.1.cls yX0_commonDegree yX0_commonDegree ∈ ztbl := zmem_3 228 (by decide +kernel) rfl
abbrev zm_X0_joinAt : zM := (yX0_joinAt, cX0_joinAt, 10, (some .long), { frames := 1, cells := 0, slots := 0, locals := 24 })
theorem zi_X0_joinAt : zCal zm_X0_joinAt 1 := ⟨zmem_1 2 (by decide +kernel) rfl, zmem_3 234 (by decide +kernel) rfl, by decide +kernel, by decide +kernel, by decide +kernel⟩
theorem zii_X0_joinAt : Cond.instanceMethod yX0_joinAt ∈ ztbl := zmem_3 232 (by decide +kernel) rfl
theorem zie_X0_joinAt : Cond.selects zm_X0_joinAt.1.cls yX0_joinAt yX0_joinAt ∈ ztbl := zmem_3 233 (by decide +kernel) rfl
abbrev zm_X10_whole : zM := (yX10_whole, cX10_whole, 1, (some .long), { frames := 2, cells := 0, slots := 0, locals := 43 })
theorem zi_X10_whole : zCal zm_X10_whole 0 := ⟨zmem_1 1 (by decide +kernel) rfl, zmem_4 0 (by decide +kernel) rfl, by decide +kernel, by decide +kernel, by decide +kernel⟩
theorem zii_X10_whole : Cond.instanceMethod yX10_whole ∈ ztbl := zmem_3 238 (by decide +kernel) rfl
theorem zie_X10_whole : Cond.selects zm_X10_whole.1.cls yX10_whole yX10_whole ∈ ztbl := zmem_3 239 (by decide +kernel) rfl
abbrev zm_X0_keptProduct : zM := (yX0_keptProduct, cX0_keptProduct, 4, (some .long), { frames := 1, cells := 0, slots := 0, locals := 20 })
theorem zi_X0_keptProduct : zCal zm_X0_keptProduct 0 := ⟨zmem_1 2 (by decide +kernel) rfl, zmem_4 4 (by decide +kernel) rfl, by decide +kernel, by decide +kernel, by decide +kernel⟩
theorem zii_X0_keptProduct : Cond.instanceMethod yX0_keptProduct ∈ ztbl := zmem_4 2 (by decide +kernel) rfl
theorem zie_X0_keptProduct : Cond.selects zm_X0_keptProduct.1.cls yX0_keptProduct yX0_keptProduct ∈ ztbl := zmem_4 3 (by decide +kernel) rfl
abbrev zm_X10_feed : zM := (yX10_feed, cX10_feed, 2, (some .int), { frames := 1, cells := 0, slots := 0, locals := 21 })
theorem zi_X10_feed : zCal zm_X10_feed 1 := ⟨zmem_1 1 (by decide +kernel) rfl, zmem_4 8 (by decide +kernel) rfl, by decide +kernel, by decide +kernel, by decide +kernel⟩
theorem zii_X10_feed : Cond.instanceMethod yX10_feed ∈ ztbl := zmem_4 6 (by decide +kernel) rfl
theorem zie_X10_feed : Cond.selects zm_X10_feed.1.cls yX10_feed yX10_feed ∈ ztbl := zmem_4 7 (by decide +kernel) rfl
abbrev zm_X8_append : zM := (yX8_append, cX8_append, 2, none, { frames := 0, cells := 0, slots := 0, locals := 0 })
theorem zi_X8_append : zCal zm_X8_append 1 := ⟨zmem_1 10 (by decide +kernel) rfl, zmem_4 12 (by decide +kernel) rfl, by decide +kernel, by decide +kernel, by decide +kernel⟩
theorem zii_X8_append : Cond.instanceMethod yX8_append ∈ ztbl := zmem_4 10 (by decide +kernel) rfl
theorem zie_X8_append : Cond.selects zm_X8_append.1.cls yX8_append yX8_append ∈ ztbl := zmem_4 11 (by decide +kernel) rfl
abbrev zm_X10_deeds : zM := (yX10_deeds, cX10_deeds, 5, (some .int), { frames := 8, cells := 0, slots := 0, locals := 177 })
theorem zi_X10_deeds : zCal zm_X10_deeds 0 := ⟨zmem_1 1 (by decide +kernel) rfl, zmem_4 16 (by decide +kernel) rfl, by decide +kernel, by decide +kernel, by decide +kernel⟩
theorem zii_X10_deeds : Cond.instanceMethod yX10_deeds ∈ ztbl := zmem_4 14 (by decide +kernel) rfl
theorem zie_X10_deeds : Cond.selects zm_X10_deeds.1.cls yX10_deeds yX10_deeds ∈ ztbl := zmem_4 15 (by decide +kernel) rfl
abbrev zm_X5_parse : zM := (yX5_parse, cX5_parse, 3, (some .boolean), { frames := 7, cells := 0, slots := 0, locals := 155 })
theorem zi_X5_parse : zCal zm_X5_parse 1 := ⟨zmem_1 11 (by decide +kernel) rfl, zmem_4 20 (by decide +kernel) rfl, by decide +kernel, by decide +kernel, by decide +kernel⟩
theorem zii_X5_parse : Cond.instanceMethod yX5_parse ∈ ztbl := zmem_4 18 (by decide +kernel) rfl
theorem zie_X5_parse : Cond.selects zm_X5_parse.1.cls yX5_parse yX5_parse ∈ ztbl := zmem_4 19 (by decide +kernel) rfl
abbrev zm_X8_rewind : zM := (yX8_rewind, cX8_rewind, 1, none, { frames := 0, cells := 0, slots := 0, locals := 0 })
theorem zi_X8_rewind : zCal zm_X8_rewind 0 := ⟨zmem_1 10 (by decide +kernel) rfl, zmem_4 24 (by decide +kernel) rfl, by decide +kernel, by decide +kernel, by decide +kernel⟩
theorem zii_X8_rewind : Cond.instanceMethod yX8_rewind ∈ ztbl := zmem_4 22 (by decide +kernel) rfl
theorem zie_X8_rewind : Cond.selects zm_X8_rewind.1.cls yX8_rewind yX8_rewind ∈ ztbl := zmem_4 23 (by decide +kernel) rfl
abbrev zm_X5_parseCommand : zM := (yX5_parseCommand, cX5_parseCommand, 6, (some .boolean), { frames := 6, cells := 0, slots := 0, locals := 130 })
theorem zi_X5_parseCommand : zCal zm_X5_parseCommand 1 := ⟨zmem_1 11 (by decide +kernel) rfl, zmem_4 28 (by decide +kernel) rfl, by decide +kernel, by decide +kernel, by decide +kernel⟩
theorem zii_X5_parseCommand : Cond.instanceMethod yX5_parseCommand ∈ ztbl := zmem_4 27 (by decide +kernel) rfl
theorem zie_X5_parseCommand : Cond.selects zm_X5_parseCommand.1.cls yX5_parseCommand yX5_parseCommand ∈ ztbl := zmemp 19 (by decide +kernel) rfl
abbrev zm_X8_wordEnd : zM := (yX8_wordEnd, cX8_wordEnd, 2, (some .int), { frames := 0, cells := 0, slots := 0, locals := 0 })
theorem zi_X8_wordEnd : zCal zm_X8_wordEnd 0 := ⟨zmem_1 10 (by decide +kernel) rfl, zmem_4 32 (by decide +kernel) rfl, by decide +kernel, by decide +kernel, by decide +kernel⟩
theorem zii_X8_wordEnd : Cond.instanceMethod yX8_wordEnd ∈ ztbl := zmem_4 30 (by decide +kernel) rfl
theorem zie_X8_wordEnd : Cond.selects zm_X8_wordEnd.1.cls yX8_wordEnd yX8_wordEnd ∈ ztbl := zmem_4 31 (by decide +kernel) rfl
abbrev zm_X5_commandAt : zM := (yX5_commandAt, cX5_commandAt, 3, (some .int), { frames := 5, cells := 0, slots := 0, locals := 108 })
theorem zi_X5_commandAt : zCal zm_X5_commandAt 2 := ⟨zmem_1 11 (by decide +kernel) rfl, zmem_4 35 (by decide +kernel) rfl, by decide +kernel, by decide +kernel, by decide +kernel⟩
theorem zis_X5_commandAt : Cond.static yX5_commandAt ∈ ztbl := zmem_4 34 (by decide +kernel) rfl
abbrev zm_X5_wordOf : zM := (yX5_wordOf, cX5_wordOf, 1, (some (.object "java/lang/String")), { frames := 0, cells := 0, slots := 0, locals := 0 })
theorem zi_X5_wordOf : zCal zm_X5_wordOf 1 := ⟨zmem_1 11 (by decide +kernel) rfl, zmem_4 38 (by decide +kernel) rfl, by decide +kernel, by decide +kernel, by decide +kernel⟩
theorem zis_X5_wordOf : Cond.static yX5_wordOf ∈ ztbl := zmem_4 37 (by decide +kernel) rfl
abbrev zm_X8_hasWord : zM := (yX8_hasWord, cX8_hasWord, 4, (some .boolean), { frames := 4, cells := 0, slots := 0, locals := 85 })
theorem zi_X8_hasWord : zCal zm_X8_hasWord 2 := ⟨zmem_1 10 (by decide +kernel) rfl, zmem_4 51 (by decide +kernel) rfl, by decide +kernel, by decide +kernel, by decide +kernel⟩
theorem zii_X8_hasWord : Cond.instanceMethod yX8_hasWord ∈ ztbl := zmem_4 49 (by decide +kernel) rfl
theorem zie_X8_hasWord : Cond.selects zm_X8_hasWord.1.cls yX8_hasWord yX8_hasWord ∈ ztbl := zmem_4 50 (by decide +kernel) rfl
abbrev zm_J0_length_8abf5 : zM := (yJ0_length_8abf5, cJ0_length_8abf5, 1, (some .int), { frames := 1, cells := 0, slots := 0, locals := 20 })
theorem zi_J0_length_8abf5 : zCal zm_J0_length_8abf5 0 := ⟨zmem_1 16 (by decide +kernel) rfl, zmem_4 55 (by decide +kernel) rfl, by decide +kernel, by decide +kernel, by decide +kernel⟩
theorem zii_J0_length_8abf5 : Cond.instanceMethod yJ0_length_8abf5 ∈ ztbl := zmem_4 53 (by decide +kernel) rfl
theorem zie_J0_length_8abf5 : Cond.selects zm_J0_length_8abf5.1.cls yJ0_length_8abf5 yJ0_length_8abf5 ∈ ztbl := zmem_4 54 (by decide +kernel) rfl
abbrev zm_J0_coder_7d493 : zM := (yJ0_coder_7d493, cJ0_coder_7d493, 1, (some .byte), { frames := 0, cells := 0, slots := 0, locals := 0 })
theorem zi_J0_coder_7d493 : zCal zm_J0_coder_7d493 0 := ⟨zmem_1 16 (by decide +kernel) rfl, zmem_4 59 (by decide +kernel) rfl, by decide +kernel, by decide +kernel, by decide +kernel⟩
theorem zii_J0_coder_7d493 : Cond.instanceMethod yJ0_coder_7d493 ∈ ztbl := zmem_4 57 (by decide +kernel) rfl
theorem zie_J0_coder_7d493 : Cond.selects zm_J0_coder_7d493.1.cls yJ0_coder_7d493 yJ0_coder_7d493 ∈ ztbl := zmem_4 58 (by decide +kernel) rfl
abbrev zm_J0_charAt_5068e : zM := (yJ0_charAt_5068e, cJ0_charAt_5068e, 2, (some .char), { frames := 3, cells := 0, slots := 0, locals := 64 })
theorem zi_J0_charAt_5068e : zCal zm_J0_charAt_5068e 1 := ⟨zmem_1 16 (by decide +kernel) rfl, zmem_4 65 (by decide +kernel) rfl, by decide +kernel, by decide +kernel, by decide +kernel⟩
theorem zii_J0_charAt_5068e : Cond.instanceMethod yJ0_charAt_5068e ∈ ztbl := zmem_4 63 (by decide +kernel) rfl
theorem zie_J0_charAt_5068e : Cond.selects zm_J0_charAt_5068e.1.cls yJ0_charAt_5068e yJ0_charAt_5068e ∈ ztbl := zmem_4 64 (by decide +kernel) rfl
abbrev zm_J0_isLatin1_aae02 : zM := (yJ0_isLatin1_aae02, cJ0_isLatin1_aae02, 1, (some .boolean), { frames := 0, cells := 0, slots := 0, locals := 0 })
theorem zi_J0_isLatin1_aae02 : zCal zm_J0_isLatin1_aae02 0 := ⟨zmem_1 16 (by decide +kernel) rfl, zmem_4 69 (by decide +kernel) rfl, by decide +kernel, by decide +kernel, by decide +kernel⟩
theorem zii_J0_isLatin1_aae02 : Cond.instanceMethod yJ0_isLatin1_aae02 ∈ ztbl := zmem_4 67 (by decide +kernel) rfl
theorem zie_J0_isLatin1_aae02 : Cond.selects zm_J0_isLatin1_aae02.1.cls yJ0_isLatin1_aae02 yJ0_isLatin1_aae02 ∈ ztbl := zmem_4 68 (by decide +kernel) rfl
abbrev zm_J1_charAt_3b067 : zM := (yJ1_charAt_3b067, cJ1_charAt_3b067, 2, (some .char), { frames := 2, cells := 0, slots := 0, locals := 43 })
theorem zi_J1_charAt_3b067 : zCal zm_J1_charAt_3b067 2 := ⟨zmem_1 17 (by decide +kernel) rfl, zmem_4 72 (by decide +kernel) rfl, by decide +kernel, by decide +kernel, by decide +kernel⟩
theorem zis_J1_charAt_3b067 : Cond.static yJ1_charAt_3b067 ∈ ztbl := zmem_4 71 (by decide +kernel) rfl
abbrev zm_J0_checkIndex_df160 : zM := (yJ0_checkIndex_df160, cJ0_checkIndex_df160, 2, none, { frames := 1, cells := 0, slots := 0, locals := 22 })
theorem zi_J0_checkIndex_df160 : zCal zm_J0_checkIndex_df160 2 := ⟨zmem_1 16 (by decide +kernel) rfl, zmem_4 75 (by decide +kernel) rfl, by decide +kernel, by decide +kernel, by decide +kernel⟩
theorem zis_J0_checkIndex_df160 : Cond.static yJ0_checkIndex_df160 ∈ ztbl := zmem_4 74 (by decide +kernel) rfl
abbrev zm_J3_checkIndex_8e157 : zM := (yJ3_checkIndex_8e157, cJ3_checkIndex_8e157, 3, (some .int), { frames := 0, cells := 0, slots := 0, locals := 0 })
theorem zi_J3_checkIndex_8e157 : zCal zm_J3_checkIndex_8e157 3 := ⟨zmem_1 18 (by decide +kernel) rfl, zmem_4 80 (by decide +kernel) rfl, by decide +kernel, by decide +kernel, by decide +kernel⟩
theorem zis_J3_checkIndex_8e157 : Cond.static yJ3_checkIndex_8e157 ∈ ztbl := zmem_4 79 (by decide +kernel) rfl
abbrev zm_X5_numbersAfter : zM := (yX5_numbersAfter, cX5_numbersAfter, 1, (some .int), { frames := 0, cells := 0, slots := 0, locals := 0 })
theorem zi_X5_numbersAfter : zCal zm_X5_numbersAfter 1 := ⟨zmem_1 11 (by decide +kernel) rfl, zmem_4 102 (by decide +kernel) rfl, by decide +kernel, by decide +kernel, by decide +kernel⟩
theorem zis_X5_numbersAfter : Cond.static yX5_numbersAfter ∈ ztbl := zmem_4 101 (by decide +kernel) rfl
abbrev zm_X8_accept : zM := (yX8_accept, cX8_accept, 2, (some .boolean), { frames := 0, cells := 0, slots := 0, locals := 0 })
theorem zi_X8_accept : zCal zm_X8_accept 1 := ⟨zmem_1 10 (by decide +kernel) rfl, zmem_4 106 (by decide +kernel) rfl, by decide +kernel, by decide +kernel, by decide +kernel⟩
theorem zii_X8_accept : Cond.instanceMethod yX8_accept ∈ ztbl := zmem_4 104 (by decide +kernel) rfl
theorem zie_X8_accept : Cond.selects zm_X8_accept.1.cls yX8_accept yX8_accept ∈ ztbl := zmem_4 105 (by decide +kernel) rfl
abbrev zm_X8_acceptSignedNumber : zM := (yX8_acceptSignedNumber, cX8_acceptSignedNumber, 3, (some .boolean), { frames := 2, cells := 0, slots := 0, locals := 43 })
theorem zi_X8_acceptSignedNumber : zCal zm_X8_acceptSignedNumber 0 := ⟨zmem_1 10 (by decide +kernel) rfl, zmem_4 110 (by decide +kernel) rfl, by decide +kernel, by decide +kernel, by decide +kernel⟩
theorem zii_X8_acceptSignedNumber : Cond.instanceMethod yX8_acceptSignedNumber ∈ ztbl := zmem_4 108 (by decide +kernel) rfl
theorem zie_X8_acceptSignedNumber : Cond.selects zm_X8_acceptSignedNumber.1.cls yX8_acceptSignedNumber yX8_acceptSignedNumber ∈ ztbl := zmem_4 109 (by decide +kernel) rfl
abbrev zm_X8_acceptNumber : zM := (yX8_acceptNumber, cX8_acceptNumber, 2, (some .boolean), { frames := 1, cells := 0, slots := 0, locals := 22 })
theorem zi_X8_acceptNumber : zCal zm_X8_acceptNumber 0 := ⟨zmem_1 10 (by decide +kernel) rfl, zmem_4 115 (by decide +kernel) rfl, by decide +kernel, by decide +kernel, by decide +kernel⟩
theorem zii_X8_acceptNumber : Cond.instanceMethod yX8_acceptNumber ∈ ztbl := zmem_4 113 (by decide +kernel) rfl
theorem zie_X8_acceptNumber : Cond.selects zm_X8_acceptNumber.1.cls yX8_acceptNumber yX8_acceptNumber ∈ ztbl := zmem_4 114 (by decide +kernel) rfl
abbrev zm_X8_isAtDigit : zM := (yX8_isAtDigit, cX8_isAtDigit, 3, (some .boolean), { frames := 0, cells := 0, slots := 0, locals := 0 })
theorem zi_X8_isAtDigit : zCal zm_X8_isAtDigit 2 := ⟨zmem_1 10 (by decide +kernel) rfl, zmem_4 119 (by decide +kernel) rfl, by decide +kernel, by decide +kernel, by decide +kernel⟩
theorem zii_X8_isAtDigit : Cond.instanceMethod yX8_isAtDigit ∈ ztbl := zmem_4 117 (by decide +kernel) rfl
theorem zie_X8_isAtDigit : Cond.selects zm_X8_isAtDigit.1.cls yX8_isAtDigit yX8_isAtDigit ∈ ztbl := zmem_4 118 (by decide +kernel) rfl
abbrev zm_X8_isAtEnd : zM := (yX8_isAtEnd, cX8_isAtEnd, 1, (some .boolean), { frames := 0, cells := 0, slots := 0, locals := 0 })
theorem zi_X8_isAtEnd : zCal zm_X8_isAtEnd 0 := ⟨zmem_1 10 (by decide +kernel) rfl, zmem_4 123 (by decide +kernel) rfl, by decide +kernel, by decide +kernel, by decide +kernel⟩
theorem zii_X8_isAtEnd : Cond.instanceMethod yX8_isAtEnd ∈ ztbl := zmem_4 121 (by decide +kernel) rfl
theorem zie_X8_isAtEnd : Cond.selects zm_X8_isAtEnd.1.cls yX8_isAtEnd yX8_isAtEnd ∈ ztbl := zmem_4 122 (by decide +kernel) rfl
abbrev zm_X8_clear : zM := (yX8_clear, cX8_clear, 1, none, { frames := 0, cells := 0, slots := 0, locals := 0 })
theorem zi_X8_clear : zCal zm_X8_clear 0 := ⟨zmem_1 10 (by decide +kernel) rfl, zmem_4 127 (by decide +kernel) rfl, by decide +kernel, by decide +kernel, by decide +kernel⟩
theorem zii_X8_clear : Cond.instanceMethod yX8_clear ∈ ztbl := zmem_4 125 (by decide +kernel) rfl
theorem zie_X8_clear : Cond.selects zm_X8_clear.1.cls yX8_clear yX8_clear ∈ ztbl := zmem_4 126 (by decide +kernel) rfl
abbrev zm_X10_carryOut : zM := (yX10_carryOut, cX10_carryOut, 5, (some .int), { frames := 6, cells := 0, slots := 0, locals := 148 })
theorem zi_X10_carryOut : zCal zm_X10_carryOut 1 := ⟨zmem_1 1 (by decide +kernel) rfl, zmem_4 131 (by decide +kernel) rfl, by decide +kernel, by decide +kernel, by decide +kernel⟩
theorem zii_X10_carryOut : Cond.instanceMethod yX10_carryOut ∈ ztbl := zmem_4 130 (by decide +kernel) rfl
theorem zie_X10_carryOut : Cond.selects zm_X10_carryOut.1.cls yX10_carryOut yX10_carryOut ∈ ztbl := zmemp 20 (by decide +kernel) rfl
abbrev zm_X5_numberOf : zM := (yX5_numberOf, cX5_numberOf, 3, (some .int), { frames := 0, cells := 0, slots := 0, locals := 0 })
theorem zi_X5_numberOf : zCal zm_X5_numberOf 2 := ⟨zmem_1 11 (by decide +kernel) rfl, zmem_4 135 (by decide +kernel) rfl, by decide +kernel, by decide +kernel, by decide +kernel⟩
theorem zii_X5_numberOf : Cond.instanceMethod yX5_numberOf ∈ ztbl := zmem_4 133 (by decide +kernel) rfl
theorem zie_X5_numberOf : Cond.selects zm_X5_numberOf.1.cls yX5_numberOf yX5_numberOf ∈ ztbl := zmem_4 134 (by decide +kernel) rfl
abbrev zm_X10_read : zM := (yX10_read, cX10_read, 3, (some .int), { frames := 4, cells := 0, slots := 0, locals := 93 })
theorem zi_X10_read : zCal zm_X10_read 0 := ⟨zmem_1 1 (by decide +kernel) rfl, zmem_4 149 (by decide +kernel) rfl, by decide +kernel, by decide +kernel, by decide +kernel⟩
theorem zii_X10_read : Cond.instanceMethod yX10_read ∈ ztbl := zmem_4 147 (by decide +kernel) rfl
theorem zie_X10_read : Cond.selects zm_X10_read.1.cls yX10_read yX10_read ∈ ztbl := zmem_4 148 (by decide +kernel) rfl
abbrev zm_X4_parse : zM := (yX4_parse, cX4_parse, 5, (some .boolean), { frames := 3, cells := 0, slots := 0, locals := 69 })
theorem zi_X4_parse : zCal zm_X4_parse 2 := ⟨zmem_1 12 (by decide +kernel) rfl, zmem_4 153 (by decide +kernel) rfl, by decide +kernel, by decide +kernel, by decide +kernel⟩
theorem zii_X4_parse : Cond.instanceMethod yX4_parse ∈ ztbl := zmem_4 151 (by decide +kernel) rfl
theorem zie_X4_parse : Cond.selects zm_X4_parse.1.cls yX4_parse yX4_parse ∈ ztbl := zmem_4 152 (by decide +kernel) rfl
abbrev zm_X4_parseTerm : zM := (yX4_parseTerm, cX4_parseTerm, 7, (some .boolean), { frames := 2, cells := 0, slots := 0, locals := 43 })
theorem zi_X4_parseTerm : zCal zm_X4_parseTerm 2 := ⟨zmem_1 12 (by decide +kernel) rfl, zmem_4 159 (by decide +kernel) rfl, by decide +kernel, by decide +kernel, by decide +kernel⟩
theorem zii_X4_parseTerm : Cond.instanceMethod yX4_parseTerm ∈ ztbl := zmem_4 158 (by decide +kernel) rfl
theorem zie_X4_parseTerm : Cond.selects zm_X4_parseTerm.1.cls yX4_parseTerm yX4_parseTerm ∈ ztbl := zmemp 21 (by decide +kernel) rfl
abbrev zm_X8_acceptExponent : zM := (yX8_acceptExponent, cX8_acceptExponent, 1, (some .boolean), { frames := 1, cells := 0, slots := 0, locals := 22 })
theorem zi_X8_acceptExponent : zCal zm_X8_acceptExponent 0 := ⟨zmem_1 10 (by decide +kernel) rfl, zmem_4 165 (by decide +kernel) rfl, by decide +kernel, by decide +kernel, by decide +kernel⟩
theorem zii_X8_acceptExponent : Cond.instanceMethod yX8_acceptExponent ∈ ztbl := zmem_4 163 (by decide +kernel) rfl
theorem zie_X8_acceptExponent : Cond.selects zm_X8_acceptExponent.1.cls yX8_acceptExponent yX8_acceptExponent ∈ ztbl := zmem_4 164 (by decide +kernel) rfl
abbrev zm_X10_write : zM := (yX10_write, cX10_write, 1, (some .int), { frames := 4, cells := 0, slots := 0, locals := 89 })
theorem zi_X10_write : zCal zm_X10_write 0 := ⟨zmem_1 1 (by decide +kernel) rfl, zmem_4 171 (by decide +kernel) rfl, by decide +kernel, by decide +kernel, by decide +kernel⟩
theorem zii_X10_write : Cond.instanceMethod yX10_write ∈ ztbl := zmem_4 169 (by decide +kernel) rfl
theorem zie_X10_write : Cond.selects zm_X10_write.1.cls yX10_write yX10_write ∈ ztbl := zmem_4 170 (by decide +kernel) rfl
abbrev zm_X4_putDown : zM := (yX4_putDown, cX4_putDown, 5, none, { frames := 3, cells := 0, slots := 0, locals := 65 })
theorem zi_X4_putDown : zCal zm_X4_putDown 1 := ⟨zmem_1 12 (by decide +kernel) rfl, zmem_4 175 (by decide +kernel) rfl, by decide +kernel, by decide +kernel, by decide +kernel⟩
theorem zii_X4_putDown : Cond.instanceMethod yX4_putDown ∈ ztbl := zmem_4 173 (by decide +kernel) rfl
theorem zie_X4_putDown : Cond.selects zm_X4_putDown.1.cls yX4_putDown yX4_putDown ∈ ztbl := zmem_4 174 (by decide +kernel) rfl
abbrev zm_X4_putTerm : zM := (yX4_putTerm, cX4_putTerm, 4, none, { frames := 2, cells := 0, slots := 0, locals := 42 })
theorem zi_X4_putTerm : zCal zm_X4_putTerm 3 := ⟨zmem_1 12 (by decide +kernel) rfl, zmem_4 179 (by decide +kernel) rfl, by decide +kernel, by decide +kernel, by decide +kernel⟩
theorem zii_X4_putTerm : Cond.instanceMethod yX4_putTerm ∈ ztbl := zmem_4 178 (by decide +kernel) rfl
theorem zie_X4_putTerm : Cond.selects zm_X4_putTerm.1.cls yX4_putTerm yX4_putTerm ∈ ztbl := zmemp 22 (by decide +kernel) rfl
abbrev zm_X4_putByte : zM := (yX4_putByte, cX4_putByte, 2, none, { frames := 0, cells := 0, slots := 0, locals := 0 })
theorem zi_X4_putByte : zCal zm_X4_putByte 1 := ⟨zmem_1 12 (by decide +kernel) rfl, zmem_4 183 (by decide +kernel) rfl, by decide +kernel, by decide +kernel, by decide +kernel⟩
theorem zii_X4_putByte : Cond.instanceMethod yX4_putByte ∈ ztbl := zmem_4 182 (by decide +kernel) rfl
theorem zie_X4_putByte : Cond.selects zm_X4_putByte.1.cls yX4_putByte yX4_putByte ∈ ztbl := zmemp 23 (by decide +kernel) rfl
abbrev zm_X4_putNumber : zM := (yX4_putNumber, cX4_putNumber, 2, none, { frames := 1, cells := 0, slots := 0, locals := 21 })
theorem zi_X4_putNumber : zCal zm_X4_putNumber 1 := ⟨zmem_1 12 (by decide +kernel) rfl, zmem_4 187 (by decide +kernel) rfl, by decide +kernel, by decide +kernel, by decide +kernel⟩
theorem zii_X4_putNumber : Cond.instanceMethod yX4_putNumber ∈ ztbl := zmem_4 186 (by decide +kernel) rfl
theorem zie_X4_putNumber : Cond.selects zm_X4_putNumber.1.cls yX4_putNumber yX4_putNumber ∈ ztbl := zmemp 24 (by decide +kernel) rfl
abbrev zm_X10_paper : zM := (yX10_paper, cX10_paper, 2, (some .int), { frames := 0, cells := 0, slots := 0, locals := 0 })
theorem zi_X10_paper : zCal zm_X10_paper 1 := ⟨zmem_1 1 (by decide +kernel) rfl, zmem_4 191 (by decide +kernel) rfl, by decide +kernel, by decide +kernel, by decide +kernel⟩
theorem zii_X10_paper : Cond.instanceMethod yX10_paper ∈ ztbl := zmem_4 189 (by decide +kernel) rfl
theorem zie_X10_paper : Cond.selects zm_X10_paper.1.cls yX10_paper yX10_paper ∈ ztbl := zmem_4 190 (by decide +kernel) rfl
abbrev zm_X10_list : zM := (yX10_list, cX10_list, 3, (some .int), { frames := 1, cells := 0, slots := 0, locals := 23 })
theorem zi_X10_list : zCal zm_X10_list 2 := ⟨zmem_1 1 (by decide +kernel) rfl, zmem_4 195 (by decide +kernel) rfl, by decide +kernel, by decide +kernel, by decide +kernel⟩
theorem zii_X10_list : Cond.instanceMethod yX10_list ∈ ztbl := zmem_4 193 (by decide +kernel) rfl
theorem zie_X10_list : Cond.selects zm_X10_list.1.cls yX10_list yX10_list ∈ ztbl := zmem_4 194 (by decide +kernel) rfl
abbrev zm_X10_put : zM := (yX10_put, cX10_put, 4, (some .int), { frames := 1, cells := 0, slots := 0, locals := 20 })
theorem zi_X10_put : zCal zm_X10_put 3 := ⟨zmem_1 1 (by decide +kernel) rfl, zmem_4 199 (by decide +kernel) rfl, by decide +kernel, by decide +kernel, by decide +kernel⟩
theorem zii_X10_put : Cond.instanceMethod yX10_put ∈ ztbl := zmem_4 197 (by decide +kernel) rfl
theorem zie_X10_put : Cond.selects zm_X10_put.1.cls yX10_put yX10_put ∈ ztbl := zmem_4 198 (by decide +kernel) rfl
abbrev zm_X10_get : zM := (yX10_get, cX10_get, 3, (some .long), { frames := 1, cells := 0, slots := 0, locals := 20 })
theorem zi_X10_get : zCal zm_X10_get 2 := ⟨zmem_1 1 (by decide +kernel) rfl, zmem_4 203 (by decide +kernel) rfl, by decide +kernel, by decide +kernel, by decide +kernel⟩
theorem zii_X10_get : Cond.instanceMethod yX10_get ∈ ztbl := zmem_4 201 (by decide +kernel) rfl
theorem zie_X10_get : Cond.selects zm_X10_get.1.cls yX10_get yX10_get ∈ ztbl := zmem_4 202 (by decide +kernel) rfl
abbrev zm_X10_lay : zM := (yX10_lay, cX10_lay, 4, (some .int), { frames := 1, cells := 0, slots := 0, locals := 26 })
theorem zi_X10_lay : zCal zm_X10_lay 2 := ⟨zmem_1 1 (by decide +kernel) rfl, zmem_4 207 (by decide +kernel) rfl, by decide +kernel, by decide +kernel, by decide +kernel⟩
theorem zii_X10_lay : Cond.instanceMethod yX10_lay ∈ ztbl := zmem_4 205 (by decide +kernel) rfl
theorem zie_X10_lay : Cond.selects zm_X10_lay.1.cls yX10_lay yX10_lay ∈ ztbl := zmem_4 206 (by decide +kernel) rfl
abbrev zm_X10_judge : zM := (yX10_judge, cX10_judge, 5, (some .int), { frames := 1, cells := 0, slots := 0, locals := 20 })
theorem zi_X10_judge : zCal zm_X10_judge 2 := ⟨zmem_1 1 (by decide +kernel) rfl, zmem_4 213 (by decide +kernel) rfl, by decide +kernel, by decide +kernel, by decide +kernel⟩
theorem zii_X10_judge : Cond.instanceMethod yX10_judge ∈ ztbl := zmem_4 211 (by decide +kernel) rfl
theorem zie_X10_judge : Cond.selects zm_X10_judge.1.cls yX10_judge yX10_judge ∈ ztbl := zmem_4 212 (by decide +kernel) rfl
abbrev zm_X10_image : zM := (yX10_image, cX10_image, 1, (some .int), { frames := 4, cells := 0, slots := 0, locals := 92 })
theorem zi_X10_image : zCal zm_X10_image 0 := ⟨zmem_1 1 (by decide +kernel) rfl, zmem_4 217 (by decide +kernel) rfl, by decide +kernel, by decide +kernel, by decide +kernel⟩
theorem zii_X10_image : Cond.instanceMethod yX10_image ∈ ztbl := zmem_4 215 (by decide +kernel) rfl
theorem zie_X10_image : Cond.selects zm_X10_image.1.cls yX10_image yX10_image ∈ ztbl := zmem_4 216 (by decide +kernel) rfl
abbrev zm_X0_copyFrom : zM := (yX0_copyFrom, cX0_copyFrom, 3, none, { frames := 3, cells := 0, slots := 0, locals := 70 })
theorem zi_X0_copyFrom : zCal zm_X0_copyFrom 1 := ⟨zmem_1 2 (by decide +kernel) rfl, zmem_4 221 (by decide +kernel) rfl, by decide +kernel, by decide +kernel, by decide +kernel⟩
theorem zii_X0_copyFrom : Cond.instanceMethod yX0_copyFrom ∈ ztbl := zmem_4 219 (by decide +kernel) rfl
theorem zie_X0_copyFrom : Cond.selects zm_X0_copyFrom.1.cls yX0_copyFrom yX0_copyFrom ∈ ztbl := zmem_4 220 (by decide +kernel) rfl
abbrev zm_X6_copyFrom : zM := (yX6_copyFrom, cX6_copyFrom, 2, none, { frames := 2, cells := 0, slots := 0, locals := 49 })
theorem zi_X6_copyFrom : zCal zm_X6_copyFrom 1 := ⟨zmem_1 4 (by decide +kernel) rfl, zmem_4 226 (by decide +kernel) rfl, by decide +kernel, by decide +kernel, by decide +kernel⟩
theorem zii_X6_copyFrom : Cond.instanceMethod yX6_copyFrom ∈ ztbl := zmem_4 224 (by decide +kernel) rfl
theorem zie_X6_copyFrom : Cond.selects zm_X6_copyFrom.1.cls yX6_copyFrom yX6_copyFrom ∈ ztbl := zmem_4 225 (by decide +kernel) rfl
abbrev zm_X0_seriesCount : zM := (yX0_seriesCount, cX0_seriesCount, 3, (some .int), { frames := 1, cells := 0, slots := 0, locals := 20 })
theorem zi_X0_seriesCount : zCal zm_X0_seriesCount 0 := ⟨zmem_1 2 (by decide +kernel) rfl, zmem_4 231 (by decide +kernel) rfl, by decide +kernel, by decide +kernel, by decide +kernel⟩
theorem zii_X0_seriesCount : Cond.instanceMethod yX0_seriesCount ∈ ztbl := zmem_4 229 (by decide +kernel) rfl
theorem zie_X0_seriesCount : Cond.selects zm_X0_seriesCount.1.cls yX0_seriesCount yX0_seriesCount ∈ ztbl := zmem_4 230 (by decide +kernel) rfl
abbrev zm_X10_back : zM := (yX10_back, cX10_back, 1, (some .int), { frames := 4, cells := 0, slots := 0, locals := 92 })
theorem zi_X10_back : zCal zm_X10_back 0 := ⟨zmem_1 1 (by decide +kernel) rfl, zmem_4 236 (by decide +kernel) rfl, by decide +kernel, by decide +kernel, by decide +kernel⟩
theorem zii_X10_back : Cond.instanceMethod yX10_back ∈ ztbl := zmem_4 234 (by decide +kernel) rfl
theorem zie_X10_back : Cond.selects zm_X10_back.1.cls yX10_back yX10_back ∈ ztbl := zmem_4 235 (by decide +kernel) rfl
abbrev zm_X10_count : zM := (yX10_count, cX10_count, 2, (some .int), { frames := 2, cells := 0, slots := 0, locals := 42 })
theorem zi_X10_count : zCal zm_X10_count 1 := ⟨zmem_1 1 (by decide +kernel) rfl, zmem_5 0 (by decide +kernel) rfl, by decide +kernel, by decide +kernel, by decide +kernel⟩
theorem zii_X10_count : Cond.instanceMethod yX10_count ∈ ztbl := zmem_4 238 (by decide +kernel) rfl
theorem zie_X10_count : Cond.selects zm_X10_count.1.cls yX10_count yX10_count ∈ ztbl := zmem_4 239 (by decide +kernel) rfl
abbrev zm_X11_init : zM := (yX11_init, cX11_init, 1, none, { frames := 1, cells := 32, slots := 19363, locals := 20 })
theorem zi_X11_init : zCal zm_X11_init 0 := ⟨zmem_1 13 (by decide +kernel) rfl, zmem_5 5 (by decide +kernel) rfl, by decide +kernel, by decide +kernel, by decide +kernel⟩
theorem zii_X11_init : Cond.instanceMethod yX11_init ∈ ztbl := zmem_5 4 (by decide +kernel) rfl
abbrev zm_X11_prime : zM := (yX11_prime, cX11_prime, 4, (some .int), { frames := 2, cells := 0, slots := 0, locals := 47 })
theorem zi_X11_prime : zCal zm_X11_prime 1 := ⟨zmem_1 13 (by decide +kernel) rfl, zmem_5 161 (by decide +kernel) rfl, by decide +kernel, by decide +kernel, by decide +kernel⟩
theorem zii_X11_prime : Cond.instanceMethod yX11_prime ∈ ztbl := zmem_5 159 (by decide +kernel) rfl
theorem zie_X11_prime : Cond.selects zm_X11_prime.1.cls yX11_prime yX11_prime ∈ ztbl := zmem_5 160 (by decide +kernel) rfl
abbrev zm_X11_isPrime : zM := (yX11_isPrime, cX11_isPrime, 3, (some .boolean), { frames := 1, cells := 0, slots := 0, locals := 25 })
theorem zi_X11_isPrime : zCal zm_X11_isPrime 1 := ⟨zmem_1 13 (by decide +kernel) rfl, zmem_5 164 (by decide +kernel) rfl, by decide +kernel, by decide +kernel, by decide +kernel⟩
theorem zis_X11_isPrime : Cond.static yX11_isPrime ∈ ztbl := zmem_5 163 (by decide +kernel) rfl
abbrev zm_X11_in : zM := (yX11_in, cX11_in, 6, (some .boolean), { frames := 0, cells := 0, slots := 0, locals := 0 })
theorem zi_X11_in : zCal zm_X11_in 3 := ⟨zmem_1 13 (by decide +kernel) rfl, zmem_5 169 (by decide +kernel) rfl, by decide +kernel, by decide +kernel, by decide +kernel⟩
theorem zis_X11_in : Cond.static yX11_in ∈ ztbl := zmem_5 168 (by decide +kernel) rfl
abbrev zm_X11_j : zM := (yX11_j, cX11_j, 7, (some .int), { frames := 2, cells := 0, slots := 0, locals := 49 })
theorem zi_X11_j : zCal zm_X11_j 2 := ⟨zmem_1 13 (by decide +kernel) rfl, zmem_5 173 (by decide +kernel) rfl, by decide +kernel, by decide +kernel, by decide +kernel⟩
theorem zii_X11_j : Cond.instanceMethod yX11_j ∈ ztbl := zmem_5 171 (by decide +kernel) rfl
theorem zie_X11_j : Cond.selects zm_X11_j.1.cls yX11_j yX11_j ∈ ztbl := zmem_5 172 (by decide +kernel) rfl
abbrev zm_X11_isSeries : zM := (yX11_isSeries, cX11_isSeries, 1, (some .boolean), { frames := 1, cells := 0, slots := 0, locals := 25 })
theorem zi_X11_isSeries : zCal zm_X11_isSeries 1 := ⟨zmem_1 13 (by decide +kernel) rfl, zmem_5 176 (by decide +kernel) rfl, by decide +kernel, by decide +kernel, by decide +kernel⟩
theorem zis_X11_isSeries : Cond.static yX11_isSeries ∈ ztbl := zmem_5 175 (by decide +kernel) rfl
abbrev zm_X11_whole : zM := (yX11_whole, cX11_whole, 3, (some .int), { frames := 0, cells := 0, slots := 0, locals := 0 })
theorem zi_X11_whole : zCal zm_X11_whole 1 := ⟨zmem_1 13 (by decide +kernel) rfl, zmem_5 182 (by decide +kernel) rfl, by decide +kernel, by decide +kernel, by decide +kernel⟩
theorem zii_X11_whole : Cond.instanceMethod yX11_whole ∈ ztbl := zmem_5 181 (by decide +kernel) rfl
theorem zie_X11_whole : Cond.selects zm_X11_whole.1.cls yX11_whole yX11_whole ∈ ztbl := zmemp 25 (by decide +kernel) rfl
abbrev zm_X11_multiplies : zM := (yX11_multiplies, cX11_multiplies, 7, none, { frames := 0, cells := 0, slots := 0, locals := 0 })
theorem zi_X11_multiplies : zCal zm_X11_multiplies 3 := ⟨zmem_1 13 (by decide +kernel) rfl, zmem_5 186 (by decide +kernel) rfl, by decide +kernel, by decide +kernel, by decide +kernel⟩
theorem zii_X11_multiplies : Cond.instanceMethod yX11_multiplies ∈ ztbl := zmem_5 185 (by decide +kernel) rfl
theorem zie_X11_multiplies : Cond.selects zm_X11_multiplies.1.cls yX11_multiplies yX11_multiplies ∈ ztbl := zmemp 26 (by decide +kernel) rfl
abbrev zm_X11_lays : zM := (yX11_lays, cX11_lays, 4, none, { frames := 0, cells := 0, slots := 0, locals := 0 })
theorem zi_X11_lays : zCal zm_X11_lays 3 := ⟨zmem_1 13 (by decide +kernel) rfl, zmem_5 189 (by decide +kernel) rfl, by decide +kernel, by decide +kernel, by decide +kernel⟩
theorem zis_X11_lays : Cond.static yX11_lays ∈ ztbl := zmem_5 188 (by decide +kernel) rfl
abbrev zm_X11_divides : zM := (yX11_divides, cX11_divides, 8, none, { frames := 1, cells := 0, slots := 0, locals := 22 })
theorem zi_X11_divides : zCal zm_X11_divides 3 := ⟨zmem_1 13 (by decide +kernel) rfl, zmem_5 193 (by decide +kernel) rfl, by decide +kernel, by decide +kernel, by decide +kernel⟩
theorem zii_X11_divides : Cond.instanceMethod yX11_divides ∈ ztbl := zmem_5 192 (by decide +kernel) rfl
theorem zie_X11_divides : Cond.selects zm_X11_divides.1.cls yX11_divides yX11_divides ∈ ztbl := zmemp 27 (by decide +kernel) rfl
abbrev zm_X11_inverse : zM := (yX11_inverse, cX11_inverse, 3, (some .int), { frames := 0, cells := 0, slots := 0, locals := 0 })
theorem zi_X11_inverse : zCal zm_X11_inverse 1 := ⟨zmem_1 13 (by decide +kernel) rfl, zmem_5 197 (by decide +kernel) rfl, by decide +kernel, by decide +kernel, by decide +kernel⟩
theorem zii_X11_inverse : Cond.instanceMethod yX11_inverse ∈ ztbl := zmem_5 196 (by decide +kernel) rfl
theorem zie_X11_inverse : Cond.selects zm_X11_inverse.1.cls yX11_inverse yX11_inverse ∈ ztbl := zmemp 28 (by decide +kernel) rfl
abbrev zm_X11_becomes : zM := (yX11_becomes, cX11_becomes, 3, (some .int), { frames := 0, cells := 0, slots := 0, locals := 0 })
theorem zi_X11_becomes : zCal zm_X11_becomes 1 := ⟨zmem_1 13 (by decide +kernel) rfl, zmem_5 201 (by decide +kernel) rfl, by decide +kernel, by decide +kernel, by decide +kernel⟩
theorem zii_X11_becomes : Cond.instanceMethod yX11_becomes ∈ ztbl := zmem_5 200 (by decide +kernel) rfl
theorem zie_X11_becomes : Cond.selects zm_X11_becomes.1.cls yX11_becomes yX11_becomes ∈ ztbl := zmemp 29 (by decide +kernel) rfl
abbrev zm_X11_sum : zM := (yX11_sum, cX11_sum, 7, (some .int), { frames := 2, cells := 0, slots := 0, locals := 47 })
theorem zi_X11_sum : zCal zm_X11_sum 3 := ⟨zmem_1 13 (by decide +kernel) rfl, zmem_5 205 (by decide +kernel) rfl, by decide +kernel, by decide +kernel, by decide +kernel⟩
theorem zii_X11_sum : Cond.instanceMethod yX11_sum ∈ ztbl := zmem_5 203 (by decide +kernel) rfl
theorem zie_X11_sum : Cond.selects zm_X11_sum.1.cls yX11_sum yX11_sum ∈ ztbl := zmem_5 204 (by decide +kernel) rfl
abbrev zm_X11_isThere : zM := (yX11_isThere, cX11_isThere, 2, (some .boolean), { frames := 0, cells := 0, slots := 0, locals := 0 })
theorem zi_X11_isThere : zCal zm_X11_isThere 1 := ⟨zmem_1 13 (by decide +kernel) rfl, zmem_5 209 (by decide +kernel) rfl, by decide +kernel, by decide +kernel, by decide +kernel⟩
theorem zii_X11_isThere : Cond.instanceMethod yX11_isThere ∈ ztbl := zmem_5 208 (by decide +kernel) rfl
theorem zie_X11_isThere : Cond.selects zm_X11_isThere.1.cls yX11_isThere yX11_isThere ∈ ztbl := zmemp 30 (by decide +kernel) rfl
abbrev zm_X11_numberOf : zM := (yX11_numberOf, cX11_numberOf, 3, (some .int), { frames := 1, cells := 0, slots := 0, locals := 25 })
theorem zi_X11_numberOf : zCal zm_X11_numberOf 2 := ⟨zmem_1 13 (by decide +kernel) rfl, zmem_5 214 (by decide +kernel) rfl, by decide +kernel, by decide +kernel, by decide +kernel⟩
theorem zii_X11_numberOf : Cond.instanceMethod yX11_numberOf ∈ ztbl := zmem_5 213 (by decide +kernel) rfl
theorem zie_X11_numberOf : Cond.selects zm_X11_numberOf.1.cls yX11_numberOf yX11_numberOf ∈ ztbl := zmemp 31 (by decide +kernel) rfl
abbrev zm_X11_times : zM := (yX11_times, cX11_times, 4, (some .int), { frames := 2, cells := 0, slots := 0, locals := 45 })
theorem zi_X11_times : zCal zm_X11_times 3 := ⟨zmem_1 13 (by decide +kernel) rfl, zmem_5 218 (by decide +kernel) rfl, by decide +kernel, by decide +kernel, by decide +kernel⟩
theorem zii_X11_times : Cond.instanceMethod yX11_times ∈ ztbl := zmem_5 216 (by decide +kernel) rfl
theorem zie_X11_times : Cond.selects zm_X11_times.1.cls yX11_times yX11_times ∈ ztbl := zmem_5 217 (by decide +kernel) rfl
abbrev zm_X11_isStart : zM := (yX11_isStart, cX11_isStart, 1, (some .boolean), { frames := 1, cells := 0, slots := 0, locals := 25 })
theorem zi_X11_isStart : zCal zm_X11_isStart 1 := ⟨zmem_1 13 (by decide +kernel) rfl, zmem_5 221 (by decide +kernel) rfl, by decide +kernel, by decide +kernel, by decide +kernel⟩
theorem zis_X11_isStart : Cond.static yX11_isStart ∈ ztbl := zmem_5 220 (by decide +kernel) rfl
abbrev zm_X11_stretch : zM := (yX11_stretch, cX11_stretch, 5, (some .int), { frames := 2, cells := 0, slots := 0, locals := 45 })
theorem zi_X11_stretch : zCal zm_X11_stretch 3 := ⟨zmem_1 13 (by decide +kernel) rfl, zmem_5 227 (by decide +kernel) rfl, by decide +kernel, by decide +kernel, by decide +kernel⟩
theorem zii_X11_stretch : Cond.instanceMethod yX11_stretch ∈ ztbl := zmem_5 225 (by decide +kernel) rfl
theorem zie_X11_stretch : Cond.selects zm_X11_stretch.1.cls yX11_stretch yX11_stretch ∈ ztbl := zmem_5 226 (by decide +kernel) rfl
abbrev zm_X11_over : zM := (yX11_over, cX11_over, 4, (some .int), { frames := 2, cells := 0, slots := 0, locals := 49 })
theorem zi_X11_over : zCal zm_X11_over 2 := ⟨zmem_1 13 (by decide +kernel) rfl, zmem_5 232 (by decide +kernel) rfl, by decide +kernel, by decide +kernel, by decide +kernel⟩
theorem zii_X11_over : Cond.instanceMethod yX11_over ∈ ztbl := zmem_5 230 (by decide +kernel) rfl
theorem zie_X11_over : Cond.selects zm_X11_over.1.cls yX11_over yX11_over ∈ ztbl := zmem_5 231 (by decide +kernel) rfl
abbrev zm_X11_power : zM := (yX11_power, cX11_power, 4, (some .int), { frames := 2, cells := 0, slots := 0, locals := 50 })
theorem zi_X11_power : zCal zm_X11_power 3 := ⟨zmem_1 13 (by decide +kernel) rfl, zmem_5 236 (by decide +kernel) rfl, by decide +kernel, by decide +kernel, by decide +kernel⟩
theorem zii_X11_power : Cond.instanceMethod yX11_power ∈ ztbl := zmem_5 234 (by decide +kernel) rfl
theorem zie_X11_power : Cond.selects zm_X11_power.1.cls yX11_power yX11_power ∈ ztbl := zmem_5 235 (by decide +kernel) rfl
abbrev zm_X11_powers : zM := (yX11_powers, cX11_powers, 5, none, { frames := 1, cells := 0, slots := 0, locals := 26 })
theorem zi_X11_powers : zCal zm_X11_powers 3 := ⟨zmem_1 13 (by decide +kernel) rfl, zmem_6 0 (by decide +kernel) rfl, by decide +kernel, by decide +kernel, by decide +kernel⟩
theorem zii_X11_powers : Cond.instanceMethod yX11_powers ∈ ztbl := zmem_5 239 (by decide +kernel) rfl
theorem zie_X11_powers : Cond.selects zm_X11_powers.1.cls yX11_powers yX11_powers ∈ ztbl := zmemp 32 (by decide +kernel) rfl
abbrev zm_X11_of : zM := (yX11_of, cX11_of, 4, (some .int), { frames := 2, cells := 0, slots := 0, locals := 45 })
theorem zi_X11_of : zCal zm_X11_of 2 := ⟨zmem_1 13 (by decide +kernel) rfl, zmem_6 4 (by decide +kernel) rfl, by decide +kernel, by decide +kernel, by decide +kernel⟩
theorem zii_X11_of : Cond.instanceMethod yX11_of ∈ ztbl := zmem_6 2 (by decide +kernel) rfl
theorem zie_X11_of : Cond.selects zm_X11_of.1.cls yX11_of yX11_of ∈ ztbl := zmem_6 3 (by decide +kernel) rfl
abbrev zm_X11_coefficient : zM := (yX11_coefficient, cX11_coefficient, 3, (some .int), { frames := 2, cells := 0, slots := 0, locals := 47 })
theorem zi_X11_coefficient : zCal zm_X11_coefficient 2 := ⟨zmem_1 13 (by decide +kernel) rfl, zmem_6 9 (by decide +kernel) rfl, by decide +kernel, by decide +kernel, by decide +kernel⟩
theorem zii_X11_coefficient : Cond.instanceMethod yX11_coefficient ∈ ztbl := zmem_6 7 (by decide +kernel) rfl
theorem zie_X11_coefficient : Cond.selects zm_X11_coefficient.1.cls yX11_coefficient yX11_coefficient ∈ ztbl := zmem_6 8 (by decide +kernel) rfl
abbrev zm_X11_find : zM := (yX11_find, cX11_find, 7, (some .int), { frames := 3, cells := 0, slots := 0, locals := 75 })
theorem zi_X11_find : zCal zm_X11_find 4 := ⟨zmem_1 13 (by decide +kernel) rfl, zmem_6 13 (by decide +kernel) rfl, by decide +kernel, by decide +kernel, by decide +kernel⟩
theorem zii_X11_find : Cond.instanceMethod yX11_find ∈ ztbl := zmem_6 11 (by decide +kernel) rfl
theorem zie_X11_find : Cond.selects zm_X11_find.1.cls yX11_find yX11_find ∈ ztbl := zmem_6 12 (by decide +kernel) rfl
abbrev zm_X11_tellsPowers : zM := (yX11_tellsPowers, cX11_tellsPowers, 6, none, { frames := 2, cells := 0, slots := 0, locals := 50 })
theorem zi_X11_tellsPowers : zCal zm_X11_tellsPowers 3 := ⟨zmem_1 13 (by decide +kernel) rfl, zmem_6 18 (by decide +kernel) rfl, by decide +kernel, by decide +kernel, by decide +kernel⟩
theorem zii_X11_tellsPowers : Cond.instanceMethod yX11_tellsPowers ∈ ztbl := zmem_6 17 (by decide +kernel) rfl
theorem zie_X11_tellsPowers : Cond.selects zm_X11_tellsPowers.1.cls yX11_tellsPowers yX11_tellsPowers ∈ ztbl := zmemp 33 (by decide +kernel) rfl
abbrev zm_X11_tries : zM := (yX11_tries, cX11_tries, 6, none, { frames := 2, cells := 0, slots := 0, locals := 46 })
theorem zi_X11_tries : zCal zm_X11_tries 4 := ⟨zmem_1 13 (by decide +kernel) rfl, zmem_6 22 (by decide +kernel) rfl, by decide +kernel, by decide +kernel, by decide +kernel⟩
theorem zii_X11_tries : Cond.instanceMethod yX11_tries ∈ ztbl := zmem_6 21 (by decide +kernel) rfl
theorem zie_X11_tries : Cond.selects zm_X11_tries.1.cls yX11_tries yX11_tries ∈ ztbl := zmemp 34 (by decide +kernel) rfl
abbrev zm_X11_emptiesColumn : zM := (yX11_emptiesColumn, cX11_emptiesColumn, 2, none, { frames := 0, cells := 0, slots := 0, locals := 0 })
theorem zi_X11_emptiesColumn : zCal zm_X11_emptiesColumn 0 := ⟨zmem_1 13 (by decide +kernel) rfl, zmem_6 26 (by decide +kernel) rfl, by decide +kernel, by decide +kernel, by decide +kernel⟩
theorem zii_X11_emptiesColumn : Cond.instanceMethod yX11_emptiesColumn ∈ ztbl := zmem_6 25 (by decide +kernel) rfl
theorem zie_X11_emptiesColumn : Cond.selects zm_X11_emptiesColumn.1.cls yX11_emptiesColumn yX11_emptiesColumn ∈ ztbl := zmemp 35 (by decide +kernel) rfl
abbrev zm_X11_adds : zM := (yX11_adds, cX11_adds, 8, none, { frames := 0, cells := 0, slots := 0, locals := 0 })
theorem zi_X11_adds : zCal zm_X11_adds 3 := ⟨zmem_1 13 (by decide +kernel) rfl, zmem_6 30 (by decide +kernel) rfl, by decide +kernel, by decide +kernel, by decide +kernel⟩
theorem zii_X11_adds : Cond.instanceMethod yX11_adds ∈ ztbl := zmem_6 29 (by decide +kernel) rfl
theorem zie_X11_adds : Cond.selects zm_X11_adds.1.cls yX11_adds yX11_adds ∈ ztbl := zmemp 36 (by decide +kernel) rfl
abbrev zm_X11_place : zM := (yX11_place, cX11_place, 3, (some .int), { frames := 0, cells := 0, slots := 0, locals := 0 })
theorem zi_X11_place : zCal zm_X11_place 3 := ⟨zmem_1 13 (by decide +kernel) rfl, zmem_6 33 (by decide +kernel) rfl, by decide +kernel, by decide +kernel, by decide +kernel⟩
theorem zis_X11_place : Cond.static yX11_place ∈ ztbl := zmem_6 32 (by decide +kernel) rfl
abbrev zm_X11_comes : zM := (yX11_comes, cX11_comes, 4, (some .boolean), { frames := 1, cells := 0, slots := 0, locals := 23 })
theorem zi_X11_comes : zCal zm_X11_comes 0 := ⟨zmem_1 13 (by decide +kernel) rfl, zmem_6 37 (by decide +kernel) rfl, by decide +kernel, by decide +kernel, by decide +kernel⟩
theorem zii_X11_comes : Cond.instanceMethod yX11_comes ∈ ztbl := zmem_6 36 (by decide +kernel) rfl
theorem zie_X11_comes : Cond.selects zm_X11_comes.1.cls yX11_comes yX11_comes ∈ ztbl := zmemp 37 (by decide +kernel) rfl
abbrev zm_X11_lessens : zM := (yX11_lessens, cX11_lessens, 4, none, { frames := 0, cells := 0, slots := 0, locals := 0 })
theorem zi_X11_lessens : zCal zm_X11_lessens 1 := ⟨zmem_1 13 (by decide +kernel) rfl, zmem_6 41 (by decide +kernel) rfl, by decide +kernel, by decide +kernel, by decide +kernel⟩
theorem zii_X11_lessens : Cond.instanceMethod yX11_lessens ∈ ztbl := zmem_6 40 (by decide +kernel) rfl
theorem zie_X11_lessens : Cond.selects zm_X11_lessens.1.cls yX11_lessens yX11_lessens ∈ ztbl := zmemp 38 (by decide +kernel) rfl
abbrev zm_X11_firstOther : zM := (yX11_firstOther, cX11_firstOther, 2, (some .int), { frames := 0, cells := 0, slots := 0, locals := 0 })
theorem zi_X11_firstOther : zCal zm_X11_firstOther 0 := ⟨zmem_1 13 (by decide +kernel) rfl, zmem_6 45 (by decide +kernel) rfl, by decide +kernel, by decide +kernel, by decide +kernel⟩
theorem zii_X11_firstOther : Cond.instanceMethod yX11_firstOther ∈ ztbl := zmem_6 44 (by decide +kernel) rfl
theorem zie_X11_firstOther : Cond.selects zm_X11_firstOther.1.cls yX11_firstOther yX11_firstOther ∈ ztbl := zmemp 39 (by decide +kernel) rfl
abbrev zm_X11_equation : zM := (yX11_equation, cX11_equation, 7, (some .int), { frames := 2, cells := 0, slots := 0, locals := 44 })
theorem zi_X11_equation : zCal zm_X11_equation 1 := ⟨zmem_1 13 (by decide +kernel) rfl, zmem_6 49 (by decide +kernel) rfl, by decide +kernel, by decide +kernel, by decide +kernel⟩
theorem zii_X11_equation : Cond.instanceMethod yX11_equation ∈ ztbl := zmem_6 47 (by decide +kernel) rfl
theorem zie_X11_equation : Cond.selects zm_X11_equation.1.cls yX11_equation yX11_equation ∈ ztbl := zmem_6 48 (by decide +kernel) rfl
abbrev zm_X11_termAt : zM := (yX11_termAt, cX11_termAt, 3, (some .int), { frames := 1, cells := 0, slots := 0, locals := 22 })
theorem zi_X11_termAt : zCal zm_X11_termAt 2 := ⟨zmem_1 13 (by decide +kernel) rfl, zmem_6 54 (by decide +kernel) rfl, by decide +kernel, by decide +kernel, by decide +kernel⟩
theorem zii_X11_termAt : Cond.instanceMethod yX11_termAt ∈ ztbl := zmem_6 53 (by decide +kernel) rfl
theorem zie_X11_termAt : Cond.selects zm_X11_termAt.1.cls yX11_termAt yX11_termAt ∈ ztbl := zmemp 40 (by decide +kernel) rfl
abbrev zm_X11_term : zM := (yX11_term, cX11_term, 3, (some .int), { frames := 2, cells := 0, slots := 0, locals := 44 })
theorem zi_X11_term : zCal zm_X11_term 2 := ⟨zmem_1 13 (by decide +kernel) rfl, zmem_6 58 (by decide +kernel) rfl, by decide +kernel, by decide +kernel, by decide +kernel⟩
theorem zii_X11_term : Cond.instanceMethod yX11_term ∈ ztbl := zmem_6 56 (by decide +kernel) rfl
theorem zie_X11_term : Cond.selects zm_X11_term.1.cls yX11_term yX11_term ∈ ztbl := zmem_6 57 (by decide +kernel) rfl
abbrev zm_X11_at : zM := (yX11_at, cX11_at, 4, (some .int), { frames := 3, cells := 0, slots := 0, locals := 69 })
theorem zi_X11_at : zCal zm_X11_at 2 := ⟨zmem_1 13 (by decide +kernel) rfl, zmem_6 62 (by decide +kernel) rfl, by decide +kernel, by decide +kernel, by decide +kernel⟩
theorem zii_X11_at : Cond.instanceMethod yX11_at ∈ ztbl := zmem_6 60 (by decide +kernel) rfl
theorem zie_X11_at : Cond.selects zm_X11_at.1.cls yX11_at yX11_at ∈ ztbl := zmem_6 61 (by decide +kernel) rfl
abbrev zm_X11_isValue : zM := (yX11_isValue, cX11_isValue, 2, (some .boolean), { frames := 1, cells := 0, slots := 0, locals := 25 })
theorem zi_X11_isValue : zCal zm_X11_isValue 1 := ⟨zmem_1 13 (by decide +kernel) rfl, zmem_6 66 (by decide +kernel) rfl, by decide +kernel, by decide +kernel, by decide +kernel⟩
theorem zii_X11_isValue : Cond.instanceMethod yX11_isValue ∈ ztbl := zmem_6 65 (by decide +kernel) rfl
theorem zie_X11_isValue : Cond.selects zm_X11_isValue.1.cls yX11_isValue yX11_isValue ∈ ztbl := zmemp 41 (by decide +kernel) rfl
abbrev zm_X11_puts : zM := (yX11_puts, cX11_puts, 6, (some .boolean), { frames := 2, cells := 0, slots := 0, locals := 44 })
theorem zi_X11_puts : zCal zm_X11_puts 1 := ⟨zmem_1 13 (by decide +kernel) rfl, zmem_6 70 (by decide +kernel) rfl, by decide +kernel, by decide +kernel, by decide +kernel⟩
theorem zii_X11_puts : Cond.instanceMethod yX11_puts ∈ ztbl := zmem_6 69 (by decide +kernel) rfl
theorem zie_X11_puts : Cond.selects zm_X11_puts.1.cls yX11_puts yX11_puts ∈ ztbl := zmemp 42 (by decide +kernel) rfl
abbrev zm_X11_worth : zM := (yX11_worth, cX11_worth, 4, (some .int), { frames := 0, cells := 0, slots := 0, locals := 0 })
theorem zi_X11_worth : zCal zm_X11_worth 1 := ⟨zmem_1 13 (by decide +kernel) rfl, zmem_6 74 (by decide +kernel) rfl, by decide +kernel, by decide +kernel, by decide +kernel⟩
theorem zii_X11_worth : Cond.instanceMethod yX11_worth ∈ ztbl := zmem_6 73 (by decide +kernel) rfl
theorem zie_X11_worth : Cond.selects zm_X11_worth.1.cls yX11_worth yX11_worth ∈ ztbl := zmemp 43 (by decide +kernel) rfl
abbrev zm_X11_vanishes : zM := (yX11_vanishes, cX11_vanishes, 5, (some .int), { frames := 3, cells := 0, slots := 0, locals := 75 })
theorem zi_X11_vanishes : zCal zm_X11_vanishes 2 := ⟨zmem_1 13 (by decide +kernel) rfl, zmem_6 78 (by decide +kernel) rfl, by decide +kernel, by decide +kernel, by decide +kernel⟩
theorem zii_X11_vanishes : Cond.instanceMethod yX11_vanishes ∈ ztbl := zmem_6 76 (by decide +kernel) rfl
theorem zie_X11_vanishes : Cond.selects zm_X11_vanishes.1.cls yX11_vanishes yX11_vanishes ∈ ztbl := zmem_6 77 (by decide +kernel) rfl
abbrev zm_X11_neighbour : zM := (yX11_neighbour, cX11_neighbour, 3, (some .int), { frames := 4, cells := 0, slots := 0, locals := 93 })
theorem zi_X11_neighbour : zCal zm_X11_neighbour 2 := ⟨zmem_1 13 (by decide +kernel) rfl, zmem_6 82 (by decide +kernel) rfl, by decide +kernel, by decide +kernel, by decide +kernel⟩
theorem zii_X11_neighbour : Cond.instanceMethod yX11_neighbour ∈ ztbl := zmem_6 80 (by decide +kernel) rfl
theorem zie_X11_neighbour : Cond.selects zm_X11_neighbour.1.cls yX11_neighbour yX11_neighbour ∈ ztbl := zmem_6 81 (by decide +kernel) rfl
abbrev zm_X11_tellsNeighbours : zM := (yX11_tellsNeighbours, cX11_tellsNeighbours, 5, (some .boolean), { frames := 3, cells := 0, slots := 0, locals := 69 })
theorem zi_X11_tellsNeighbours : zCal zm_X11_tellsNeighbours 1 := ⟨zmem_1 13 (by decide +kernel) rfl, zmem_6 86 (by decide +kernel) rfl, by decide +kernel, by decide +kernel, by decide +kernel⟩
theorem zii_X11_tellsNeighbours : Cond.instanceMethod yX11_tellsNeighbours ∈ ztbl := zmem_6 85 (by decide +kernel) rfl
theorem zie_X11_tellsNeighbours : Cond.selects zm_X11_tellsNeighbours.1.cls yX11_tellsNeighbours yX11_tellsNeighbours ∈ ztbl := zmemp 44 (by decide +kernel) rfl
abbrev zm_X11_oftenOf : zM := (yX11_oftenOf, cX11_oftenOf, 6, (some .int), { frames := 1, cells := 0, slots := 0, locals := 23 })
theorem zi_X11_oftenOf : zCal zm_X11_oftenOf 1 := ⟨zmem_1 13 (by decide +kernel) rfl, zmem_6 90 (by decide +kernel) rfl, by decide +kernel, by decide +kernel, by decide +kernel⟩
theorem zii_X11_oftenOf : Cond.instanceMethod yX11_oftenOf ∈ ztbl := zmem_6 89 (by decide +kernel) rfl
theorem zie_X11_oftenOf : Cond.selects zm_X11_oftenOf.1.cls yX11_oftenOf yX11_oftenOf ∈ ztbl := zmemp 45 (by decide +kernel) rfl
abbrev zm_X11_far : zM := (yX11_far, cX11_far, 3, (some .int), { frames := 5, cells := 0, slots := 0, locals := 118 })
theorem zi_X11_far : zCal zm_X11_far 2 := ⟨zmem_1 13 (by decide +kernel) rfl, zmem_6 94 (by decide +kernel) rfl, by decide +kernel, by decide +kernel, by decide +kernel⟩
theorem zii_X11_far : Cond.instanceMethod yX11_far ∈ ztbl := zmem_6 92 (by decide +kernel) rfl
theorem zie_X11_far : Cond.selects zm_X11_far.1.cls yX11_far yX11_far ∈ ztbl := zmem_6 93 (by decide +kernel) rfl
abbrev zm_X11_tellsAway : zM := (yX11_tellsAway, cX11_tellsAway, 6, none, { frames := 4, cells := 0, slots := 0, locals := 93 })
theorem zi_X11_tellsAway : zCal zm_X11_tellsAway 1 := ⟨zmem_1 13 (by decide +kernel) rfl, zmem_6 98 (by decide +kernel) rfl, by decide +kernel, by decide +kernel, by decide +kernel⟩
theorem zii_X11_tellsAway : Cond.instanceMethod yX11_tellsAway ∈ ztbl := zmem_6 97 (by decide +kernel) rfl
theorem zie_X11_tellsAway : Cond.selects zm_X11_tellsAway.1.cls yX11_tellsAway yX11_tellsAway ∈ ztbl := zmemp 46 (by decide +kernel) rfl
abbrev zm_X11_reach : zM := (yX11_reach, cX11_reach, 4, (some .int), { frames := 5, cells := 0, slots := 0, locals := 118 })
theorem zi_X11_reach : zCal zm_X11_reach 1 := ⟨zmem_1 13 (by decide +kernel) rfl, zmem_6 102 (by decide +kernel) rfl, by decide +kernel, by decide +kernel, by decide +kernel⟩
theorem zii_X11_reach : Cond.instanceMethod yX11_reach ∈ ztbl := zmem_6 100 (by decide +kernel) rfl
theorem zie_X11_reach : Cond.selects zm_X11_reach.1.cls yX11_reach yX11_reach ∈ ztbl := zmem_6 101 (by decide +kernel) rfl
abbrev zm_X11_values : zM := (yX11_values, cX11_values, 10, (some .int), { frames := 4, cells := 0, slots := 0, locals := 93 })
theorem zi_X11_values : zCal zm_X11_values 1 := ⟨zmem_1 13 (by decide +kernel) rfl, zmem_6 106 (by decide +kernel) rfl, by decide +kernel, by decide +kernel, by decide +kernel⟩
theorem zii_X11_values : Cond.instanceMethod yX11_values ∈ ztbl := zmem_6 104 (by decide +kernel) rfl
theorem zie_X11_values : Cond.selects zm_X11_values.1.cls yX11_values yX11_values ∈ ztbl := zmem_6 105 (by decide +kernel) rfl
abbrev zm_X11_keep : zM := (yX11_keep, cX11_keep, 4, (some .int), { frames := 2, cells := 0, slots := 0, locals := 45 })
theorem zi_X11_keep : zCal zm_X11_keep 1 := ⟨zmem_1 13 (by decide +kernel) rfl, zmem_6 110 (by decide +kernel) rfl, by decide +kernel, by decide +kernel, by decide +kernel⟩
theorem zii_X11_keep : Cond.instanceMethod yX11_keep ∈ ztbl := zmem_6 108 (by decide +kernel) rfl
theorem zie_X11_keep : Cond.selects zm_X11_keep.1.cls yX11_keep yX11_keep ∈ ztbl := zmem_6 109 (by decide +kernel) rfl
abbrev zm_X11_isKept : zM := (yX11_isKept, cX11_isKept, 1, (some .boolean), { frames := 1, cells := 0, slots := 0, locals := 25 })
theorem zi_X11_isKept : zCal zm_X11_isKept 1 := ⟨zmem_1 13 (by decide +kernel) rfl, zmem_6 113 (by decide +kernel) rfl, by decide +kernel, by decide +kernel, by decide +kernel⟩
theorem zis_X11_isKept : Cond.static yX11_isKept ∈ ztbl := zmem_6 112 (by decide +kernel) rfl
abbrev zm_X11_keptPrime : zM := (yX11_keptPrime, cX11_keptPrime, 2, (some .int), { frames := 0, cells := 0, slots := 0, locals := 0 })
theorem zi_X11_keptPrime : zCal zm_X11_keptPrime 1 := ⟨zmem_1 13 (by decide +kernel) rfl, zmem_6 118 (by decide +kernel) rfl, by decide +kernel, by decide +kernel, by decide +kernel⟩
theorem zii_X11_keptPrime : Cond.instanceMethod yX11_keptPrime ∈ ztbl := zmem_6 117 (by decide +kernel) rfl
theorem zie_X11_keptPrime : Cond.selects zm_X11_keptPrime.1.cls yX11_keptPrime yX11_keptPrime ∈ ztbl := zmemp 47 (by decide +kernel) rfl
abbrev zm_X11_keptMany : zM := (yX11_keptMany, cX11_keptMany, 3, (some .int), { frames := 1, cells := 0, slots := 0, locals := 21 })
theorem zi_X11_keptMany : zCal zm_X11_keptMany 0 := ⟨zmem_1 13 (by decide +kernel) rfl, zmem_6 122 (by decide +kernel) rfl, by decide +kernel, by decide +kernel, by decide +kernel⟩
theorem zii_X11_keptMany : Cond.instanceMethod yX11_keptMany ∈ ztbl := zmem_6 121 (by decide +kernel) rfl
theorem zie_X11_keptMany : Cond.selects zm_X11_keptMany.1.cls yX11_keptMany yX11_keptMany ∈ ztbl := zmemp 48 (by decide +kernel) rfl
abbrev zm_X11_drop : zM := (yX11_drop, cX11_drop, 3, (some .int), { frames := 2, cells := 0, slots := 0, locals := 45 })
theorem zi_X11_drop : zCal zm_X11_drop 1 := ⟨zmem_1 13 (by decide +kernel) rfl, zmem_6 126 (by decide +kernel) rfl, by decide +kernel, by decide +kernel, by decide +kernel⟩
theorem zii_X11_drop : Cond.instanceMethod yX11_drop ∈ ztbl := zmem_6 124 (by decide +kernel) rfl
theorem zie_X11_drop : Cond.selects zm_X11_drop.1.cls yX11_drop yX11_drop ∈ ztbl := zmem_6 125 (by decide +kernel) rfl
abbrev zm_X11_whole_ : zM := (yX11_whole_, cX11_whole_, 4, (some .long), { frames := 2, cells := 0, slots := 0, locals := 43 })
theorem zi_X11_whole_ : zCal zm_X11_whole_ 0 := ⟨zmem_1 13 (by decide +kernel) rfl, zmem_6 130 (by decide +kernel) rfl, by decide +kernel, by decide +kernel, by decide +kernel⟩
theorem zii_X11_whole_ : Cond.instanceMethod yX11_whole_ ∈ ztbl := zmem_6 128 (by decide +kernel) rfl
theorem zie_X11_whole_ : Cond.selects zm_X11_whole_.1.cls yX11_whole_ yX11_whole_ ∈ ztbl := zmem_6 129 (by decide +kernel) rfl
abbrev zm_X11_joined : zM := (yX11_joined, cX11_joined, 12, (some .long), { frames := 2, cells := 0, slots := 0, locals := 44 })
theorem zi_X11_joined : zCal zm_X11_joined 2 := ⟨zmem_1 13 (by decide +kernel) rfl, zmem_6 135 (by decide +kernel) rfl, by decide +kernel, by decide +kernel, by decide +kernel⟩
theorem zii_X11_joined : Cond.instanceMethod yX11_joined ∈ ztbl := zmem_6 133 (by decide +kernel) rfl
theorem zie_X11_joined : Cond.selects zm_X11_joined.1.cls yX11_joined yX11_joined ∈ ztbl := zmem_6 134 (by decide +kernel) rfl
abbrev zm_X11_joinedDegree : zM := (yX11_joinedDegree, cX11_joinedDegree, 4, (some .int), { frames := 1, cells := 0, slots := 0, locals := 21 })
theorem zi_X11_joinedDegree : zCal zm_X11_joinedDegree 0 := ⟨zmem_1 13 (by decide +kernel) rfl, zmem_6 139 (by decide +kernel) rfl, by decide +kernel, by decide +kernel, by decide +kernel⟩
theorem zii_X11_joinedDegree : Cond.instanceMethod yX11_joinedDegree ∈ ztbl := zmem_6 138 (by decide +kernel) rfl
theorem zie_X11_joinedDegree : Cond.selects zm_X11_joinedDegree.1.cls yX11_joinedDegree yX11_joinedDegree ∈ ztbl := zmemp 49 (by decide +kernel) rfl
abbrev zm_X11_feed : zM := (yX11_feed, cX11_feed, 2, (some .int), { frames := 1, cells := 0, slots := 0, locals := 25 })
theorem zi_X11_feed : zCal zm_X11_feed 1 := ⟨zmem_1 13 (by decide +kernel) rfl, zmem_6 143 (by decide +kernel) rfl, by decide +kernel, by decide +kernel, by decide +kernel⟩
theorem zii_X11_feed : Cond.instanceMethod yX11_feed ∈ ztbl := zmem_6 141 (by decide +kernel) rfl
theorem zie_X11_feed : Cond.selects zm_X11_feed.1.cls yX11_feed yX11_feed ∈ ztbl := zmem_6 142 (by decide +kernel) rfl
abbrev zm_X11_deeds : zM := (yX11_deeds, cX11_deeds, 5, (some .int), { frames := 5, cells := 0, slots := 0, locals := 125 })
theorem zi_X11_deeds : zCal zm_X11_deeds 0 := ⟨zmem_1 13 (by decide +kernel) rfl, zmem_6 148 (by decide +kernel) rfl, by decide +kernel, by decide +kernel, by decide +kernel⟩
theorem zii_X11_deeds : Cond.instanceMethod yX11_deeds ∈ ztbl := zmem_6 146 (by decide +kernel) rfl
theorem zie_X11_deeds : Cond.selects zm_X11_deeds.1.cls yX11_deeds yX11_deeds ∈ ztbl := zmem_6 147 (by decide +kernel) rfl
abbrev zm_X11_readsDeed : zM := (yX11_readsDeed, cX11_readsDeed, 8, (some .boolean), { frames := 2, cells := 0, slots := 0, locals := 45 })
theorem zi_X11_readsDeed : zCal zm_X11_readsDeed 1 := ⟨zmem_1 13 (by decide +kernel) rfl, zmem_6 152 (by decide +kernel) rfl, by decide +kernel, by decide +kernel, by decide +kernel⟩
theorem zii_X11_readsDeed : Cond.instanceMethod yX11_readsDeed ∈ ztbl := zmem_6 151 (by decide +kernel) rfl
theorem zie_X11_readsDeed : Cond.selects zm_X11_readsDeed.1.cls yX11_readsDeed yX11_readsDeed ∈ ztbl := zmemp 50 (by decide +kernel) rfl
abbrev zm_X11_isLetter : zM := (yX11_isLetter, cX11_isLetter, 1, (some .boolean), { frames := 1, cells := 0, slots := 0, locals := 25 })
theorem zi_X11_isLetter : zCal zm_X11_isLetter 0 := ⟨zmem_1 13 (by decide +kernel) rfl, zmem_6 156 (by decide +kernel) rfl, by decide +kernel, by decide +kernel, by decide +kernel⟩
theorem zii_X11_isLetter : Cond.instanceMethod yX11_isLetter ∈ ztbl := zmem_6 155 (by decide +kernel) rfl
theorem zie_X11_isLetter : Cond.selects zm_X11_isLetter.1.cls yX11_isLetter yX11_isLetter ∈ ztbl := zmemp 51 (by decide +kernel) rfl
abbrev zm_X11_here : zM := (yX11_here, cX11_here, 1, (some .int), { frames := 0, cells := 0, slots := 0, locals := 0 })
theorem zi_X11_here : zCal zm_X11_here 0 := ⟨zmem_1 13 (by decide +kernel) rfl, zmem_6 160 (by decide +kernel) rfl, by decide +kernel, by decide +kernel, by decide +kernel⟩
theorem zii_X11_here : Cond.instanceMethod yX11_here ∈ ztbl := zmem_6 159 (by decide +kernel) rfl
theorem zie_X11_here : Cond.selects zm_X11_here.1.cls yX11_here yX11_here ∈ ztbl := zmemp 52 (by decide +kernel) rfl
abbrev zm_X11_wordFrom : zM := (yX11_wordFrom, cX11_wordFrom, 6, (some .int), { frames := 0, cells := 0, slots := 0, locals := 0 })
theorem zi_X11_wordFrom : zCal zm_X11_wordFrom 1 := ⟨zmem_1 13 (by decide +kernel) rfl, zmem_6 166 (by decide +kernel) rfl, by decide +kernel, by decide +kernel, by decide +kernel⟩
theorem zii_X11_wordFrom : Cond.instanceMethod yX11_wordFrom ∈ ztbl := zmem_6 165 (by decide +kernel) rfl
theorem zie_X11_wordFrom : Cond.selects zm_X11_wordFrom.1.cls yX11_wordFrom yX11_wordFrom ∈ ztbl := zmemp 53 (by decide +kernel) rfl
abbrev zm_X11_isFigure : zM := (yX11_isFigure, cX11_isFigure, 1, (some .boolean), { frames := 1, cells := 0, slots := 0, locals := 25 })
theorem zi_X11_isFigure : zCal zm_X11_isFigure 0 := ⟨zmem_1 13 (by decide +kernel) rfl, zmem_6 170 (by decide +kernel) rfl, by decide +kernel, by decide +kernel, by decide +kernel⟩
theorem zii_X11_isFigure : Cond.instanceMethod yX11_isFigure ∈ ztbl := zmem_6 169 (by decide +kernel) rfl
theorem zie_X11_isFigure : Cond.selects zm_X11_isFigure.1.cls yX11_isFigure yX11_isFigure ∈ ztbl := zmemp 54 (by decide +kernel) rfl
abbrev zm_X11_does : zM := (yX11_does, cX11_does, 5, (some .int), { frames := 4, cells := 0, slots := 0, locals := 101 })
theorem zi_X11_does : zCal zm_X11_does 1 := ⟨zmem_1 13 (by decide +kernel) rfl, zmem_6 176 (by decide +kernel) rfl, by decide +kernel, by decide +kernel, by decide +kernel⟩
theorem zii_X11_does : Cond.instanceMethod yX11_does ∈ ztbl := zmem_6 175 (by decide +kernel) rfl
theorem zie_X11_does : Cond.selects zm_X11_does.1.cls yX11_does yX11_does ∈ ztbl := zmemp 55 (by decide +kernel) rfl
abbrev zm_X11_read : zM := (yX11_read, cX11_read, 4, (some .int), { frames := 3, cells := 0, slots := 0, locals := 69 })
theorem zi_X11_read : zCal zm_X11_read 0 := ⟨zmem_1 13 (by decide +kernel) rfl, zmem_6 189 (by decide +kernel) rfl, by decide +kernel, by decide +kernel, by decide +kernel⟩
theorem zii_X11_read : Cond.instanceMethod yX11_read ∈ ztbl := zmem_6 187 (by decide +kernel) rfl
theorem zie_X11_read : Cond.selects zm_X11_read.1.cls yX11_read yX11_read ∈ ztbl := zmem_6 188 (by decide +kernel) rfl
abbrev zm_X11_readsTerm : zM := (yX11_readsTerm, cX11_readsTerm, 4, (some .boolean), { frames := 2, cells := 0, slots := 0, locals := 46 })
theorem zi_X11_readsTerm : zCal zm_X11_readsTerm 0 := ⟨zmem_1 13 (by decide +kernel) rfl, zmem_6 193 (by decide +kernel) rfl, by decide +kernel, by decide +kernel, by decide +kernel⟩
theorem zii_X11_readsTerm : Cond.instanceMethod yX11_readsTerm ∈ ztbl := zmem_6 192 (by decide +kernel) rfl
theorem zie_X11_readsTerm : Cond.selects zm_X11_readsTerm.1.cls yX11_readsTerm yX11_readsTerm ∈ ztbl := zmemp 56 (by decide +kernel) rfl
abbrev zm_X11_readsPower : zM := (yX11_readsPower, cX11_readsPower, 2, (some .int), { frames := 1, cells := 0, slots := 0, locals := 25 })
theorem zi_X11_readsPower : zCal zm_X11_readsPower 1 := ⟨zmem_1 13 (by decide +kernel) rfl, zmem_6 197 (by decide +kernel) rfl, by decide +kernel, by decide +kernel, by decide +kernel⟩
theorem zii_X11_readsPower : Cond.instanceMethod yX11_readsPower ∈ ztbl := zmem_6 196 (by decide +kernel) rfl
theorem zie_X11_readsPower : Cond.selects zm_X11_readsPower.1.cls yX11_readsPower yX11_readsPower ∈ ztbl := zmemp 57 (by decide +kernel) rfl
abbrev zm_X11_write : zM := (yX11_write, cX11_write, 3, (some .int), { frames := 2, cells := 0, slots := 0, locals := 44 })
theorem zi_X11_write : zCal zm_X11_write 0 := ⟨zmem_1 13 (by decide +kernel) rfl, zmem_6 204 (by decide +kernel) rfl, by decide +kernel, by decide +kernel, by decide +kernel⟩
theorem zii_X11_write : Cond.instanceMethod yX11_write ∈ ztbl := zmem_6 202 (by decide +kernel) rfl
theorem zie_X11_write : Cond.selects zm_X11_write.1.cls yX11_write yX11_write ∈ ztbl := zmem_6 203 (by decide +kernel) rfl
abbrev zm_X11_writes : zM := (yX11_writes, cX11_writes, 2, none, { frames := 0, cells := 0, slots := 0, locals := 0 })
theorem zi_X11_writes : zCal zm_X11_writes 1 := ⟨zmem_1 13 (by decide +kernel) rfl, zmem_6 208 (by decide +kernel) rfl, by decide +kernel, by decide +kernel, by decide +kernel⟩
theorem zii_X11_writes : Cond.instanceMethod yX11_writes ∈ ztbl := zmem_6 207 (by decide +kernel) rfl
theorem zie_X11_writes : Cond.selects zm_X11_writes.1.cls yX11_writes yX11_writes ∈ ztbl := zmemp 58 (by decide +kernel) rfl
abbrev zm_X11_writesNumber : zM := (yX11_writesNumber, cX11_writesNumber, 2, none, { frames := 1, cells := 0, slots := 0, locals := 21 })
theorem zi_X11_writesNumber : zCal zm_X11_writesNumber 1 := ⟨zmem_1 13 (by decide +kernel) rfl, zmem_6 212 (by decide +kernel) rfl, by decide +kernel, by decide +kernel, by decide +kernel⟩
theorem zii_X11_writesNumber : Cond.instanceMethod yX11_writesNumber ∈ ztbl := zmem_6 211 (by decide +kernel) rfl
theorem zie_X11_writesNumber : Cond.selects zm_X11_writesNumber.1.cls yX11_writesNumber yX11_writesNumber ∈ ztbl := zmemp 59 (by decide +kernel) rfl
abbrev zm_X11_writesPower : zM := (yX11_writesPower, cX11_writesPower, 3, none, { frames := 1, cells := 0, slots := 0, locals := 21 })
theorem zi_X11_writesPower : zCal zm_X11_writesPower 2 := ⟨zmem_1 13 (by decide +kernel) rfl, zmem_6 216 (by decide +kernel) rfl, by decide +kernel, by decide +kernel, by decide +kernel⟩
theorem zii_X11_writesPower : Cond.instanceMethod yX11_writesPower ∈ ztbl := zmem_6 215 (by decide +kernel) rfl
theorem zie_X11_writesPower : Cond.selects zm_X11_writesPower.1.cls yX11_writesPower yX11_writesPower ∈ ztbl := zmemp 60 (by decide +kernel) rfl
abbrev zm_X11_paper : zM := (yX11_paper, cX11_paper, 2, (some .int), { frames := 1, cells := 0, slots := 0, locals := 25 })
theorem zi_X11_paper : zCal zm_X11_paper 1 := ⟨zmem_1 13 (by decide +kernel) rfl, zmem_6 220 (by decide +kernel) rfl, by decide +kernel, by decide +kernel, by decide +kernel⟩
theorem zii_X11_paper : Cond.instanceMethod yX11_paper ∈ ztbl := zmem_6 218 (by decide +kernel) rfl
theorem zie_X11_paper : Cond.selects zm_X11_paper.1.cls yX11_paper yX11_paper ∈ ztbl := zmem_6 219 (by decide +kernel) rfl
abbrev zm_X11_tell : zM := (yX11_tell, cX11_tell, 5, (some .int), { frames := 2, cells := 0, slots := 0, locals := 45 })
theorem zi_X11_tell : zCal zm_X11_tell 3 := ⟨zmem_1 13 (by decide +kernel) rfl, zmem_6 224 (by decide +kernel) rfl, by decide +kernel, by decide +kernel, by decide +kernel⟩
theorem zii_X11_tell : Cond.instanceMethod yX11_tell ∈ ztbl := zmem_6 222 (by decide +kernel) rfl
theorem zie_X11_tell : Cond.selects zm_X11_tell.1.cls yX11_tell yX11_tell ∈ ztbl := zmem_6 223 (by decide +kernel) rfl
abbrev zm_X11_isList : zM := (yX11_isList, cX11_isList, 1, (some .boolean), { frames := 1, cells := 0, slots := 0, locals := 25 })
theorem zi_X11_isList : zCal zm_X11_isList 1 := ⟨zmem_1 13 (by decide +kernel) rfl, zmem_6 227 (by decide +kernel) rfl, by decide +kernel, by decide +kernel, by decide +kernel⟩
theorem zis_X11_isList : Cond.static yX11_isList ∈ ztbl := zmem_6 226 (by decide +kernel) rfl
abbrev zm_X11_list : zM := (yX11_list, cX11_list, 4, (some .int), { frames := 2, cells := 0, slots := 0, locals := 45 })
theorem zi_X11_list : zCal zm_X11_list 2 := ⟨zmem_1 13 (by decide +kernel) rfl, zmem_6 231 (by decide +kernel) rfl, by decide +kernel, by decide +kernel, by decide +kernel⟩
theorem zii_X11_list : Cond.instanceMethod yX11_list ∈ ztbl := zmem_6 229 (by decide +kernel) rfl
theorem zie_X11_list : Cond.selects zm_X11_list.1.cls yX11_list yX11_list ∈ ztbl := zmem_6 230 (by decide +kernel) rfl
abbrev zm_X11_put : zM := (yX11_put, cX11_put, 4, (some .int), { frames := 2, cells := 0, slots := 0, locals := 45 })
theorem zi_X11_put : zCal zm_X11_put 3 := ⟨zmem_1 13 (by decide +kernel) rfl, zmem_6 235 (by decide +kernel) rfl, by decide +kernel, by decide +kernel, by decide +kernel⟩
theorem zii_X11_put : Cond.instanceMethod yX11_put ∈ ztbl := zmem_6 233 (by decide +kernel) rfl
theorem zie_X11_put : Cond.selects zm_X11_put.1.cls yX11_put yX11_put ∈ ztbl := zmem_6 234 (by decide +kernel) rfl
abbrev zm_X11_get : zM := (yX11_get, cX11_get, 3, (some .long), { frames := 2, cells := 0, slots := 0, locals := 45 })
theorem zi_X11_get : zCal zm_X11_get 2 := ⟨zmem_1 13 (by decide +kernel) rfl, zmem_6 239 (by decide +kernel) rfl, by decide +kernel, by decide +kernel, by decide +kernel⟩
theorem zii_X11_get : Cond.instanceMethod yX11_get ∈ ztbl := zmem_6 237 (by decide +kernel) rfl
theorem zie_X11_get : Cond.selects zm_X11_get.1.cls yX11_get yX11_get ∈ ztbl := zmem_6 238 (by decide +kernel) rfl
abbrev zm_X11_lay : zM := (yX11_lay, cX11_lay, 5, (some .int), { frames := 2, cells := 0, slots := 0, locals := 45 })
theorem zi_X11_lay : zCal zm_X11_lay 2 := ⟨zmem_1 13 (by decide +kernel) rfl, zmem_7 3 (by decide +kernel) rfl, by decide +kernel, by decide +kernel, by decide +kernel⟩
theorem zii_X11_lay : Cond.instanceMethod yX11_lay ∈ ztbl := zmem_7 1 (by decide +kernel) rfl
theorem zie_X11_lay : Cond.selects zm_X11_lay.1.cls yX11_lay yX11_lay ∈ ztbl := zmem_7 2 (by decide +kernel) rfl
abbrev zm_X11_judge : zM := (yX11_judge, cX11_judge, 4, (some .int), { frames := 2, cells := 0, slots := 0, locals := 45 })
theorem zi_X11_judge : zCal zm_X11_judge 2 := ⟨zmem_1 13 (by decide +kernel) rfl, zmem_7 7 (by decide +kernel) rfl, by decide +kernel, by decide +kernel, by decide +kernel⟩
theorem zii_X11_judge : Cond.instanceMethod yX11_judge ∈ ztbl := zmem_7 5 (by decide +kernel) rfl
theorem zie_X11_judge : Cond.selects zm_X11_judge.1.cls yX11_judge yX11_judge ∈ ztbl := zmem_7 6 (by decide +kernel) rfl
abbrev zm_X11_image : zM := (yX11_image, cX11_image, 1, (some .int), { frames := 2, cells := 0, slots := 0, locals := 43 })
theorem zi_X11_image : zCal zm_X11_image 0 := ⟨zmem_1 13 (by decide +kernel) rfl, zmem_7 11 (by decide +kernel) rfl, by decide +kernel, by decide +kernel, by decide +kernel⟩
theorem zii_X11_image : Cond.instanceMethod yX11_image ∈ ztbl := zmem_7 9 (by decide +kernel) rfl
theorem zie_X11_image : Cond.selects zm_X11_image.1.cls yX11_image yX11_image ∈ ztbl := zmem_7 10 (by decide +kernel) rfl
abbrev zm_X11_copies : zM := (yX11_copies, cX11_copies, 3, none, { frames := 0, cells := 0, slots := 0, locals := 0 })
theorem zi_X11_copies : zCal zm_X11_copies 2 := ⟨zmem_1 13 (by decide +kernel) rfl, zmem_7 14 (by decide +kernel) rfl, by decide +kernel, by decide +kernel, by decide +kernel⟩
theorem zis_X11_copies : Cond.static yX11_copies ∈ ztbl := zmem_7 13 (by decide +kernel) rfl
abbrev zm_X11_seriesMany : zM := (yX11_seriesMany, cX11_seriesMany, 3, (some .int), { frames := 1, cells := 0, slots := 0, locals := 21 })
theorem zi_X11_seriesMany : zCal zm_X11_seriesMany 0 := ⟨zmem_1 13 (by decide +kernel) rfl, zmem_7 18 (by decide +kernel) rfl, by decide +kernel, by decide +kernel, by decide +kernel⟩
theorem zii_X11_seriesMany : Cond.instanceMethod yX11_seriesMany ∈ ztbl := zmem_7 17 (by decide +kernel) rfl
theorem zie_X11_seriesMany : Cond.selects zm_X11_seriesMany.1.cls yX11_seriesMany yX11_seriesMany ∈ ztbl := zmemp 61 (by decide +kernel) rfl
abbrev zm_X11_back : zM := (yX11_back, cX11_back, 1, (some .int), { frames := 2, cells := 0, slots := 0, locals := 43 })
theorem zi_X11_back : zCal zm_X11_back 0 := ⟨zmem_1 13 (by decide +kernel) rfl, zmem_7 22 (by decide +kernel) rfl, by decide +kernel, by decide +kernel, by decide +kernel⟩
theorem zii_X11_back : Cond.instanceMethod yX11_back ∈ ztbl := zmem_7 20 (by decide +kernel) rfl
theorem zie_X11_back : Cond.selects zm_X11_back.1.cls yX11_back yX11_back ∈ ztbl := zmem_7 21 (by decide +kernel) rfl
abbrev zm_X11_count : zM := (yX11_count, cX11_count, 2, (some .int), { frames := 2, cells := 0, slots := 0, locals := 43 })
theorem zi_X11_count : zCal zm_X11_count 1 := ⟨zmem_1 13 (by decide +kernel) rfl, zmem_7 26 (by decide +kernel) rfl, by decide +kernel, by decide +kernel, by decide +kernel⟩
theorem zii_X11_count : Cond.instanceMethod yX11_count ∈ ztbl := zmem_7 24 (by decide +kernel) rfl
theorem zie_X11_count : Cond.selects zm_X11_count.1.cls yX11_count yX11_count ∈ ztbl := zmem_7 25 (by decide +kernel) rfl
theorem zl_10_5 : Cond.methodLink RX10 5 objectInit ∈ ztbl := zmem_1 25 (by decide +kernel) rfl
theorem zl_10_13 : Cond.methodLink RX10 13 yX0_init ∈ ztbl := zmem_1 30 (by decide +kernel) rfl
theorem zl_10_44 : Cond.methodLink RX10 44 yX2_init ∈ ztbl := zmem_1 207 (by decide +kernel) rfl
theorem zl_10_79 : Cond.methodLink RX10 79 yJ7_fill_53178 ∈ ztbl := zmem_2 54 (by decide +kernel) rfl
theorem zl_10_85 : Cond.methodLink RX10 85 yX10_isModulus ∈ ztbl := zmem_2 96 (by decide +kernel) rfl
theorem zl_10_93 : Cond.methodLink RX10 93 yX0_startAnew ∈ ztbl := zmem_2 99 (by decide +kernel) rfl
theorem zl_10_97 : Cond.methodLink RX10 97 yX2_forget ∈ ztbl := zmem_2 103 (by decide +kernel) rfl
theorem zl_10_100 : Cond.methodLink RX10 100 yX10_isSeries ∈ ztbl := zmem_2 111 (by decide +kernel) rfl
theorem zl_10_107 : Cond.methodLink RX10 107 yX7_makeInvariant ∈ ztbl := zmem_2 114 (by decide +kernel) rfl
theorem zl_10_111 : Cond.methodLink RX10 111 yX10_isList ∈ ztbl := zmem_2 147 (by decide +kernel) rfl
theorem zl_10_114 : Cond.methodLink RX10 114 yX10_isTooFar ∈ ztbl := zmem_2 150 (by decide +kernel) rfl
theorem zl_10_117 : Cond.methodLink RX10 117 yX7_reduce ∈ ztbl := zmem_2 153 (by decide +kernel) rfl
theorem zl_10_121 : Cond.methodLink RX10 121 yX6_isMissing ∈ ztbl := zmem_2 164 (by decide +kernel) rfl
theorem zl_10_127 : Cond.methodLink RX10 127 yX7_add ∈ ztbl := zmem_2 168 (by decide +kernel) rfl
theorem zl_10_137 : Cond.methodLink RX10 137 yX7_makeProduct ∈ ztbl := zmem_2 187 (by decide +kernel) rfl
theorem zl_10_140 : Cond.methodLink RX10 140 yX7_widen ∈ ztbl := zmem_2 195 (by decide +kernel) rfl
theorem zl_10_147 : Cond.methodLink RX10 147 yX7_makeReciprocal ∈ ztbl := zmem_2 203 (by decide +kernel) rfl
theorem zl_10_151 : Cond.methodLink RX10 151 yX7_makePower ∈ ztbl := zmem_2 211 (by decide +kernel) rfl
theorem zl_10_155 : Cond.methodLink RX10 155 yX6_firstNonzero ∈ ztbl := zmem_2 220 (by decide +kernel) rfl
theorem zl_10_159 : Cond.methodLink RX10 159 yX6_last ∈ ztbl := zmem_2 228 (by decide +kernel) rfl
theorem zl_10_162 : Cond.methodLink RX10 162 yX6_valueOf ∈ ztbl := zmem_2 229 (by decide +kernel) rfl
theorem zl_10_166 : Cond.methodLink RX10 166 yX9_prepare ∈ ztbl := zmem_2 234 (by decide +kernel) rfl
theorem zl_10_170 : Cond.methodLink RX10 170 yX1_search ∈ ztbl := zmem_3 5 (by decide +kernel) rfl
theorem zl_10_178 : Cond.methodLink RX10 178 yX1_handOver ∈ ztbl := zmem_3 48 (by decide +kernel) rfl
theorem zl_10_182 : Cond.methodLink RX10 182 yX3_isMissing ∈ ztbl := zmem_3 65 (by decide +kernel) rfl
theorem zl_10_188 : Cond.methodLink RX10 188 yX3_leadingTerm ∈ ztbl := zmem_3 69 (by decide +kernel) rfl
theorem zl_10_191 : Cond.methodLink RX10 191 yX3_isSymmetric ∈ ztbl := zmem_3 73 (by decide +kernel) rfl
theorem zl_10_194 : Cond.methodLink RX10 194 yX3_nonzeroCount ∈ ztbl := zmem_3 77 (by decide +kernel) rfl
theorem zl_10_197 : Cond.methodLink RX10 197 yX3_has ∈ ztbl := zmem_3 85 (by decide +kernel) rfl
theorem zl_10_202 : Cond.methodLink RX10 202 yX10_isValue ∈ ztbl := zmem_3 93 (by decide +kernel) rfl
theorem zl_10_205 : Cond.methodLink RX10 205 yX3_valueOf ∈ ztbl := zmem_3 97 (by decide +kernel) rfl
theorem zl_10_208 : Cond.methodLink RX10 208 yX9_isZeroFor ∈ ztbl := zmem_3 105 (by decide +kernel) rfl
theorem zl_10_212 : Cond.methodLink RX10 212 yX2_isDegenerate ∈ ztbl := zmem_3 118 (by decide +kernel) rfl
theorem zl_10_216 : Cond.methodLink RX10 216 yX2_sizeOf ∈ ztbl := zmem_3 146 (by decide +kernel) rfl
theorem zl_10_220 : Cond.methodLink RX10 220 yX2_neighbourOf ∈ ztbl := zmem_3 153 (by decide +kernel) rfl
theorem zl_10_224 : Cond.methodLink RX10 224 yX2_walkFrom ∈ ztbl := zmem_3 161 (by decide +kernel) rfl
theorem zl_10_227 : Cond.methodLink RX10 227 yX2_distanceTo ∈ ztbl := zmem_3 167 (by decide +kernel) rfl
theorem zl_10_230 : Cond.methodLink RX10 230 yX2_ownNeighbours ∈ ztbl := zmem_3 179 (by decide +kernel) rfl
theorem zl_10_234 : Cond.methodLink RX10 234 yX2_degenerateValues ∈ ztbl := zmem_3 185 (by decide +kernel) rfl
theorem zl_10_237 : Cond.methodLink RX10 237 yX2_lonelyValues ∈ ztbl := zmem_3 189 (by decide +kernel) rfl
theorem zl_10_240 : Cond.methodLink RX10 240 yX2_greatestSize ∈ ztbl := zmem_3 193 (by decide +kernel) rfl
theorem zl_10_243 : Cond.methodLink RX10 243 yX10_isPlace ∈ ztbl := zmem_3 201 (by decide +kernel) rfl
theorem zl_10_246 : Cond.methodLink RX10 246 yX0_placeOf ∈ ztbl := zmem_3 204 (by decide +kernel) rfl
theorem zl_10_253 : Cond.methodLink RX10 253 yX3_copyFrom ∈ ztbl := zmem_3 209 (by decide +kernel) rfl
theorem zl_10_259 : Cond.methodLink RX10 259 yX0_keptCount ∈ ztbl := zmem_3 214 (by decide +kernel) rfl
theorem zl_10_262 : Cond.methodLink RX10 262 yX0_commonDegree ∈ ztbl := zmem_3 226 (by decide +kernel) rfl
theorem zl_10_267 : Cond.methodLink RX10 267 yX0_joinAt ∈ ztbl := zmem_3 231 (by decide +kernel) rfl
theorem zl_10_271 : Cond.methodLink RX10 271 yX0_keptProduct ∈ ztbl := zmem_4 1 (by decide +kernel) rfl
theorem zl_10_276 : Cond.methodLink RX10 276 yX8_append ∈ ztbl := zmem_4 9 (by decide +kernel) rfl
theorem zl_10_279 : Cond.methodLink RX10 279 yX5_parse ∈ ztbl := zmem_4 17 (by decide +kernel) rfl
theorem zl_10_286 : Cond.methodLink RX10 286 yX8_clear ∈ ztbl := zmem_4 124 (by decide +kernel) rfl
theorem zl_10_292 : Cond.methodLink RX10 292 yX10_carryOut ∈ ztbl := zmem_4 128 (by decide +kernel) rfl
theorem zl_10_295 : Cond.methodLink RX10 295 yX5_numberOf ∈ ztbl := zmem_4 132 (by decide +kernel) rfl
theorem zl_10_301 : Cond.methodLink RX10 301 yX10_prime ∈ ztbl := zmem_4 136 (by decide +kernel) rfl
theorem zl_10_304 : Cond.methodLink RX10 304 yX10_j ∈ ztbl := zmem_4 137 (by decide +kernel) rfl
theorem zl_10_307 : Cond.methodLink RX10 307 yX10_sum ∈ ztbl := zmem_4 138 (by decide +kernel) rfl
theorem zl_10_310 : Cond.methodLink RX10 310 yX10_times ∈ ztbl := zmem_4 139 (by decide +kernel) rfl
theorem zl_10_313 : Cond.methodLink RX10 313 yX10_stretch ∈ ztbl := zmem_4 140 (by decide +kernel) rfl
theorem zl_10_316 : Cond.methodLink RX10 316 yX10_over ∈ ztbl := zmem_4 141 (by decide +kernel) rfl
theorem zl_10_319 : Cond.methodLink RX10 319 yX10_power ∈ ztbl := zmem_4 142 (by decide +kernel) rfl
theorem zl_10_322 : Cond.methodLink RX10 322 yX10_find ∈ ztbl := zmem_4 143 (by decide +kernel) rfl
theorem zl_10_326 : Cond.methodLink RX10 326 yX10_keep ∈ ztbl := zmem_4 144 (by decide +kernel) rfl
theorem zl_10_329 : Cond.methodLink RX10 329 yX4_parse ∈ ztbl := zmem_4 150 (by decide +kernel) rfl
theorem zl_10_335 : Cond.methodLink RX10 335 yX4_putDown ∈ ztbl := zmem_4 172 (by decide +kernel) rfl
theorem zl_10_344 : Cond.methodLink RX10 344 Lib.Math.min.name ∈ ztbl := zmem_4 208 (by decide +kernel) rfl
theorem zl_10_349 : Cond.methodLink RX10 349 arraycopyName ∈ ztbl := zmem_4 209 (by decide +kernel) rfl
theorem zl_10_355 : Cond.methodLink RX10 355 yX0_copyFrom ∈ ztbl := zmem_4 218 (by decide +kernel) rfl
theorem zl_10_362 : Cond.methodLink RX10 362 yX0_seriesCount ∈ ztbl := zmem_4 228 (by decide +kernel) rfl
theorem zl_0_3 : Cond.methodLink RX0 3 objectInit ∈ ztbl := zmem_1 33 (by decide +kernel) rfl
theorem zl_0_43 : Cond.methodLink RX0 43 yX3_copyFrom ∈ ztbl := zmem_4 222 (by decide +kernel) rfl
theorem zl_0_47 : Cond.methodLink RX0 47 yX6_copyFrom ∈ ztbl := zmem_4 223 (by decide +kernel) rfl
theorem zl_0_50 : Cond.methodLink RX0 50 yX6_isMissing ∈ ztbl := zmem_4 232 (by decide +kernel) rfl
theorem zl_0_54 : Cond.methodLink RX0 54 yX3_isMissing ∈ ztbl := zmem_3 208 (by decide +kernel) rfl
theorem zl_1_3 : Cond.methodLink RX1 3 objectInit ∈ ztbl := zmem_1 172 (by decide +kernel) rfl
theorem zl_1_46 : Cond.methodLink RX1 46 yX1_listTerms ∈ ztbl := zmem_3 9 (by decide +kernel) rfl
theorem zl_1_49 : Cond.methodLink RX1 49 yX1_clearMatrix ∈ ztbl := zmem_3 13 (by decide +kernel) rfl
theorem zl_1_55 : Cond.methodLink RX1 55 yX1_addProduct ∈ ztbl := zmem_3 18 (by decide +kernel) rfl
theorem zl_1_59 : Cond.methodLink RX1 59 yX1_eliminate ∈ ztbl := zmem_3 26 (by decide +kernel) rfl
theorem zl_1_63 : Cond.methodLink RX1 63 yJ7_fill_53178 ∈ ztbl := zmem_3 17 (by decide +kernel) rfl
theorem zl_1_69 : Cond.methodLink RX1 69 yX9_multiplyTerm ∈ ztbl := zmem_3 22 (by decide +kernel) rfl
theorem zl_1_79 : Cond.methodLink RX1 79 yX1_pivotRow ∈ ztbl := zmem_3 30 (by decide +kernel) rfl
theorem zl_1_82 : Cond.methodLink RX1 82 Lib.Math.min.name ∈ ztbl := zmem_3 34 (by decide +kernel) rfl
theorem zl_1_87 : Cond.methodLink RX1 87 yX1_swapRows ∈ ztbl := zmem_3 35 (by decide +kernel) rfl
theorem zl_1_91 : Cond.methodLink RX1 91 yX1_scaleRow ∈ ztbl := zmem_3 39 (by decide +kernel) rfl
theorem zl_1_95 : Cond.methodLink RX1 95 yX1_clearBelow ∈ ztbl := zmem_3 44 (by decide +kernel) rfl
theorem zl_1_101 : Cond.methodLink RX1 101 yX1_solve ∈ ztbl := zmem_3 52 (by decide +kernel) rfl
theorem zl_1_104 : Cond.methodLink RX1 104 yX3_clear ∈ ztbl := zmem_3 56 (by decide +kernel) rfl
theorem zl_2_3 : Cond.methodLink RX2 3 objectInit ∈ ztbl := zmem_1 210 (by decide +kernel) rfl
theorem zl_2_27 : Cond.methodLink RX2 27 yJ7_fill_53178 ∈ ztbl := zmem_1 211 (by decide +kernel) rfl
theorem zl_2_33 : Cond.methodLink RX2 33 yX2_explore ∈ ztbl := zmem_3 122 (by decide +kernel) rfl
theorem zl_2_37 : Cond.methodLink RX2 37 Lib.Math.max.name ∈ ztbl := zmem_3 150 (by decide +kernel) rfl
theorem zl_2_53 : Cond.methodLink RX2 53 yX2_listNeighbours ∈ ztbl := zmem_3 126 (by decide +kernel) rfl
theorem zl_2_57 : Cond.methodLink RX2 57 yX2_fillLine ∈ ztbl := zmem_3 130 (by decide +kernel) rfl
theorem zl_2_60 : Cond.methodLink RX2 60 yX2_lineAt ∈ ztbl := zmem_3 138 (by decide +kernel) rfl
theorem zl_2_64 : Cond.methodLink RX2 64 yX2_divideLine ∈ ztbl := zmem_3 142 (by decide +kernel) rfl
theorem zl_2_73 : Cond.methodLink RX2 73 yX3_lineCoefficient ∈ ztbl := zmem_3 134 (by decide +kernel) rfl
theorem zl_2_76 : Cond.methodLink RX2 76 yX2_sizeOf ∈ ztbl := zmem_3 165 (by decide +kernel) rfl
theorem zl_2_80 : Cond.methodLink RX2 80 yX2_neighbourOf ∈ ztbl := zmem_3 166 (by decide +kernel) rfl
theorem zl_2_83 : Cond.methodLink RX2 83 yX2_isDegenerate ∈ ztbl := zmem_3 183 (by decide +kernel) rfl
theorem zl_2_87 : Cond.methodLink RX2 87 yX3_valueOf ∈ ztbl := zmem_3 184 (by decide +kernel) rfl
theorem zl_3_3 : Cond.methodLink RX3 3 objectInit ∈ ztbl := zmem_1 41 (by decide +kernel) rfl
theorem zl_3_19 : Cond.methodLink RX3 19 yJ7_fill_53178 ∈ ztbl := zmem_3 60 (by decide +kernel) rfl
theorem zl_3_25 : Cond.methodLink RX3 25 arraycopyName ∈ ztbl := zmem_3 213 (by decide +kernel) rfl
theorem zl_4_3 : Cond.methodLink RX4 3 objectInit ∈ ztbl := zmem_2 37 (by decide +kernel) rfl
theorem zl_4_22 : Cond.methodLink RX4 22 yX8_rewind ∈ ztbl := zmem_4 154 (by decide +kernel) rfl
theorem zl_4_27 : Cond.methodLink RX4 27 yX3_clear ∈ ztbl := zmem_4 155 (by decide +kernel) rfl
theorem zl_4_31 : Cond.methodLink RX4 31 yX4_parseTerm ∈ ztbl := zmem_4 156 (by decide +kernel) rfl
theorem zl_4_35 : Cond.methodLink RX4 35 yX8_accept ∈ ztbl := zmem_4 161 (by decide +kernel) rfl
theorem zl_4_39 : Cond.methodLink RX4 39 yX8_isAtEnd ∈ ztbl := zmem_4 167 (by decide +kernel) rfl
theorem zl_4_43 : Cond.methodLink RX4 43 yX8_acceptNumber ∈ ztbl := zmem_4 160 (by decide +kernel) rfl
theorem zl_4_50 : Cond.methodLink RX4 50 yX8_acceptExponent ∈ ztbl := zmem_4 162 (by decide +kernel) rfl
theorem zl_4_59 : Cond.methodLink RX4 59 Lib.Math.max.name ∈ ztbl := zmem_4 166 (by decide +kernel) rfl
theorem zl_4_68 : Cond.methodLink RX4 68 yX4_putTerm ∈ ztbl := zmem_4 176 (by decide +kernel) rfl
theorem zl_4_72 : Cond.methodLink RX4 72 yX4_putByte ∈ ztbl := zmem_4 180 (by decide +kernel) rfl
theorem zl_4_75 : Cond.methodLink RX4 75 yX4_putNumber ∈ ztbl := zmem_4 184 (by decide +kernel) rfl
theorem zl_5_3 : Cond.methodLink RX5 3 objectInit ∈ ztbl := zmem_2 19 (by decide +kernel) rfl
theorem zl_5_18 : Cond.methodLink RX5 18 yX8_rewind ∈ ztbl := zmem_4 21 (by decide +kernel) rfl
theorem zl_5_27 : Cond.methodLink RX5 27 yX5_parseCommand ∈ ztbl := zmem_4 25 (by decide +kernel) rfl
theorem zl_5_31 : Cond.methodLink RX5 31 yX8_accept ∈ ztbl := zmem_4 103 (by decide +kernel) rfl
theorem zl_5_35 : Cond.methodLink RX5 35 yX8_isAtEnd ∈ ztbl := zmem_4 120 (by decide +kernel) rfl
theorem zl_5_39 : Cond.methodLink RX5 39 yX8_wordEnd ∈ ztbl := zmem_4 29 (by decide +kernel) rfl
theorem zl_5_43 : Cond.methodLink RX5 43 yX5_commandAt ∈ ztbl := zmem_4 33 (by decide +kernel) rfl
theorem zl_5_50 : Cond.methodLink RX5 50 yX5_numbersAfter ∈ ztbl := zmem_4 100 (by decide +kernel) rfl
theorem zl_5_54 : Cond.methodLink RX5 54 yX8_acceptSignedNumber ∈ ztbl := zmem_4 107 (by decide +kernel) rfl
theorem zl_5_60 : Cond.methodLink RX5 60 yX5_wordOf ∈ ztbl := zmem_4 36 (by decide +kernel) rfl
theorem zl_5_64 : Cond.methodLink RX5 64 yX8_hasWord ∈ ztbl := zmem_4 48 (by decide +kernel) rfl
theorem zl_6_3 : Cond.methodLink RX6 3 objectInit ∈ ztbl := zmem_1 65 (by decide +kernel) rfl
theorem zl_6_22 : Cond.methodLink RX6 22 arraycopyName ∈ ztbl := zmem_2 140 (by decide +kernel) rfl
theorem zl_6_28 : Cond.methodLink RX6 28 yX6_become ∈ ztbl := zmem_4 227 (by decide +kernel) rfl
theorem zl_7_3 : Cond.methodLink RX7 3 objectInit ∈ ztbl := zmem_1 114 (by decide +kernel) rfl
theorem zl_7_24 : Cond.methodLink RX7 24 yJ9_floorMod_7cf53 ∈ ztbl := zmem_2 157 (by decide +kernel) rfl
theorem zl_7_30 : Cond.methodLink RX7 30 yX6_become ∈ ztbl := zmem_2 136 (by decide +kernel) rfl
theorem zl_7_40 : Cond.methodLink RX7 40 Lib.Math.min.name ∈ ztbl := zmem_2 172 (by decide +kernel) rfl
theorem zl_7_43 : Cond.methodLink RX7 43 yX6_last ∈ ztbl := zmem_2 175 (by decide +kernel) rfl
theorem zl_7_47 : Cond.methodLink RX7 47 yX6_valueOf ∈ ztbl := zmem_2 179 (by decide +kernel) rfl
theorem zl_7_61 : Cond.methodLink RX7 61 yJ7_fill_53178 ∈ ztbl := zmem_2 122 (by decide +kernel) rfl
theorem zl_7_67 : Cond.methodLink RX7 67 yX7_invert ∈ ztbl := zmem_2 130 (by decide +kernel) rfl
theorem zl_7_71 : Cond.methodLink RX7 71 arraycopyName ∈ ztbl := zmem_2 215 (by decide +kernel) rfl
theorem zl_7_77 : Cond.methodLink RX7 77 yX7_fillEisenstein ∈ ztbl := zmem_2 118 (by decide +kernel) rfl
theorem zl_7_81 : Cond.methodLink RX7 81 yX7_fillEulerProduct ∈ ztbl := zmem_2 126 (by decide +kernel) rfl
theorem zl_8_3 : Cond.methodLink RX8 3 objectInit ∈ ztbl := zmem_1 235 (by decide +kernel) rfl
theorem zl_8_25 : Cond.methodLink RX8 25 yX8_isAtDigit ∈ ztbl := zmem_4 116 (by decide +kernel) rfl
theorem zl_8_29 : Cond.methodLink RX8 29 yX8_accept ∈ ztbl := zmem_4 111 (by decide +kernel) rfl
theorem zl_8_33 : Cond.methodLink RX8 33 yX8_acceptNumber ∈ ztbl := zmem_4 112 (by decide +kernel) rfl
theorem zl_8_37 : Cond.methodLink RX8 37 yJ0_length_8abf5 ∈ ztbl := zmem_4 52 (by decide +kernel) rfl
theorem zl_8_42 : Cond.methodLink RX8 42 yJ0_charAt_5068e ∈ ztbl := zmem_4 62 (by decide +kernel) rfl
theorem zl_9_3 : Cond.methodLink RX9 3 objectInit ∈ ztbl := zmem_1 133 (by decide +kernel) rfl
theorem zl_9_38 : Cond.methodLink RX9 38 Lib.Math.min.name ∈ ztbl := zmem_2 238 (by decide +kernel) rfl
theorem zl_9_57 : Cond.methodLink RX9 57 yX9_fillPowers ∈ ztbl := zmem_2 239 (by decide +kernel) rfl
theorem zl_9_61 : Cond.methodLink RX9 61 yJ7_fill_53178 ∈ ztbl := zmem_3 3 (by decide +kernel) rfl
theorem zl_9_77 : Cond.methodLink RX9 77 yX9_addTerm ∈ ztbl := zmem_3 109 (by decide +kernel) rfl
theorem zl_9_81 : Cond.methodLink RX9 81 yX9_multiplyTerm ∈ ztbl := zmem_3 113 (by decide +kernel) rfl
theorem zl_11_3 : Cond.methodLink RX11 3 objectInit ∈ ztbl := zmem_5 6 (by decide +kernel) rfl
theorem zl_11_114 : Cond.methodLink RX11 114 yX11_in ∈ ztbl := zmem_5 167 (by decide +kernel) rfl
theorem zl_11_124 : Cond.methodLink RX11 124 yX11_isPrime ∈ ztbl := zmem_5 162 (by decide +kernel) rfl
theorem zl_11_137 : Cond.methodLink RX11 137 yX11_inverse ∈ ztbl := zmem_5 194 (by decide +kernel) rfl
theorem zl_11_141 : Cond.methodLink RX11 141 yX11_isSeries ∈ ztbl := zmem_5 174 (by decide +kernel) rfl
theorem zl_11_148 : Cond.methodLink RX11 148 yX11_whole ∈ ztbl := zmem_5 179 (by decide +kernel) rfl
theorem zl_11_152 : Cond.methodLink RX11 152 yX11_multiplies ∈ ztbl := zmem_5 183 (by decide +kernel) rfl
theorem zl_11_156 : Cond.methodLink RX11 156 yX11_lays ∈ ztbl := zmem_5 187 (by decide +kernel) rfl
theorem zl_11_160 : Cond.methodLink RX11 160 yX11_divides ∈ ztbl := zmem_5 190 (by decide +kernel) rfl
theorem zl_11_163 : Cond.methodLink RX11 163 yX11_becomes ∈ ztbl := zmem_5 198 (by decide +kernel) rfl
theorem zl_11_166 : Cond.methodLink RX11 166 yX11_isThere ∈ ztbl := zmem_5 206 (by decide +kernel) rfl
theorem zl_11_169 : Cond.methodLink RX11 169 Lib.Math.min.name ∈ ztbl := zmem_5 210 (by decide +kernel) rfl
theorem zl_11_175 : Cond.methodLink RX11 175 yX11_numberOf ∈ ztbl := zmem_5 211 (by decide +kernel) rfl
theorem zl_11_178 : Cond.methodLink RX11 178 yX11_isStart ∈ ztbl := zmem_5 219 (by decide +kernel) rfl
theorem zl_11_183 : Cond.methodLink RX11 183 yX11_powers ∈ ztbl := zmem_5 237 (by decide +kernel) rfl
theorem zl_11_204 : Cond.methodLink RX11 204 yX11_lessens ∈ ztbl := zmem_6 38 (by decide +kernel) rfl
theorem zl_11_208 : Cond.methodLink RX11 208 yX11_firstOther ∈ ztbl := zmem_6 42 (by decide +kernel) rfl
theorem zl_11_212 : Cond.methodLink RX11 212 yX11_emptiesColumn ∈ ztbl := zmem_6 23 (by decide +kernel) rfl
theorem zl_11_215 : Cond.methodLink RX11 215 yX11_adds ∈ ztbl := zmem_6 27 (by decide +kernel) rfl
theorem zl_11_218 : Cond.methodLink RX11 218 yX11_place ∈ ztbl := zmem_6 31 (by decide +kernel) rfl
theorem zl_11_222 : Cond.methodLink RX11 222 yX11_comes ∈ ztbl := zmem_6 34 (by decide +kernel) rfl
theorem zl_11_231 : Cond.methodLink RX11 231 yX11_tellsPowers ∈ ztbl := zmem_6 15 (by decide +kernel) rfl
theorem zl_11_234 : Cond.methodLink RX11 234 yX11_tries ∈ ztbl := zmem_6 19 (by decide +kernel) rfl
theorem zl_11_240 : Cond.methodLink RX11 240 yX11_termAt ∈ ztbl := zmem_6 51 (by decide +kernel) rfl
theorem zl_11_243 : Cond.methodLink RX11 243 yX11_isValue ∈ ztbl := zmem_6 63 (by decide +kernel) rfl
theorem zl_11_246 : Cond.methodLink RX11 246 yX11_puts ∈ ztbl := zmem_6 67 (by decide +kernel) rfl
theorem zl_11_249 : Cond.methodLink RX11 249 yX11_worth ∈ ztbl := zmem_6 71 (by decide +kernel) rfl
theorem zl_11_255 : Cond.methodLink RX11 255 yX11_oftenOf ∈ ztbl := zmem_6 87 (by decide +kernel) rfl
theorem zl_11_258 : Cond.methodLink RX11 258 yX11_tellsNeighbours ∈ ztbl := zmem_6 83 (by decide +kernel) rfl
theorem zl_11_261 : Cond.methodLink RX11 261 yX11_tellsAway ∈ ztbl := zmem_6 95 (by decide +kernel) rfl
theorem zl_11_266 : Cond.methodLink RX11 266 yX11_keptPrime ∈ ztbl := zmem_6 115 (by decide +kernel) rfl
theorem zl_11_269 : Cond.methodLink RX11 269 yX11_isKept ∈ ztbl := zmem_6 111 (by decide +kernel) rfl
theorem zl_11_272 : Cond.methodLink RX11 272 yX11_keptMany ∈ ztbl := zmem_6 119 (by decide +kernel) rfl
theorem zl_11_277 : Cond.methodLink RX11 277 yX11_joinedDegree ∈ ztbl := zmem_6 136 (by decide +kernel) rfl
theorem zl_11_288 : Cond.methodLink RX11 288 yX11_here ∈ ztbl := zmem_6 157 (by decide +kernel) rfl
theorem zl_11_299 : Cond.methodLink RX11 299 yX11_isLetter ∈ ztbl := zmem_6 153 (by decide +kernel) rfl
theorem zl_11_302 : Cond.methodLink RX11 302 yX11_wordFrom ∈ ztbl := zmem_6 163 (by decide +kernel) rfl
theorem zl_11_305 : Cond.methodLink RX11 305 yX11_isFigure ∈ ztbl := zmem_6 167 (by decide +kernel) rfl
theorem zl_11_308 : Cond.methodLink RX11 308 yX11_prime ∈ ztbl := zmem_6 177 (by decide +kernel) rfl
theorem zl_11_311 : Cond.methodLink RX11 311 yX11_j ∈ ztbl := zmem_6 178 (by decide +kernel) rfl
theorem zl_11_314 : Cond.methodLink RX11 314 yX11_sum ∈ ztbl := zmem_6 179 (by decide +kernel) rfl
theorem zl_11_317 : Cond.methodLink RX11 317 yX11_times ∈ ztbl := zmem_6 180 (by decide +kernel) rfl
theorem zl_11_320 : Cond.methodLink RX11 320 yX11_stretch ∈ ztbl := zmem_6 181 (by decide +kernel) rfl
theorem zl_11_323 : Cond.methodLink RX11 323 yX11_over ∈ ztbl := zmem_6 182 (by decide +kernel) rfl
theorem zl_11_326 : Cond.methodLink RX11 326 yX11_power ∈ ztbl := zmem_6 183 (by decide +kernel) rfl
theorem zl_11_329 : Cond.methodLink RX11 329 yX11_find ∈ ztbl := zmem_6 184 (by decide +kernel) rfl
theorem zl_11_333 : Cond.methodLink RX11 333 yX11_keep ∈ ztbl := zmem_6 185 (by decide +kernel) rfl
theorem zl_11_336 : Cond.methodLink RX11 336 yX11_readsDeed ∈ ztbl := zmem_6 149 (by decide +kernel) rfl
theorem zl_11_339 : Cond.methodLink RX11 339 yX11_does ∈ ztbl := zmem_6 173 (by decide +kernel) rfl
theorem zl_11_346 : Cond.methodLink RX11 346 yX11_readsPower ∈ ztbl := zmem_6 194 (by decide +kernel) rfl
theorem zl_11_352 : Cond.methodLink RX11 352 Lib.Math.max.name ∈ ztbl := zmem_6 200 (by decide +kernel) rfl
theorem zl_11_355 : Cond.methodLink RX11 355 yX11_readsTerm ∈ ztbl := zmem_6 190 (by decide +kernel) rfl
theorem zl_11_361 : Cond.methodLink RX11 361 yX11_writes ∈ ztbl := zmem_6 205 (by decide +kernel) rfl
theorem zl_11_364 : Cond.methodLink RX11 364 yX11_writesNumber ∈ ztbl := zmem_6 209 (by decide +kernel) rfl
theorem zl_11_367 : Cond.methodLink RX11 367 yX11_writesPower ∈ ztbl := zmem_6 213 (by decide +kernel) rfl
theorem zl_11_371 : Cond.methodLink RX11 371 yX11_isList ∈ ztbl := zmem_6 225 (by decide +kernel) rfl
theorem zl_11_384 : Cond.methodLink RX11 384 yX11_copies ∈ ztbl := zmem_7 12 (by decide +kernel) rfl
theorem zl_11_388 : Cond.methodLink RX11 388 yX11_seriesMany ∈ ztbl := zmem_7 15 (by decide +kernel) rfl
theorem zn_10_23 : (RX10, 23, yX7_init, RX10) ∈ zNest := List.mem_of_getElem? (i := 2) rfl
theorem zn_10_30 : (RX10, 30, yX9_init, RX10) ∈ zNest := List.mem_of_getElem? (i := 3) rfl
theorem zn_10_37 : (RX10, 37, yX1_init, RX10) ∈ zNest := List.mem_of_getElem? (i := 4) rfl
theorem zn_10_51 : (RX10, 51, yX8_init, RX10) ∈ zNest := List.mem_of_getElem? (i := 5) rfl
theorem zn_10_58 : (RX10, 58, yX5_init, RX10) ∈ zNest := List.mem_of_getElem? (i := 6) rfl
theorem zn_10_65 : (RX10, 65, yX4_init, RX10) ∈ zNest := List.mem_of_getElem? (i := 7) rfl
theorem zn_0_23 : (RX0, 23, yX3_init, RX10) ∈ zNest := List.mem_of_getElem? (i := 0) rfl
theorem zn_0_36 : (RX0, 36, yX6_init, RX10) ∈ zNest := List.mem_of_getElem? (i := 1) rfl
theorem zn_0_58 : (RX0, 58, yX10_inverse, RX10) ∈ zNest := List.mem_of_getElem? (i := 13) rfl
theorem zn_1_98 : (RX1, 98, yX10_inverse, RX10) ∈ zNest := List.mem_of_getElem? (i := 12) rfl
theorem zn_4_11 : (RX4, 11, yX3_init, RX10) ∈ zNest := List.mem_of_getElem? (i := 8) rfl
theorem zn_7_57 : (RX7, 57, yX10_multiply, RX10) ∈ zNest := List.mem_of_getElem? (i := 9) rfl
theorem zn_7_84 : (RX7, 84, yX10_inverse, RX10) ∈ zNest := List.mem_of_getElem? (i := 10) rfl
theorem zn_9_67 : (RX9, 67, yX10_multiply, RX10) ∈ zNest := List.mem_of_getElem? (i := 11) rfl
theorem zk_10_265 : Cond.constantLong RX10 265 (zL (-9223372036854775808)) ∈ ztbl := zmem_3 230 (by decide +kernel) rfl
theorem zk_0_62 : Cond.constantLong RX0 62 (zL (2)) ∈ ztbl := zmem_3 236 (by decide +kernel) rfl
theorem zk_11_112 : Cond.constantLong RX11 112 (zL (5)) ∈ ztbl := zmem_5 165 (by decide +kernel) rfl
theorem zk_11_118 : Cond.constantLong RX11 118 (zL (-99)) ∈ ztbl := zmem_5 222 (by decide +kernel) rfl
theorem zk_11_120 : Cond.constantLong RX11 120 (zL (99)) ∈ ztbl := zmem_5 223 (by decide +kernel) rfl
theorem zk_11_122 : Cond.constantLong RX11 122 (zL (199)) ∈ ztbl := zmem_5 166 (by decide +kernel) rfl
theorem zk_11_144 : Cond.constantLong RX11 144 (zL (80)) ∈ ztbl := zmem_5 177 (by decide +kernel) rfl
theorem zk_11_146 : Cond.constantLong RX11 146 (zL (240)) ∈ ztbl := zmem_5 178 (by decide +kernel) rfl
theorem zk_11_181 : Cond.constantLong RX11 181 (zL (9)) ∈ ztbl := zmem_5 228 (by decide +kernel) rfl
theorem zk_11_187 : Cond.constantLong RX11 187 (zL (2)) ∈ ztbl := zmem_6 5 (by decide +kernel) rfl
theorem zk_11_229 : Cond.constantLong RX11 229 (zL (8)) ∈ ztbl := zmem_6 14 (by decide +kernel) rfl
theorem zk_11_238 : Cond.constantLong RX11 238 (zL (3)) ∈ ztbl := zmem_6 50 (by decide +kernel) rfl
theorem zk_11_264 : Cond.constantLong RX11 264 (zL (7)) ∈ ztbl := zmem_6 114 (by decide +kernel) rfl
theorem zk_11_275 : Cond.constantLong RX11 275 (zL (-9223372036854775808)) ∈ ztbl := zmem_6 131 (by decide +kernel) rfl
theorem zk_11_280 : Cond.constantLong RX11 280 (zL (127)) ∈ ztbl := zmem_6 144 (by decide +kernel) rfl
theorem zk_11_291 : Cond.constantLong RX11 291 (zL (48)) ∈ ztbl := zmem_6 171 (by decide +kernel) rfl
theorem zk_11_293 : Cond.constantLong RX11 293 (zL (57)) ∈ ztbl := zmem_6 172 (by decide +kernel) rfl
theorem zk_11_295 : Cond.constantLong RX11 295 (zL (97)) ∈ ztbl := zmem_6 161 (by decide +kernel) rfl
theorem zk_11_297 : Cond.constantLong RX11 297 (zL (122)) ∈ ztbl := zmem_6 162 (by decide +kernel) rfl
theorem zk_11_342 : Cond.constantLong RX11 342 (zL (49)) ∈ ztbl := zmem_6 198 (by decide +kernel) rfl
theorem zk_11_344 : Cond.constantLong RX11 344 (zL (56)) ∈ ztbl := zmem_6 199 (by decide +kernel) rfl
theorem zb_minS : Cond.static Lib.Math.min.name ∈ ztbl := zmem_2 173 (by decide +kernel) rfl
theorem zb_minC : Cond.code Lib.Math.min.name Lib.Math.min.code 2 (some .int) ∈ ztbl := zmem_2 174 (by decide +kernel) rfl
theorem zb_maxS : Cond.static Lib.Math.max.name ∈ ztbl := zmem_3 151 (by decide +kernel) rfl
theorem zb_maxC : Cond.code Lib.Math.max.name Lib.Math.max.code 2 (some .int) ∈ ztbl := zmem_3 152 (by decide +kernel) rfl
theorem zb_mathI : Cond.initialized "java/lang/Math" ∈ ztbl := zmem_1 15 (by decide +kernel) rfl
theorem zb_cpN : Cond.native arraycopyName ∈ ztbl := zmem_2 142 (by decide +kernel) rfl
theorem zb_cpS : Cond.static arraycopyName ∈ ztbl := zmem_2 141 (by decide +kernel) rfl
theorem zb_cpI : Cond.initialized "java/lang/System" ∈ ztbl := zmem_1 14 (by decide +kernel) rfl
theorem zb_objI : Cond.instanceMethod objectInit ∈ ztbl := zmem_1 26 (by decide +kernel) rfl
theorem zb_objC : Cond.code objectInit ⟨#[0xb1]⟩ 1 none ∈ ztbl := zmem_1 27 (by decide +kernel) rfl
theorem zb_arrI : Cond.arrayClass .int ∈ ztbl := zmem_1 59 (by decide +kernel) rfl
