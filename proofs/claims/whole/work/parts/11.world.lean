/-! THE OBJECTS: 212, the class at 0, the reference at 183 -/
def K0 : List (Nat × Nat) := [(39, 20), (4, 900), (31, 11), (0, 6), (0, 6), (0, 6), (0, 900), (0, 3), (0, 3), (36, 7), (0, 10), (0, 10), (0, 10), (0, 10), (0, 6), (31, 11), (0, 6), (0, 6), (0, 6), (0, 900), (0, 3), (0, 3), (36, 7), (0, 10), (0, 10), (0, 10), (0, 10), (0, 6), (37, 11), (0, 901), (0, 901), (0, 901), (11, 2), (5, 2), (35, 2), (16, 10), (36, 7), (0, 10), (0, 10), (0, 10), (0, 10), (0, 6), (36, 7), (0, 10), (0, 10), (0, 10), (0, 10), (0, 6), (36, 7), (0, 10), (0, 10), (0, 10), (0, 10), (0, 6), (36, 7), (0, 10), (0, 10), (0, 10), (0, 10), (0, 6), (36, 7), (0, 10), (0, 10), (0, 10), (0, 10), (0, 6), (36, 7), (0, 10), (0, 10), (0, 10), (0, 10), (0, 6), (36, 7), (0, 10), (0, 10), (0, 10), (0, 10), (0, 6), (36, 7), (0, 10), (0, 10), (0, 10), (0, 10), (0, 6), (36, 7), (0, 10), (0, 10), (0, 10), (0, 10), (0, 6), (36, 7), (0, 10), (0, 10), (0, 10), (0, 10), (0, 6), (18, 4), (33, 9), (0, 36), (0, 36), (0, 36), (0, 9), (0, 64), (1, 72), (1, 72), (30, 16), (0, 512), (0, 512), (0, 6), (0, 6), (0, 10), (0, 100), (0, 10), (0, 100), (0, 100), (0, 512), (0, 512), (34, 4), (1, 6), (1, 6), (32, 11), (36, 7), (0, 10), (0, 10), (0, 10), (0, 10), (0, 6), (33, 9), (0, 36), (0, 36), (0, 36), (0, 9), (0, 64), (1, 72), (1, 72), (30, 16), (0, 512), (0, 512), (0, 6), (0, 6), (0, 10), (0, 100), (0, 10), (0, 100), (0, 100), (0, 512), (0, 512), (0, 64), (0, 21), (31, 11), (0, 6), (0, 6), (0, 6), (0, 900), (0, 3), (0, 3), (36, 7), (0, 10), (0, 10), (0, 10), (0, 10), (0, 6), (31, 11), (0, 6), (0, 6), (0, 6), (0, 900), (0, 3), (0, 3), (36, 7), (0, 10), (0, 10), (0, 10), (0, 10), (0, 6), (38, 4), (1, 40), (38, 4), (1, 40), (38, 4), (1, 40), (38, 4), (1, 40), (40, 49), (0, 4119), (5, 2), (0, 900), (0, 1373), (0, 900), (0, 9), (0, 54000), (0, 10), (0, 10), (0, 10), (0, 36), (0, 100), (0, 100), (0, 640), (0, 640), (0, 640), (0, 640), (0, 640), (0, 640), (0, 6), (5, 10), (0, 40), (0, 21), (1, 6), (1, 6), (0, 4), (0, 4), (1, 160)]
def foT : List (List (Option Int)) := [[none, some 1, some 2, some 3, some 4, some 5, none, none, none, some 6, some 7, some 8, some 9, none, some 10, some 11], [none, none, none, none, some 1, some 2, some 3, some 4, some 5, some 6, some 7], [none, none, none, none, none, none, none, none, none, none, none], [some 1, some 2, some 3, none, none, some 4, some 5, some 6, some 7], [none, none, some 1, some 2], [none, some 1], [none, some 1, some 2, some 3, some 4, some 5, none], [none, none, none, none, none, some 1, some 2, some 3, none, none, none], [none, none, none, some 1], [some 1, none, none, none, some 28, some 32, some 33, some 34, some 96, none, some 97, some 105, some 117, some 120, some 121, some 127, some 135, some 147, some 148, none], [none, some 1, some 2, some 3, some 4, none, none, none, none, none, none, none, none, none, none, none, some 5, some 6, some 7, none, some 8, some 9, some 10, some 11, some 12, some 13, some 14, some 15, some 16, some 17, some 18, some 19, some 20, some 21, none, none, none, some 22, none, none, none, none, none, some 23, some 24, some 25, some 26, some 27, some 28]]
def fo0 (ci j : Nat) : Option Int := ((foT[ci]?.getD [])[j]?).getD none
abbrev SC : Type := Nat × (Int → Int)
abbrev TT (sc : SC) : Wd := (K0, fo0, sc)
def kd0 (a : Int) : Option (Nat × Nat) := if a < 0 then none else K0[a.toNat]?
theorem kd_TT (sc : SC) (a : Int) : kd (TT sc) a = kd0 a := rfl
theorem k_0 : kd0 0 = some (39, 20) := by decide +kernel
theorem k_1 : kd0 1 = some (4, 900) := by decide +kernel
theorem k_2 : kd0 2 = some (31, 11) := by decide +kernel
theorem k_3 : kd0 3 = some (0, 6) := by decide +kernel
theorem k_4 : kd0 4 = some (0, 6) := by decide +kernel
theorem k_5 : kd0 5 = some (0, 6) := by decide +kernel
theorem k_6 : kd0 6 = some (0, 900) := by decide +kernel
theorem k_7 : kd0 7 = some (0, 3) := by decide +kernel
theorem k_8 : kd0 8 = some (0, 3) := by decide +kernel
theorem k_9 : kd0 9 = some (36, 7) := by decide +kernel
theorem k_10 : kd0 10 = some (0, 10) := by decide +kernel
theorem k_11 : kd0 11 = some (0, 10) := by decide +kernel
theorem k_12 : kd0 12 = some (0, 10) := by decide +kernel
theorem k_13 : kd0 13 = some (0, 10) := by decide +kernel
theorem k_14 : kd0 14 = some (0, 6) := by decide +kernel
theorem k_15 : kd0 15 = some (31, 11) := by decide +kernel
theorem k_16 : kd0 16 = some (0, 6) := by decide +kernel
theorem k_17 : kd0 17 = some (0, 6) := by decide +kernel
theorem k_18 : kd0 18 = some (0, 6) := by decide +kernel
theorem k_19 : kd0 19 = some (0, 900) := by decide +kernel
theorem k_20 : kd0 20 = some (0, 3) := by decide +kernel
theorem k_21 : kd0 21 = some (0, 3) := by decide +kernel
theorem k_22 : kd0 22 = some (36, 7) := by decide +kernel
theorem k_23 : kd0 23 = some (0, 10) := by decide +kernel
theorem k_24 : kd0 24 = some (0, 10) := by decide +kernel
theorem k_25 : kd0 25 = some (0, 10) := by decide +kernel
theorem k_26 : kd0 26 = some (0, 10) := by decide +kernel
theorem k_27 : kd0 27 = some (0, 6) := by decide +kernel
theorem k_28 : kd0 28 = some (37, 11) := by decide +kernel
theorem k_29 : kd0 29 = some (0, 901) := by decide +kernel
theorem k_30 : kd0 30 = some (0, 901) := by decide +kernel
theorem k_31 : kd0 31 = some (0, 901) := by decide +kernel
theorem k_32 : kd0 32 = some (11, 2) := by decide +kernel
theorem k_33 : kd0 33 = some (5, 2) := by decide +kernel
theorem k_34 : kd0 34 = some (35, 2) := by decide +kernel
theorem k_35 : kd0 35 = some (16, 10) := by decide +kernel
theorem k_36 : kd0 36 = some (36, 7) := by decide +kernel
theorem k_37 : kd0 37 = some (0, 10) := by decide +kernel
theorem k_38 : kd0 38 = some (0, 10) := by decide +kernel
theorem k_39 : kd0 39 = some (0, 10) := by decide +kernel
theorem k_40 : kd0 40 = some (0, 10) := by decide +kernel
theorem k_41 : kd0 41 = some (0, 6) := by decide +kernel
theorem k_42 : kd0 42 = some (36, 7) := by decide +kernel
theorem k_43 : kd0 43 = some (0, 10) := by decide +kernel
theorem k_44 : kd0 44 = some (0, 10) := by decide +kernel
theorem k_45 : kd0 45 = some (0, 10) := by decide +kernel
theorem k_46 : kd0 46 = some (0, 10) := by decide +kernel
theorem k_47 : kd0 47 = some (0, 6) := by decide +kernel
theorem k_48 : kd0 48 = some (36, 7) := by decide +kernel
theorem k_49 : kd0 49 = some (0, 10) := by decide +kernel
theorem k_50 : kd0 50 = some (0, 10) := by decide +kernel
theorem k_51 : kd0 51 = some (0, 10) := by decide +kernel
theorem k_52 : kd0 52 = some (0, 10) := by decide +kernel
theorem k_53 : kd0 53 = some (0, 6) := by decide +kernel
theorem k_54 : kd0 54 = some (36, 7) := by decide +kernel
theorem k_55 : kd0 55 = some (0, 10) := by decide +kernel
theorem k_56 : kd0 56 = some (0, 10) := by decide +kernel
theorem k_57 : kd0 57 = some (0, 10) := by decide +kernel
theorem k_58 : kd0 58 = some (0, 10) := by decide +kernel
theorem k_59 : kd0 59 = some (0, 6) := by decide +kernel
theorem k_60 : kd0 60 = some (36, 7) := by decide +kernel
theorem k_61 : kd0 61 = some (0, 10) := by decide +kernel
theorem k_62 : kd0 62 = some (0, 10) := by decide +kernel
theorem k_63 : kd0 63 = some (0, 10) := by decide +kernel
theorem k_64 : kd0 64 = some (0, 10) := by decide +kernel
theorem k_65 : kd0 65 = some (0, 6) := by decide +kernel
theorem k_66 : kd0 66 = some (36, 7) := by decide +kernel
theorem k_67 : kd0 67 = some (0, 10) := by decide +kernel
theorem k_68 : kd0 68 = some (0, 10) := by decide +kernel
theorem k_69 : kd0 69 = some (0, 10) := by decide +kernel
theorem k_70 : kd0 70 = some (0, 10) := by decide +kernel
theorem k_71 : kd0 71 = some (0, 6) := by decide +kernel
theorem k_72 : kd0 72 = some (36, 7) := by decide +kernel
theorem k_73 : kd0 73 = some (0, 10) := by decide +kernel
theorem k_74 : kd0 74 = some (0, 10) := by decide +kernel
theorem k_75 : kd0 75 = some (0, 10) := by decide +kernel
theorem k_76 : kd0 76 = some (0, 10) := by decide +kernel
theorem k_77 : kd0 77 = some (0, 6) := by decide +kernel
theorem k_78 : kd0 78 = some (36, 7) := by decide +kernel
theorem k_79 : kd0 79 = some (0, 10) := by decide +kernel
theorem k_80 : kd0 80 = some (0, 10) := by decide +kernel
theorem k_81 : kd0 81 = some (0, 10) := by decide +kernel
theorem k_82 : kd0 82 = some (0, 10) := by decide +kernel
theorem k_83 : kd0 83 = some (0, 6) := by decide +kernel
theorem k_84 : kd0 84 = some (36, 7) := by decide +kernel
theorem k_85 : kd0 85 = some (0, 10) := by decide +kernel
theorem k_86 : kd0 86 = some (0, 10) := by decide +kernel
theorem k_87 : kd0 87 = some (0, 10) := by decide +kernel
theorem k_88 : kd0 88 = some (0, 10) := by decide +kernel
theorem k_89 : kd0 89 = some (0, 6) := by decide +kernel
theorem k_90 : kd0 90 = some (36, 7) := by decide +kernel
theorem k_91 : kd0 91 = some (0, 10) := by decide +kernel
theorem k_92 : kd0 92 = some (0, 10) := by decide +kernel
theorem k_93 : kd0 93 = some (0, 10) := by decide +kernel
theorem k_94 : kd0 94 = some (0, 10) := by decide +kernel
theorem k_95 : kd0 95 = some (0, 6) := by decide +kernel
theorem k_96 : kd0 96 = some (18, 4) := by decide +kernel
theorem k_97 : kd0 97 = some (33, 9) := by decide +kernel
theorem k_98 : kd0 98 = some (0, 36) := by decide +kernel
theorem k_99 : kd0 99 = some (0, 36) := by decide +kernel
theorem k_100 : kd0 100 = some (0, 36) := by decide +kernel
theorem k_101 : kd0 101 = some (0, 9) := by decide +kernel
theorem k_102 : kd0 102 = some (0, 64) := by decide +kernel
theorem k_103 : kd0 103 = some (1, 72) := by decide +kernel
theorem k_104 : kd0 104 = some (1, 72) := by decide +kernel
theorem k_105 : kd0 105 = some (30, 16) := by decide +kernel
theorem k_106 : kd0 106 = some (0, 512) := by decide +kernel
theorem k_107 : kd0 107 = some (0, 512) := by decide +kernel
theorem k_108 : kd0 108 = some (0, 6) := by decide +kernel
theorem k_109 : kd0 109 = some (0, 6) := by decide +kernel
theorem k_110 : kd0 110 = some (0, 10) := by decide +kernel
theorem k_111 : kd0 111 = some (0, 100) := by decide +kernel
theorem k_112 : kd0 112 = some (0, 10) := by decide +kernel
theorem k_113 : kd0 113 = some (0, 100) := by decide +kernel
theorem k_114 : kd0 114 = some (0, 100) := by decide +kernel
theorem k_115 : kd0 115 = some (0, 512) := by decide +kernel
theorem k_116 : kd0 116 = some (0, 512) := by decide +kernel
theorem k_117 : kd0 117 = some (34, 4) := by decide +kernel
theorem k_118 : kd0 118 = some (1, 6) := by decide +kernel
theorem k_119 : kd0 119 = some (1, 6) := by decide +kernel
theorem k_120 : kd0 120 = some (32, 11) := by decide +kernel
theorem k_121 : kd0 121 = some (36, 7) := by decide +kernel
theorem k_122 : kd0 122 = some (0, 10) := by decide +kernel
theorem k_123 : kd0 123 = some (0, 10) := by decide +kernel
theorem k_124 : kd0 124 = some (0, 10) := by decide +kernel
theorem k_125 : kd0 125 = some (0, 10) := by decide +kernel
theorem k_126 : kd0 126 = some (0, 6) := by decide +kernel
theorem k_127 : kd0 127 = some (33, 9) := by decide +kernel
theorem k_128 : kd0 128 = some (0, 36) := by decide +kernel
theorem k_129 : kd0 129 = some (0, 36) := by decide +kernel
theorem k_130 : kd0 130 = some (0, 36) := by decide +kernel
theorem k_131 : kd0 131 = some (0, 9) := by decide +kernel
theorem k_132 : kd0 132 = some (0, 64) := by decide +kernel
theorem k_133 : kd0 133 = some (1, 72) := by decide +kernel
theorem k_134 : kd0 134 = some (1, 72) := by decide +kernel
theorem k_135 : kd0 135 = some (30, 16) := by decide +kernel
theorem k_136 : kd0 136 = some (0, 512) := by decide +kernel
theorem k_137 : kd0 137 = some (0, 512) := by decide +kernel
theorem k_138 : kd0 138 = some (0, 6) := by decide +kernel
theorem k_139 : kd0 139 = some (0, 6) := by decide +kernel
theorem k_140 : kd0 140 = some (0, 10) := by decide +kernel
theorem k_141 : kd0 141 = some (0, 100) := by decide +kernel
theorem k_142 : kd0 142 = some (0, 10) := by decide +kernel
theorem k_143 : kd0 143 = some (0, 100) := by decide +kernel
theorem k_144 : kd0 144 = some (0, 100) := by decide +kernel
theorem k_145 : kd0 145 = some (0, 512) := by decide +kernel
theorem k_146 : kd0 146 = some (0, 512) := by decide +kernel
theorem k_147 : kd0 147 = some (0, 64) := by decide +kernel
theorem k_148 : kd0 148 = some (0, 21) := by decide +kernel
theorem k_149 : kd0 149 = some (31, 11) := by decide +kernel
theorem k_150 : kd0 150 = some (0, 6) := by decide +kernel
theorem k_151 : kd0 151 = some (0, 6) := by decide +kernel
theorem k_152 : kd0 152 = some (0, 6) := by decide +kernel
theorem k_153 : kd0 153 = some (0, 900) := by decide +kernel
theorem k_154 : kd0 154 = some (0, 3) := by decide +kernel
theorem k_155 : kd0 155 = some (0, 3) := by decide +kernel
theorem k_156 : kd0 156 = some (36, 7) := by decide +kernel
theorem k_157 : kd0 157 = some (0, 10) := by decide +kernel
theorem k_158 : kd0 158 = some (0, 10) := by decide +kernel
theorem k_159 : kd0 159 = some (0, 10) := by decide +kernel
theorem k_160 : kd0 160 = some (0, 10) := by decide +kernel
theorem k_161 : kd0 161 = some (0, 6) := by decide +kernel
theorem k_162 : kd0 162 = some (31, 11) := by decide +kernel
theorem k_163 : kd0 163 = some (0, 6) := by decide +kernel
theorem k_164 : kd0 164 = some (0, 6) := by decide +kernel
theorem k_165 : kd0 165 = some (0, 6) := by decide +kernel
theorem k_166 : kd0 166 = some (0, 900) := by decide +kernel
theorem k_167 : kd0 167 = some (0, 3) := by decide +kernel
theorem k_168 : kd0 168 = some (0, 3) := by decide +kernel
theorem k_169 : kd0 169 = some (36, 7) := by decide +kernel
theorem k_170 : kd0 170 = some (0, 10) := by decide +kernel
theorem k_171 : kd0 171 = some (0, 10) := by decide +kernel
theorem k_172 : kd0 172 = some (0, 10) := by decide +kernel
theorem k_173 : kd0 173 = some (0, 10) := by decide +kernel
theorem k_174 : kd0 174 = some (0, 6) := by decide +kernel
theorem k_175 : kd0 175 = some (38, 4) := by decide +kernel
theorem k_176 : kd0 176 = some (1, 40) := by decide +kernel
theorem k_177 : kd0 177 = some (38, 4) := by decide +kernel
theorem k_178 : kd0 178 = some (1, 40) := by decide +kernel
theorem k_179 : kd0 179 = some (38, 4) := by decide +kernel
theorem k_180 : kd0 180 = some (1, 40) := by decide +kernel
theorem k_181 : kd0 181 = some (38, 4) := by decide +kernel
theorem k_182 : kd0 182 = some (1, 40) := by decide +kernel
theorem k_183 : kd0 183 = some (40, 49) := by decide +kernel
theorem k_184 : kd0 184 = some (0, 4119) := by decide +kernel
theorem k_185 : kd0 185 = some (5, 2) := by decide +kernel
theorem k_186 : kd0 186 = some (0, 900) := by decide +kernel
theorem k_187 : kd0 187 = some (0, 1373) := by decide +kernel
theorem k_188 : kd0 188 = some (0, 900) := by decide +kernel
theorem k_189 : kd0 189 = some (0, 9) := by decide +kernel
theorem k_190 : kd0 190 = some (0, 54000) := by decide +kernel
theorem k_191 : kd0 191 = some (0, 10) := by decide +kernel
theorem k_192 : kd0 192 = some (0, 10) := by decide +kernel
theorem k_193 : kd0 193 = some (0, 10) := by decide +kernel
theorem k_194 : kd0 194 = some (0, 36) := by decide +kernel
theorem k_195 : kd0 195 = some (0, 100) := by decide +kernel
theorem k_196 : kd0 196 = some (0, 100) := by decide +kernel
theorem k_197 : kd0 197 = some (0, 640) := by decide +kernel
theorem k_198 : kd0 198 = some (0, 640) := by decide +kernel
theorem k_199 : kd0 199 = some (0, 640) := by decide +kernel
theorem k_200 : kd0 200 = some (0, 640) := by decide +kernel
theorem k_201 : kd0 201 = some (0, 640) := by decide +kernel
theorem k_202 : kd0 202 = some (0, 640) := by decide +kernel
theorem k_203 : kd0 203 = some (0, 6) := by decide +kernel
theorem k_204 : kd0 204 = some (5, 10) := by decide +kernel
theorem k_205 : kd0 205 = some (0, 40) := by decide +kernel
theorem k_206 : kd0 206 = some (0, 21) := by decide +kernel
theorem k_207 : kd0 207 = some (1, 6) := by decide +kernel
theorem k_208 : kd0 208 = some (1, 6) := by decide +kernel
theorem k_209 : kd0 209 = some (0, 4) := by decide +kernel
theorem k_210 : kd0 210 = some (0, 4) := by decide +kernel
theorem k_211 : kd0 211 = some (1, 160) := by decide +kernel
/-- an object of a class -/
def nF (ci : Nat) : Nat := [16, 11, 11, 9, 4, 2, 7, 11, 4, 20, 49].getD ci 0
abbrev isK (ci : Nat) (a : Int) : Prop := kd0 a = some (30 + ci, nF ci)
theorem kd0_spec {a : Int} {q : Nat × Nat} (h : kd0 a = some q) : ∃ k : Nat, a = (k : Int) ∧ k < 300 ∧ K0[k]? = some q := by
  unfold kd0 at h
  split at h
  · cases h
  · refine ⟨a.toNat, by omega, ?_, h⟩
    have := (List.getElem?_eq_some_iff.mp h).1
    have hl : K0.length = 212 := by decide +kernel
    omega
theorem ik_0 {a : Int} (h : isK 0 a) : a = 105 ∨ a = 135 := by
  obtain ⟨k, rfl, hk, hq⟩ := kd0_spec h
  have H : ∀ k : Nat, k < 300 → K0[k]? = some (30 + 0, nF 0) → k ∈ [105, 135] := by decide +kernel
  have := H k hk hq
  simp only [List.mem_cons, List.not_mem_nil, or_false] at this
  omega
theorem ik_1 {a : Int} (h : isK 1 a) : a = 2 ∨ a = 15 ∨ a = 149 ∨ a = 162 := by
  obtain ⟨k, rfl, hk, hq⟩ := kd0_spec h
  have H : ∀ k : Nat, k < 300 → K0[k]? = some (30 + 1, nF 1) → k ∈ [2, 15, 149, 162] := by decide +kernel
  have := H k hk hq
  simp only [List.mem_cons, List.not_mem_nil, or_false] at this
  omega
theorem ik_2 {a : Int} (h : isK 2 a) : a = 120 := by
  obtain ⟨k, rfl, hk, hq⟩ := kd0_spec h
  have H : ∀ k : Nat, k < 300 → K0[k]? = some (30 + 2, nF 2) → k ∈ [120] := by decide +kernel
  have := H k hk hq
  simp only [List.mem_cons, List.not_mem_nil, or_false] at this
  omega
theorem ik_3 {a : Int} (h : isK 3 a) : a = 97 ∨ a = 127 := by
  obtain ⟨k, rfl, hk, hq⟩ := kd0_spec h
  have H : ∀ k : Nat, k < 300 → K0[k]? = some (30 + 3, nF 3) → k ∈ [97, 127] := by decide +kernel
  have := H k hk hq
  simp only [List.mem_cons, List.not_mem_nil, or_false] at this
  omega
theorem ik_4 {a : Int} (h : isK 4 a) : a = 117 := by
  obtain ⟨k, rfl, hk, hq⟩ := kd0_spec h
  have H : ∀ k : Nat, k < 300 → K0[k]? = some (30 + 4, nF 4) → k ∈ [117] := by decide +kernel
  have := H k hk hq
  simp only [List.mem_cons, List.not_mem_nil, or_false] at this
  omega
theorem ik_5 {a : Int} (h : isK 5 a) : a = 34 := by
  obtain ⟨k, rfl, hk, hq⟩ := kd0_spec h
  have H : ∀ k : Nat, k < 300 → K0[k]? = some (30 + 5, nF 5) → k ∈ [34] := by decide +kernel
  have := H k hk hq
  simp only [List.mem_cons, List.not_mem_nil, or_false] at this
  omega
theorem ik_6 {a : Int} (h : isK 6 a) : a = 9 ∨ a = 22 ∨ a = 36 ∨ a = 42 ∨ a = 48 ∨ a = 54 ∨ a = 60 ∨ a = 66 ∨ a = 72 ∨ a = 78 ∨ a = 84 ∨ a = 90 ∨ a = 121 ∨ a = 156 ∨ a = 169 := by
  obtain ⟨k, rfl, hk, hq⟩ := kd0_spec h
  have H : ∀ k : Nat, k < 300 → K0[k]? = some (30 + 6, nF 6) → k ∈ [9, 22, 36, 42, 48, 54, 60, 66, 72, 78, 84, 90, 121, 156, 169] := by decide +kernel
  have := H k hk hq
  simp only [List.mem_cons, List.not_mem_nil, or_false] at this
  omega
theorem ik_7 {a : Int} (h : isK 7 a) : a = 28 := by
  obtain ⟨k, rfl, hk, hq⟩ := kd0_spec h
  have H : ∀ k : Nat, k < 300 → K0[k]? = some (30 + 7, nF 7) → k ∈ [28] := by decide +kernel
  have := H k hk hq
  simp only [List.mem_cons, List.not_mem_nil, or_false] at this
  omega
theorem ik_8 {a : Int} (h : isK 8 a) : a = 175 ∨ a = 177 ∨ a = 179 ∨ a = 181 := by
  obtain ⟨k, rfl, hk, hq⟩ := kd0_spec h
  have H : ∀ k : Nat, k < 300 → K0[k]? = some (30 + 8, nF 8) → k ∈ [175, 177, 179, 181] := by decide +kernel
  have := H k hk hq
  simp only [List.mem_cons, List.not_mem_nil, or_false] at this
  omega
theorem ik_9 {a : Int} (h : isK 9 a) : a = 0 := by
  obtain ⟨k, rfl, hk, hq⟩ := kd0_spec h
  have H : ∀ k : Nat, k < 300 → K0[k]? = some (30 + 9, nF 9) → k ∈ [0] := by decide +kernel
  have := H k hk hq
  simp only [List.mem_cons, List.not_mem_nil, or_false] at this
  omega
theorem ik_10 {a : Int} (h : isK 10 a) : a = 183 := by
  obtain ⟨k, rfl, hk, hq⟩ := kd0_spec h
  have H : ∀ k : Nat, k < 300 → K0[k]? = some (30 + 10, nF 10) → k ∈ [183] := by decide +kernel
  have := H k hk hq
  simp only [List.mem_cons, List.not_mem_nil, or_false] at this
  omega
theorem kf_0_1 {a : Int} (h : isK 0 a) : kd0 (a + 1) = some (0, 512) := by
  rcases ik_0 h with rfl | rfl
  · exact k_106
  · exact k_136
theorem kf_0_2 {a : Int} (h : isK 0 a) : kd0 (a + 2) = some (0, 512) := by
  rcases ik_0 h with rfl | rfl
  · exact k_107
  · exact k_137
theorem kf_0_3 {a : Int} (h : isK 0 a) : kd0 (a + 3) = some (0, 6) := by
  rcases ik_0 h with rfl | rfl
  · exact k_108
  · exact k_138
theorem kf_0_4 {a : Int} (h : isK 0 a) : kd0 (a + 4) = some (0, 6) := by
  rcases ik_0 h with rfl | rfl
  · exact k_109
  · exact k_139
theorem kf_0_5 {a : Int} (h : isK 0 a) : kd0 (a + 5) = some (0, 10) := by
  rcases ik_0 h with rfl | rfl
  · exact k_110
  · exact k_140
theorem kf_0_9 {a : Int} (h : isK 0 a) : kd0 (a + 6) = some (0, 100) := by
  rcases ik_0 h with rfl | rfl
  · exact k_111
  · exact k_141
theorem kf_0_10 {a : Int} (h : isK 0 a) : kd0 (a + 7) = some (0, 10) := by
  rcases ik_0 h with rfl | rfl
  · exact k_112
  · exact k_142
theorem kf_0_11 {a : Int} (h : isK 0 a) : kd0 (a + 8) = some (0, 100) := by
  rcases ik_0 h with rfl | rfl
  · exact k_113
  · exact k_143
theorem kf_0_12 {a : Int} (h : isK 0 a) : kd0 (a + 9) = some (0, 100) := by
  rcases ik_0 h with rfl | rfl
  · exact k_114
  · exact k_144
theorem kf_0_14 {a : Int} (h : isK 0 a) : kd0 (a + 10) = some (0, 512) := by
  rcases ik_0 h with rfl | rfl
  · exact k_115
  · exact k_145
theorem kf_0_15 {a : Int} (h : isK 0 a) : kd0 (a + 11) = some (0, 512) := by
  rcases ik_0 h with rfl | rfl
  · exact k_116
  · exact k_146
theorem kf_1_4 {a : Int} (h : isK 1 a) : kd0 (a + 1) = some (0, 6) := by
  rcases ik_1 h with rfl | rfl | rfl | rfl
  · exact k_3
  · exact k_16
  · exact k_150
  · exact k_163
theorem kf_1_5 {a : Int} (h : isK 1 a) : kd0 (a + 2) = some (0, 6) := by
  rcases ik_1 h with rfl | rfl | rfl | rfl
  · exact k_4
  · exact k_17
  · exact k_151
  · exact k_164
theorem kf_1_6 {a : Int} (h : isK 1 a) : kd0 (a + 3) = some (0, 6) := by
  rcases ik_1 h with rfl | rfl | rfl | rfl
  · exact k_5
  · exact k_18
  · exact k_152
  · exact k_165
theorem kf_1_7 {a : Int} (h : isK 1 a) : kd0 (a + 4) = some (0, 900) := by
  rcases ik_1 h with rfl | rfl | rfl | rfl
  · exact k_6
  · exact k_19
  · exact k_153
  · exact k_166
theorem kf_1_8 {a : Int} (h : isK 1 a) : kd0 (a + 5) = some (0, 3) := by
  rcases ik_1 h with rfl | rfl | rfl | rfl
  · exact k_7
  · exact k_20
  · exact k_154
  · exact k_167
theorem kf_1_9 {a : Int} (h : isK 1 a) : kd0 (a + 6) = some (0, 3) := by
  rcases ik_1 h with rfl | rfl | rfl | rfl
  · exact k_8
  · exact k_21
  · exact k_155
  · exact k_168
theorem kf_1_10 {a : Int} (h : isK 1 a) : kd0 (a + 7) = some (36, 7) := by
  rcases ik_1 h with rfl | rfl | rfl | rfl
  · exact k_9
  · exact k_22
  · exact k_156
  · exact k_169
theorem kf_3_0 {a : Int} (h : isK 3 a) : kd0 (a + 1) = some (0, 36) := by
  rcases ik_3 h with rfl | rfl
  · exact k_98
  · exact k_128
theorem kf_3_1 {a : Int} (h : isK 3 a) : kd0 (a + 2) = some (0, 36) := by
  rcases ik_3 h with rfl | rfl
  · exact k_99
  · exact k_129
theorem kf_3_2 {a : Int} (h : isK 3 a) : kd0 (a + 3) = some (0, 36) := by
  rcases ik_3 h with rfl | rfl
  · exact k_100
  · exact k_130
theorem kf_3_5 {a : Int} (h : isK 3 a) : kd0 (a + 4) = some (0, 9) := by
  rcases ik_3 h with rfl | rfl
  · exact k_101
  · exact k_131
theorem kf_3_6 {a : Int} (h : isK 3 a) : kd0 (a + 5) = some (0, 64) := by
  rcases ik_3 h with rfl | rfl
  · exact k_102
  · exact k_132
theorem kf_3_7 {a : Int} (h : isK 3 a) : kd0 (a + 6) = some (1, 72) := by
  rcases ik_3 h with rfl | rfl
  · exact k_103
  · exact k_133
theorem kf_3_8 {a : Int} (h : isK 3 a) : kd0 (a + 7) = some (1, 72) := by
  rcases ik_3 h with rfl | rfl
  · exact k_104
  · exact k_134
theorem kf_4_2 {a : Int} (h : isK 4 a) : kd0 (a + 1) = some (1, 6) := by
  obtain rfl := ik_4 h
  exact k_118
theorem kf_4_3 {a : Int} (h : isK 4 a) : kd0 (a + 2) = some (1, 6) := by
  obtain rfl := ik_4 h
  exact k_119
theorem kf_5_1 {a : Int} (h : isK 5 a) : kd0 (a + 1) = some (16, 10) := by
  obtain rfl := ik_5 h
  exact k_35
theorem kf_6_1 {a : Int} (h : isK 6 a) : kd0 (a + 1) = some (0, 10) := by
  rcases ik_6 h with rfl | rfl | rfl | rfl | rfl | rfl | rfl | rfl | rfl | rfl | rfl | rfl | rfl | rfl | rfl
  · exact k_10
  · exact k_23
  · exact k_37
  · exact k_43
  · exact k_49
  · exact k_55
  · exact k_61
  · exact k_67
  · exact k_73
  · exact k_79
  · exact k_85
  · exact k_91
  · exact k_122
  · exact k_157
  · exact k_170
theorem kf_6_2 {a : Int} (h : isK 6 a) : kd0 (a + 2) = some (0, 10) := by
  rcases ik_6 h with rfl | rfl | rfl | rfl | rfl | rfl | rfl | rfl | rfl | rfl | rfl | rfl | rfl | rfl | rfl
  · exact k_11
  · exact k_24
  · exact k_38
  · exact k_44
  · exact k_50
  · exact k_56
  · exact k_62
  · exact k_68
  · exact k_74
  · exact k_80
  · exact k_86
  · exact k_92
  · exact k_123
  · exact k_158
  · exact k_171
theorem kf_6_3 {a : Int} (h : isK 6 a) : kd0 (a + 3) = some (0, 10) := by
  rcases ik_6 h with rfl | rfl | rfl | rfl | rfl | rfl | rfl | rfl | rfl | rfl | rfl | rfl | rfl | rfl | rfl
  · exact k_12
  · exact k_25
  · exact k_39
  · exact k_45
  · exact k_51
  · exact k_57
  · exact k_63
  · exact k_69
  · exact k_75
  · exact k_81
  · exact k_87
  · exact k_93
  · exact k_124
  · exact k_159
  · exact k_172
theorem kf_6_4 {a : Int} (h : isK 6 a) : kd0 (a + 4) = some (0, 10) := by
  rcases ik_6 h with rfl | rfl | rfl | rfl | rfl | rfl | rfl | rfl | rfl | rfl | rfl | rfl | rfl | rfl | rfl
  · exact k_13
  · exact k_26
  · exact k_40
  · exact k_46
  · exact k_52
  · exact k_58
  · exact k_64
  · exact k_70
  · exact k_76
  · exact k_82
  · exact k_88
  · exact k_94
  · exact k_125
  · exact k_160
  · exact k_173
theorem kf_6_5 {a : Int} (h : isK 6 a) : kd0 (a + 5) = some (0, 6) := by
  rcases ik_6 h with rfl | rfl | rfl | rfl | rfl | rfl | rfl | rfl | rfl | rfl | rfl | rfl | rfl | rfl | rfl
  · exact k_14
  · exact k_27
  · exact k_41
  · exact k_47
  · exact k_53
  · exact k_59
  · exact k_65
  · exact k_71
  · exact k_77
  · exact k_83
  · exact k_89
  · exact k_95
  · exact k_126
  · exact k_161
  · exact k_174
theorem kf_7_5 {a : Int} (h : isK 7 a) : kd0 (a + 1) = some (0, 901) := by
  obtain rfl := ik_7 h
  exact k_29
theorem kf_7_6 {a : Int} (h : isK 7 a) : kd0 (a + 2) = some (0, 901) := by
  obtain rfl := ik_7 h
  exact k_30
theorem kf_7_7 {a : Int} (h : isK 7 a) : kd0 (a + 3) = some (0, 901) := by
  obtain rfl := ik_7 h
  exact k_31
theorem kf_8_3 {a : Int} (h : isK 8 a) : kd0 (a + 1) = some (1, 40) := by
  rcases ik_8 h with rfl | rfl | rfl | rfl
  · exact k_176
  · exact k_178
  · exact k_180
  · exact k_182
theorem kf_9_0 {a : Int} (h : isK 9 a) : kd0 (a + 1) = some (4, 900) := by
  obtain rfl := ik_9 h
  exact k_1
theorem kf_9_4 {a : Int} (h : isK 9 a) : kd0 (a + 28) = some (37, 11) := by
  obtain rfl := ik_9 h
  exact k_28
theorem kf_9_5 {a : Int} (h : isK 9 a) : kd0 (a + 32) = some (11, 2) := by
  obtain rfl := ik_9 h
  exact k_32
theorem kf_9_6 {a : Int} (h : isK 9 a) : kd0 (a + 33) = some (5, 2) := by
  obtain rfl := ik_9 h
  exact k_33
theorem kf_9_7 {a : Int} (h : isK 9 a) : kd0 (a + 34) = some (35, 2) := by
  obtain rfl := ik_9 h
  exact k_34
theorem kf_9_8 {a : Int} (h : isK 9 a) : kd0 (a + 96) = some (18, 4) := by
  obtain rfl := ik_9 h
  exact k_96
theorem kf_9_10 {a : Int} (h : isK 9 a) : kd0 (a + 97) = some (33, 9) := by
  obtain rfl := ik_9 h
  exact k_97
theorem kf_9_11 {a : Int} (h : isK 9 a) : kd0 (a + 105) = some (30, 16) := by
  obtain rfl := ik_9 h
  exact k_105
theorem kf_9_12 {a : Int} (h : isK 9 a) : kd0 (a + 117) = some (34, 4) := by
  obtain rfl := ik_9 h
  exact k_117
theorem kf_9_13 {a : Int} (h : isK 9 a) : kd0 (a + 120) = some (32, 11) := by
  obtain rfl := ik_9 h
  exact k_120
theorem kf_9_14 {a : Int} (h : isK 9 a) : kd0 (a + 121) = some (36, 7) := by
  obtain rfl := ik_9 h
  exact k_121
theorem kf_9_15 {a : Int} (h : isK 9 a) : kd0 (a + 127) = some (33, 9) := by
  obtain rfl := ik_9 h
  exact k_127
theorem kf_9_16 {a : Int} (h : isK 9 a) : kd0 (a + 135) = some (30, 16) := by
  obtain rfl := ik_9 h
  exact k_135
theorem kf_9_17 {a : Int} (h : isK 9 a) : kd0 (a + 147) = some (0, 64) := by
  obtain rfl := ik_9 h
  exact k_147
theorem kf_9_18 {a : Int} (h : isK 9 a) : kd0 (a + 148) = some (0, 21) := by
  obtain rfl := ik_9 h
  exact k_148
theorem kf_10_1 {a : Int} (h : isK 10 a) : kd0 (a + 1) = some (0, 4119) := by
  obtain rfl := ik_10 h
  exact k_184
theorem kf_10_2 {a : Int} (h : isK 10 a) : kd0 (a + 2) = some (5, 2) := by
  obtain rfl := ik_10 h
  exact k_185
theorem kf_10_3 {a : Int} (h : isK 10 a) : kd0 (a + 3) = some (0, 900) := by
  obtain rfl := ik_10 h
  exact k_186
theorem kf_10_4 {a : Int} (h : isK 10 a) : kd0 (a + 4) = some (0, 1373) := by
  obtain rfl := ik_10 h
  exact k_187
theorem kf_10_16 {a : Int} (h : isK 10 a) : kd0 (a + 5) = some (0, 900) := by
  obtain rfl := ik_10 h
  exact k_188
theorem kf_10_17 {a : Int} (h : isK 10 a) : kd0 (a + 6) = some (0, 9) := by
  obtain rfl := ik_10 h
  exact k_189
theorem kf_10_18 {a : Int} (h : isK 10 a) : kd0 (a + 7) = some (0, 54000) := by
  obtain rfl := ik_10 h
  exact k_190
theorem kf_10_20 {a : Int} (h : isK 10 a) : kd0 (a + 8) = some (0, 10) := by
  obtain rfl := ik_10 h
  exact k_191
theorem kf_10_21 {a : Int} (h : isK 10 a) : kd0 (a + 9) = some (0, 10) := by
  obtain rfl := ik_10 h
  exact k_192
theorem kf_10_22 {a : Int} (h : isK 10 a) : kd0 (a + 10) = some (0, 10) := by
  obtain rfl := ik_10 h
  exact k_193
theorem kf_10_23 {a : Int} (h : isK 10 a) : kd0 (a + 11) = some (0, 36) := by
  obtain rfl := ik_10 h
  exact k_194
theorem kf_10_24 {a : Int} (h : isK 10 a) : kd0 (a + 12) = some (0, 100) := by
  obtain rfl := ik_10 h
  exact k_195
theorem kf_10_25 {a : Int} (h : isK 10 a) : kd0 (a + 13) = some (0, 100) := by
  obtain rfl := ik_10 h
  exact k_196
theorem kf_10_26 {a : Int} (h : isK 10 a) : kd0 (a + 14) = some (0, 640) := by
  obtain rfl := ik_10 h
  exact k_197
theorem kf_10_27 {a : Int} (h : isK 10 a) : kd0 (a + 15) = some (0, 640) := by
  obtain rfl := ik_10 h
  exact k_198
theorem kf_10_28 {a : Int} (h : isK 10 a) : kd0 (a + 16) = some (0, 640) := by
  obtain rfl := ik_10 h
  exact k_199
theorem kf_10_29 {a : Int} (h : isK 10 a) : kd0 (a + 17) = some (0, 640) := by
  obtain rfl := ik_10 h
  exact k_200
theorem kf_10_30 {a : Int} (h : isK 10 a) : kd0 (a + 18) = some (0, 640) := by
  obtain rfl := ik_10 h
  exact k_201
theorem kf_10_31 {a : Int} (h : isK 10 a) : kd0 (a + 19) = some (0, 640) := by
  obtain rfl := ik_10 h
  exact k_202
theorem kf_10_32 {a : Int} (h : isK 10 a) : kd0 (a + 20) = some (0, 6) := by
  obtain rfl := ik_10 h
  exact k_203
theorem kf_10_33 {a : Int} (h : isK 10 a) : kd0 (a + 21) = some (5, 10) := by
  obtain rfl := ik_10 h
  exact k_204
theorem kf_10_37 {a : Int} (h : isK 10 a) : kd0 (a + 22) = some (0, 40) := by
  obtain rfl := ik_10 h
  exact k_205
theorem kf_10_43 {a : Int} (h : isK 10 a) : kd0 (a + 23) = some (0, 21) := by
  obtain rfl := ik_10 h
  exact k_206
theorem kf_10_44 {a : Int} (h : isK 10 a) : kd0 (a + 24) = some (1, 6) := by
  obtain rfl := ik_10 h
  exact k_207
theorem kf_10_45 {a : Int} (h : isK 10 a) : kd0 (a + 25) = some (1, 6) := by
  obtain rfl := ik_10 h
  exact k_208
theorem kf_10_46 {a : Int} (h : isK 10 a) : kd0 (a + 26) = some (0, 4) := by
  obtain rfl := ik_10 h
  exact k_209
theorem kf_10_47 {a : Int} (h : isK 10 a) : kd0 (a + 27) = some (0, 4) := by
  obtain rfl := ik_10 h
  exact k_210
theorem kf_10_48 {a : Int} (h : isK 10 a) : kd0 (a + 28) = some (1, 160) := by
  obtain rfl := ik_10 h
  exact k_211
