section FaNN
variable {p : Program} {l : Launch} {e : Env} {R : Room} {s : State} {m : MethodId} {args : Array Value} {below : List Frame} {meth : Method} {c : Code} {cells slots : Nat} {Q : State → Prop}
variable {D : va_G} {b : Nat} {aC : Nat → ClassId} {H0 : Heap} {N T N1 c1 s1 : Nat} {cc : ByteArray} {nL : Nat} {ret : Option FieldType} {own : String} {w w1 : fa_W} {pc : Nat} {lv : List (Nat × Value)} {st : List Value}
theorem g_callNN (X : fa_GX p s m args meth c cc nL ret own D b aC) (hsz : s.heap.size + cells = b + N) {o : Nat} {host : String} {y : MethodName} {bytes : ByteArray} {maxL n hg hh idx mc ms mcM msM T1 : Nat} {As : List Value} (hI : fa_MN y bytes maxL n) (hM : fa_NC l D b aC H0 N T N1 T1 y bytes maxL hg mcM msM (.ref (b + o) :: As) w w1) (hw : Cond.methodLinkNest own idx y host ∈ fa_nest) (hn : As.length = n) (hg' : hg + 1 ≤ hh) (hs : ((st.map fun v => v.category).sum ≤ 8)) {st0 : List Value} (he : st0 = As.reverse ++ .ref (b + o) :: st) (hd : decode cc pc = .ok (.invokespecial idx, 3)) (hc1 : cells + mcM = c1) (hs1 : slots + msM = s1) (hc2 : c1 ≤ mc) (hs2 : s1 ≤ ms)
    (k : fa_GJ p l e (fa_rmc hh mc ms) s m args below meth c c1 s1 Q D b aC H0 N1 T1 nL w1 (pc + 3) lv st) : fa_GJ p l e (fa_rmc hh mc ms) s m args below meth c cells slots Q D b aC H0 N T nL w pc lv st0 := fun H locs ls hP hS hl => by
  subst he; subst hc1; subst hs1
  obtain ⟨⟨i1, i2, i3, i4⟩, i5, i6⟩ := hI
  intro U hU Y
  have hH : H.size = b + N := by
    have h1 : U.heap.size ≤ s.heap.size + cells := Y.same.2.2.1
    have h2 := hP.2.1
    rw [hU] at h1
    omega
  have hbl : FrameBlind (fun v U => fa_Pc D b aC H0 N T (.ref (b + o) :: As) w v U ∧ U.heap.size = b + N) := fun a U g mk h => ⟨fa_blind a U g mk h.1, h.2⟩
  have hr := va_runIN (e := e) (meth := meth) (below := below) (H := H) (locs := locs) (cells := cells) (slots := slots) (g := F0 m pc ls (As.reverse ++ .ref (b + o) :: st)) (rest := st) (R := fa_rmc hh mc ms) X.1 (hM hg (Nat.le_refl _)) ⟨va_cnB n X.1.2.2.2.2 (fa_goodC i1) rfl rfl rfl (X.2.2.2.1.2.1 _ hw) (X.1.2.2.2.2 _ i2) i3 (fa_room hg' i4), i6, X.1.2.2.2.2 _ i5⟩ ⟨hbl, fun V hV hW => ⟨⟨rfl, by rw [hV]; exact hP, X.2.2.2.1.move hW hS hV⟩, by rw [hV]; exact hH⟩⟩ rfl hn hl.1 rfl (lv_room hs) hd ⟨hc2, hs2⟩
  obtain ⟨v, st₀, t, T', L, h0, X', hL, e1, e2, ⟨hv, hP, hz, hk⟩, goes⟩ := hr U hU Y
  cases hv
  rw [h0] at hz hk
  have hS' : va_S (fun q => b ≤ q) s.heap T'.heap (locs ++ L) := ⟨Nat.le_trans hS.1 (by rw [e1]; exact hz), fun q h1 h2 => by rw [e1, hk q (Nat.lt_of_lt_of_le h1 hS.1) h2]; exact hS.2.1 q h1 h2, fun q hq => by
    rcases List.mem_append.mp hq with h | h
    · exact hS.2.2 q h
    · exact hL q h⟩
  obtain ⟨t2, a1, b1⟩ := k T'.heap (locs ++ L) ls (by rw [e1]; exact hP) hS' hl T' rfl X'
  exact ⟨t2, goes t2 a1, b1⟩
end FaNN
theorem fa_ynz {A : Type} {c : Prop} [Decidable c] {x : Option A} {r : A} (h : (if c then x else none) = some r) : c ∧ x = some r := by
  by_cases q : c
  · rw [if_pos q] at h; exact ⟨q, h⟩
  · rw [if_neg q] at h; cases h
theorem fh_0 : (fa_sh 0).1 = 0 := by decide +kernel
theorem fh_1 : (fa_sh 1).1 = 6 := by decide +kernel
theorem fh_3 : (fa_sh 3).1 = 6 := by decide +kernel
theorem fh_5 : (fa_sh 5).1 = 6 := by decide +kernel
theorem fh_7 : (fa_sh 7).1 = 5 := by decide +kernel
theorem fh_8 : (fa_sh 8).1 = 4 := by decide +kernel
theorem fh_9 : (fa_sh 9).1 = 6 := by decide +kernel
theorem fh_11 : (fa_sh 11).1 = 6 := by decide +kernel
theorem fh_13 : (fa_sh 13).1 = 6 := by decide +kernel
theorem fh_15 : (fa_sh 15).1 = 6 := by decide +kernel
theorem fh_17 : (fa_sh 17).1 = 6 := by decide +kernel
theorem fh_19 : (fa_sh 19).1 = 6 := by decide +kernel
theorem fh_21 : (fa_sh 21).1 = 6 := by decide +kernel
theorem fh_23 : (fa_sh 23).1 = 6 := by decide +kernel
theorem fh_25 : (fa_sh 25).1 = 6 := by decide +kernel
theorem fh_27 : (fa_sh 27).1 = 6 := by decide +kernel
theorem fh_29 : (fa_sh 29).1 = 6 := by decide +kernel
theorem fh_31 : (fa_sh 31).1 = 6 := by decide +kernel
theorem fh_33 : (fa_sh 33).1 = 6 := by decide +kernel
theorem fh_35 : (fa_sh 35).1 = 6 := by decide +kernel
theorem fh_37 : (fa_sh 37).1 = 9 := by decide +kernel
theorem fh_38 : (fa_sh 38).1 = 6 := by decide +kernel
theorem fh_40 : (fa_sh 40).1 = 6 := by decide +kernel
theorem fh_42 : (fa_sh 42).1 = 6 := by decide +kernel
theorem fh_44 : (fa_sh 44).1 = 3 := by decide +kernel
theorem fh_45 : (fa_sh 45).1 = 6 := by decide +kernel
theorem fh_47 : (fa_sh 47).1 = 6 := by decide +kernel
theorem fh_49 : (fa_sh 49).1 = 6 := by decide +kernel
theorem fh_51 : (fa_sh 51).1 = 6 := by decide +kernel
theorem fh_53 : (fa_sh 53).1 = 6 := by decide +kernel
theorem fh_55 : (fa_sh 55).1 = 7 := by decide +kernel
theorem fh_56 : (fa_sh 56).1 = 4 := by decide +kernel
theorem fh_57 : (fa_sh 57).1 = 6 := by decide +kernel
theorem fh_59 : (fa_sh 59).1 = 6 := by decide +kernel
theorem fh_61 : (fa_sh 61).1 = 6 := by decide +kernel
theorem fh_63 : (fa_sh 63).1 = 6 := by decide +kernel
theorem fh_65 : (fa_sh 65).1 = 6 := by decide +kernel
theorem fh_67 : (fa_sh 67).1 = 6 := by decide +kernel
theorem fh_69 : (fa_sh 69).1 = 6 := by decide +kernel
theorem fh_71 : (fa_sh 71).1 = 6 := by decide +kernel
theorem fh_73 : (fa_sh 73).1 = 6 := by decide +kernel
theorem fh_75 : (fa_sh 75).1 = 6 := by decide +kernel
theorem fh_77 : (fa_sh 77).1 = 6 := by decide +kernel
theorem fh_79 : (fa_sh 79).1 = 6 := by decide +kernel
theorem fh_81 : (fa_sh 81).1 = 6 := by decide +kernel
theorem fh_83 : (fa_sh 83).1 = 8 := by decide +kernel
theorem fh_84 : (fa_sh 84).1 = 6 := by decide +kernel
theorem fh_86 : (fa_sh 86).1 = 6 := by decide +kernel
theorem fh_88 : (fa_sh 88).1 = 6 := by decide +kernel
theorem fh_90 : (fa_sh 90).1 = 6 := by decide +kernel
theorem fh_92 : (fa_sh 92).1 = 6 := by decide +kernel
theorem fh_94 : (fa_sh 94).1 = 6 := by decide +kernel
theorem fh_96 : (fa_sh 96).1 = 6 := by decide +kernel
theorem fh_98 : (fa_sh 98).1 = 6 := by decide +kernel
theorem fh_100 : (fa_sh 100).1 = 1 := by decide +kernel
theorem fh_101 : (fa_sh 101).1 = 6 := by decide +kernel
theorem fh_103 : (fa_sh 103).1 = 6 := by decide +kernel
theorem fh_105 : (fa_sh 105).1 = 6 := by decide +kernel
theorem fh_107 : (fa_sh 107).1 = 6 := by decide +kernel
theorem fh_109 : (fa_sh 109).1 = 6 := by decide +kernel
theorem fh_111 : (fa_sh 111).1 = 2 := by decide +kernel
theorem fh_112 : (fa_sh 112).1 = 6 := by decide +kernel
theorem fh_114 : (fa_sh 114).1 = 6 := by decide +kernel
theorem fh_116 : (fa_sh 116).1 = 6 := by decide +kernel
theorem fh_118 : (fa_sh 118).1 = 7 := by decide +kernel
theorem fh_119 : (fa_sh 119).1 = 4 := by decide +kernel
theorem fh_120 : (fa_sh 120).1 = 6 := by decide +kernel
theorem fh_122 : (fa_sh 122).1 = 6 := by decide +kernel
theorem fh_124 : (fa_sh 124).1 = 6 := by decide +kernel
theorem fh_126 : (fa_sh 126).1 = 6 := by decide +kernel
theorem fh_128 : (fa_sh 128).1 = 6 := by decide +kernel
theorem fh_130 : (fa_sh 130).1 = 6 := by decide +kernel
theorem fh_132 : (fa_sh 132).1 = 6 := by decide +kernel
theorem fh_134 : (fa_sh 134).1 = 6 := by decide +kernel
theorem fh_136 : (fa_sh 136).1 = 6 := by decide +kernel
theorem fh_138 : (fa_sh 138).1 = 6 := by decide +kernel
theorem fh_140 : (fa_sh 140).1 = 6 := by decide +kernel
theorem fh_142 : (fa_sh 142).1 = 6 := by decide +kernel
theorem fh_144 : (fa_sh 144).1 = 6 := by decide +kernel
theorem fh_146 : (fa_sh 146).1 = 8 := by decide +kernel
theorem fh_147 : (fa_sh 147).1 = 6 := by decide +kernel
theorem fh_149 : (fa_sh 149).1 = 6 := by decide +kernel
theorem fh_151 : (fa_sh 151).1 = 6 := by decide +kernel
theorem fh_153 : (fa_sh 153).1 = 6 := by decide +kernel
theorem fh_155 : (fa_sh 155).1 = 6 := by decide +kernel
theorem fh_157 : (fa_sh 157).1 = 6 := by decide +kernel
theorem fh_159 : (fa_sh 159).1 = 6 := by decide +kernel
theorem fh_161 : (fa_sh 161).1 = 6 := by decide +kernel
theorem fh_163 : (fa_sh 163).1 = 1 := by decide +kernel
theorem fh_164 : (fa_sh 164).1 = 6 := by decide +kernel
theorem fh_166 : (fa_sh 166).1 = 6 := by decide +kernel
theorem fh_168 : (fa_sh 168).1 = 6 := by decide +kernel
theorem fh_170 : (fa_sh 170).1 = 6 := by decide +kernel
theorem fh_172 : (fa_sh 172).1 = 6 := by decide +kernel
theorem fh_174 : (fa_sh 174).1 = 2 := by decide +kernel
theorem fh_175 : (fa_sh 175).1 = 6 := by decide +kernel
theorem fh_177 : (fa_sh 177).1 = 6 := by decide +kernel
theorem fh_179 : (fa_sh 179).1 = 6 := by decide +kernel
theorem fh_181 : (fa_sh 181).1 = 10 := by decide +kernel
theorem fhs_2 : fa_sh 2 = (100, 400) := by decide +kernel
theorem fhs_4 : fa_sh 4 = (100, 7000) := by decide +kernel
theorem fhs_6 : fa_sh 6 = (100, 74) := by decide +kernel
theorem fhs_10 : fa_sh 10 = (100, 100) := by decide +kernel
theorem fhs_12 : fa_sh 12 = (100, 100) := by decide +kernel
theorem fhs_14 : fa_sh 14 = (100, 100) := by decide +kernel
theorem fhs_16 : fa_sh 16 = (100, 100) := by decide +kernel
theorem fhs_18 : fa_sh 18 = (100, 300) := by decide +kernel
theorem fhs_20 : fa_sh 20 = (100, 100) := by decide +kernel
theorem fhs_22 : fa_sh 22 = (100, 74) := by decide +kernel
theorem fhs_24 : fa_sh 24 = (100, 74) := by decide +kernel
theorem fhs_26 : fa_sh 26 = (100, 6) := by decide +kernel
theorem fhs_28 : fa_sh 28 = (100, 24) := by decide +kernel
theorem fhs_30 : fa_sh 30 = (100, 24) := by decide +kernel
theorem fhs_32 : fa_sh 32 = (100, 100) := by decide +kernel
theorem fhs_34 : fa_sh 34 = (100, 100) := by decide +kernel
theorem fhs_36 : fa_sh 36 = (100, 21) := by decide +kernel
theorem fhs_39 : fa_sh 39 = (100, 1200) := by decide +kernel
theorem fhs_41 : fa_sh 41 = (100, 300) := by decide +kernel
theorem fhs_43 : fa_sh 43 = (100, 74) := by decide +kernel
theorem fhs_46 : fa_sh 46 = (100, 7474) := by decide +kernel
theorem fhs_48 : fa_sh 48 = (100, 5252) := by decide +kernel
theorem fhs_50 : fa_sh 50 = (100, 5252) := by decide +kernel
theorem fhs_52 : fa_sh 52 = (100, 100) := by decide +kernel
theorem fhs_54 : fa_sh 54 = (100, 100) := by decide +kernel
theorem fhs_58 : fa_sh 58 = (100, 100) := by decide +kernel
theorem fhs_60 : fa_sh 60 = (100, 100) := by decide +kernel
theorem fhs_62 : fa_sh 62 = (100, 100) := by decide +kernel
theorem fhs_64 : fa_sh 64 = (100, 100) := by decide +kernel
theorem fhs_66 : fa_sh 66 = (100, 300) := by decide +kernel
theorem fhs_68 : fa_sh 68 = (100, 100) := by decide +kernel
theorem fhs_70 : fa_sh 70 = (100, 74) := by decide +kernel
theorem fhs_72 : fa_sh 72 = (100, 74) := by decide +kernel
theorem fhs_74 : fa_sh 74 = (100, 6) := by decide +kernel
theorem fhs_76 : fa_sh 76 = (100, 24) := by decide +kernel
theorem fhs_78 : fa_sh 78 = (100, 24) := by decide +kernel
theorem fhs_80 : fa_sh 80 = (100, 100) := by decide +kernel
theorem fhs_82 : fa_sh 82 = (100, 100) := by decide +kernel
theorem fhs_85 : fa_sh 85 = (100, 400) := by decide +kernel
theorem fhs_87 : fa_sh 87 = (100, 400) := by decide +kernel
theorem fhs_89 : fa_sh 89 = (100, 400) := by decide +kernel
theorem fhs_91 : fa_sh 91 = (100, 400) := by decide +kernel
theorem fhs_93 : fa_sh 93 = (100, 100) := by decide +kernel
theorem fhs_95 : fa_sh 95 = (100, 74) := by decide +kernel
theorem fhs_97 : fa_sh 97 = (100, 24) := by decide +kernel
theorem fhs_99 : fa_sh 99 = (100, 400) := by decide +kernel
theorem fhs_102 : fa_sh 102 = (100, 100) := by decide +kernel
theorem fhs_104 : fa_sh 104 = (100, 74) := by decide +kernel
theorem fhs_106 : fa_sh 106 = (100, 24) := by decide +kernel
theorem fhs_108 : fa_sh 108 = (100, 24) := by decide +kernel
theorem fhs_110 : fa_sh 110 = (100, 24) := by decide +kernel
theorem fhs_113 : fa_sh 113 = (100, 72) := by decide +kernel
theorem fhs_115 : fa_sh 115 = (100, 3) := by decide +kernel
theorem fhs_117 : fa_sh 117 = (100, 24) := by decide +kernel
theorem fhs_121 : fa_sh 121 = (100, 100) := by decide +kernel
theorem fhs_123 : fa_sh 123 = (100, 100) := by decide +kernel
theorem fhs_125 : fa_sh 125 = (100, 100) := by decide +kernel
theorem fhs_127 : fa_sh 127 = (100, 100) := by decide +kernel
theorem fhs_129 : fa_sh 129 = (100, 300) := by decide +kernel
theorem fhs_131 : fa_sh 131 = (100, 100) := by decide +kernel
theorem fhs_133 : fa_sh 133 = (100, 74) := by decide +kernel
theorem fhs_135 : fa_sh 135 = (100, 74) := by decide +kernel
theorem fhs_137 : fa_sh 137 = (100, 6) := by decide +kernel
theorem fhs_139 : fa_sh 139 = (100, 24) := by decide +kernel
theorem fhs_141 : fa_sh 141 = (100, 24) := by decide +kernel
theorem fhs_143 : fa_sh 143 = (100, 100) := by decide +kernel
theorem fhs_145 : fa_sh 145 = (100, 100) := by decide +kernel
theorem fhs_148 : fa_sh 148 = (100, 400) := by decide +kernel
theorem fhs_150 : fa_sh 150 = (100, 400) := by decide +kernel
theorem fhs_152 : fa_sh 152 = (100, 400) := by decide +kernel
theorem fhs_154 : fa_sh 154 = (100, 400) := by decide +kernel
theorem fhs_156 : fa_sh 156 = (100, 100) := by decide +kernel
theorem fhs_158 : fa_sh 158 = (100, 74) := by decide +kernel
theorem fhs_160 : fa_sh 160 = (100, 24) := by decide +kernel
theorem fhs_162 : fa_sh 162 = (100, 400) := by decide +kernel
theorem fhs_165 : fa_sh 165 = (100, 100) := by decide +kernel
theorem fhs_167 : fa_sh 167 = (100, 74) := by decide +kernel
theorem fhs_169 : fa_sh 169 = (100, 24) := by decide +kernel
theorem fhs_171 : fa_sh 171 = (100, 24) := by decide +kernel
theorem fhs_173 : fa_sh 173 = (100, 24) := by decide +kernel
theorem fhs_176 : fa_sh 176 = (100, 72) := by decide +kernel
theorem fhs_178 : fa_sh 178 = (100, 3) := by decide +kernel
theorem fhs_180 : fa_sh 180 = (100, 24) := by decide +kernel
theorem fhs_182 : fa_sh 182 = (101, 400) := by decide +kernel
theorem fhs_183 : fa_sh 183 = (100, 5) := by decide +kernel
theorem fhs_184 : fa_sh 184 = (100, 101) := by decide +kernel
theorem fhs_185 : fa_sh 185 = (100, 101) := by decide +kernel
theorem fhs_186 : fa_sh 186 = (100, 101) := by decide +kernel
theorem fhs_187 : fa_sh 187 = (100, 101) := by decide +kernel
theorem fhs_188 : fa_sh 188 = (100, 101) := by decide +kernel
theorem fhs_189 : fa_sh 189 = (100, 24) := by decide +kernel
theorem fhs_190 : fa_sh 190 = (100, 6) := by decide +kernel
theorem fhs_191 : fa_sh 191 = (100, 24) := by decide +kernel
theorem fhs_192 : fa_sh 192 = (100, 124) := by decide +kernel
theorem fhs_193 : fa_sh 193 = (100, 124) := by decide +kernel
theorem fhs_194 : fa_sh 194 = (100, 101) := by decide +kernel
theorem fhs_195 : fa_sh 195 = (100, 101) := by decide +kernel
theorem fhs_196 : fa_sh 196 = (101, 40000) := by decide +kernel
theorem fhs_197 : fa_sh 197 = (101, 40000) := by decide +kernel
theorem fhs_198 : fa_sh 198 = (100, 124) := by decide +kernel
theorem fhs_199 : fa_sh 199 = (100, 1200) := by decide +kernel
theorem fhs_200 : fa_sh 200 = (100, 1200) := by decide +kernel
theorem fhs_201 : fa_sh 201 = (100, 1200) := by decide +kernel
theorem fhs_202 : fa_sh 202 = (100, 1200) := by decide +kernel
theorem fhs_203 : fa_sh 203 = (100, 101) := by decide +kernel
theorem fhs_204 : fa_sh 204 = (100, 124) := by decide +kernel
theorem fhs_205 : fa_sh 205 = (100, 1200) := by decide +kernel
theorem fhs_206 : fa_sh 206 = (100, 24) := by decide +kernel
theorem fhs_207 : fa_sh 207 = (100, 124) := by decide +kernel
theorem fhs_208 : fa_sh 208 = (100, 24) := by decide +kernel
theorem fhs_209 : fa_sh 209 = (100, 101) := by decide +kernel
theorem fhs_210 : fa_sh 210 = (100, 101) := by decide +kernel
theorem fhs_211 : fa_sh 211 = (100, 101) := by decide +kernel
theorem fhs_212 : fa_sh 212 = (102, 101) := by decide +kernel
theorem fhs_213 : fa_sh 213 = (100, 2976) := by decide +kernel
theorem fhs_214 : fa_sh 214 = (100, 24) := by decide +kernel
theorem fhs_215 : fa_sh 215 = (100, 72) := by decide +kernel
theorem fhs_216 : fa_sh 216 = (100, 3) := by decide +kernel
theorem fhs_217 : fa_sh 217 = (100, 24) := by decide +kernel
theorem fhs_218 : fa_sh 218 = (100, 24) := by decide +kernel
theorem fhs_219 : fa_sh 219 = (100, 24) := by decide +kernel
theorem fhs_220 : fa_sh 220 = (100, 24) := by decide +kernel
theorem fhs_221 : fa_sh 221 = (100, 500) := by decide +kernel
theorem fhs_222 : fa_sh 222 = (100, 500) := by decide +kernel
theorem fhs_223 : fa_sh 223 = (100, 25) := by decide +kernel
theorem fhs_224 : fa_sh 224 = (101, 40000) := by decide +kernel
theorem fhs_225 : fa_sh 225 = (100, 1200) := by decide +kernel
theorem fhs_226 : fa_sh 226 = (100, 55000) := by decide +kernel
theorem fhs_227 : fa_sh 227 = (100, 55000) := by decide +kernel
theorem fhs_228 : fa_sh 228 = (100, 55000) := by decide +kernel
theorem fhs_229 : fa_sh 229 = (100, 13640) := by decide +kernel
theorem fhs_230 : fa_sh 230 = (100, 13640) := by decide +kernel
theorem fhs_231 : fa_sh 231 = (100, 13640) := by decide +kernel
theorem fhs_232 : fa_sh 232 = (100, 110) := by decide +kernel
theorem fhs_233 : fa_sh 233 = (100, 110) := by decide +kernel
theorem fhs_234 : fa_sh 234 = (100, 110) := by decide +kernel
theorem fhs_235 : fa_sh 235 = (100, 110) := by decide +kernel
theorem fhs_236 : fa_sh 236 = (100, 110) := by decide +kernel
theorem d_RowI_0 : decode prog_7_method_1_code 0 = .ok (.aload_n 0, 1) := by decide +kernel
theorem d_RowI_1 : decode prog_7_method_1_code 1 = .ok (.invokespecial 3, 3) := by decide +kernel
theorem d_RowI_4 : decode prog_7_method_1_code 4 = .ok (.aload_n 0, 1) := by decide +kernel
theorem d_RowI_5 : decode prog_7_method_1_code 5 = .ok (.iconst 0, 1) := by decide +kernel
theorem d_RowI_6 : decode prog_7_method_1_code 6 = .ok (.putfield 9, 3) := by decide +kernel
theorem d_RowI_9 : decode prog_7_method_1_code 9 = .ok (.aload_n 0, 1) := by decide +kernel
theorem d_RowI_10 : decode prog_7_method_1_code 10 = .ok (.iload_n 1, 1) := by decide +kernel
theorem d_RowI_11 : decode prog_7_method_1_code 11 = .ok (.iconst 0, 1) := by decide +kernel
theorem d_RowI_12 : decode prog_7_method_1_code 12 = .ok (.invokestatic 15, 3) := by decide +kernel
theorem d_RowI_15 : decode prog_7_method_1_code 15 = .ok (.newarray .int, 2) := by decide +kernel
theorem d_RowI_17 : decode prog_7_method_1_code 17 = .ok (.putfield 21, 3) := by decide +kernel
theorem d_RowI_20 : decode prog_7_method_1_code 20 = .ok (.return_, 1) := by decide +kernel
set_option maxHeartbeats 4000000 in
set_option maxRecDepth 100000 in
theorem n_Row {l : Launch} {D : va_G} {b : Nat} {aC : Nat → ClassId} {H0 : Heap} (o N T n : Nat) (a1 : Int) (ho : (fa_sh o).1 = 6) (hoN : o < N) (hsh : fa_sh N = (100, n)) (hx : fa_wr (fa_max a1 0) = n) (hu : fa_un T = (o, 0)) (hr : fa_rf o 0 = N) (htm : fa_tm o 0 = T) (hn : n ≤ 60000) (w : fa_W) : fa_NC l D b aC H0 N T (N + 1) (T + 1) y_Row_init prog_7_method_1_code 2 2 1 n [.ref (b + o), .int (fa_I a1)] w (fa_nw N (fa_st w o 1 0)) := by
  refine fa_nenter (lv := [(0, .ref (b + o)), (1, .int (fa_I a1))]) (by decide +kernel) (Nat.le_of_ble_eq_true rfl) rfl (fun hh hle hsz hnm X => ?_)
  refine g_aload_n X 0 rfl d_RowI_0 ?_
  refine g_objInit X wd_39 wd_32 wd_33 (Nat.le_trans (Nat.le_of_ble_eq_true rfl) hle) (Nat.le_of_ble_eq_true rfl) d_RowI_1 ?_
  refine g_aload_n X 0 rfl d_RowI_4 ?_
  refine g_iconst X d_RowI_5 ?_
  refine g_put X ck_6 ho hoN 1 (z := 0) (by decide) wd_44 rfl (fa_fvI' rfl) rfl rfl rfl d_RowI_6 (fun w1 ew1 => ?_)
  subst ew1
  refine g_aload_n X 0 rfl d_RowI_9 ?_
  refine g_iload_n X 1 rfl d_RowI_10 ?_
  refine g_iconst X d_RowI_11 ?_
  refine g_mmax X (Nat.le_trans (Nat.le_of_ble_eq_true rfl) hle) wd_40 (Nat.le_of_ble_eq_true rfl) d_RowI_12 ?_
  refine g_newa_int X (N1 := N + 1) (c1 := 1) (s1 := n) (by omega) hsh hx wd_50 (by show n * 4 ≤ 536870912; omega) rfl (Nat.zero_add n) rfl (Nat.le_refl 1) (Nat.le_refl n) d_RowI_15 (fun w2 ew2 => ?_)
  subst ew2
  refine g_putR X hnm ck_6 ho (Nat.lt_succ_of_lt hoN) 0 (by decide) wd_43 rfl rfl hu (by rw [fa_fvR rfl (by rw [htm]; exact Nat.lt_succ_self T), hr]) rfl rfl d_RowI_17 ?_
  exact g_cvret X d_RowI_20
theorem n_Row_e {l : Launch} {D : va_G} {b : Nat} {aC : Nat → ClassId} {H0 : Heap} (o N T n : Nat) (a1 : Int) (ho : (fa_sh o).1 = 6) (hoN : o < N) (hsh : fa_sh N = (100, n)) (hx : fa_wr (fa_max a1 0) = n) (hu : fa_un T = (o, 0)) (hr : fa_rf o 0 = N) (htm : fa_tm o 0 = T) (hn : n ≤ 60000) (w r : fa_W) (e : fa_nw N (fa_st w o 1 0) = r) : fa_NC l D b aC H0 N T (N + 1) (T + 1) y_Row_init prog_7_method_1_code 2 2 1 n [.ref (b + o), .int (fa_I a1)] w r := e ▸ n_Row o N T n a1 ho hoN hsh hx hu hr htm hn w
theorem d_Program_8_0 : decode prog_5_method_1_code 0 = .ok (.aload_n 0, 1) := by decide +kernel
theorem d_Program_8_1 : decode prog_5_method_1_code 1 = .ok (.invokespecial 3, 3) := by decide +kernel
theorem d_Program_8_4 : decode prog_5_method_1_code 4 = .ok (.aload_n 0, 1) := by decide +kernel
theorem d_Program_8_5 : decode prog_5_method_1_code 5 = .ok (.new 9, 3) := by decide +kernel
theorem d_Program_8_8 : decode prog_5_method_1_code 8 = .ok (.dup, 1) := by decide +kernel
theorem d_Program_8_9 : decode prog_5_method_1_code 9 = .ok (.bipush 100, 2) := by decide +kernel
theorem d_Program_8_11 : decode prog_5_method_1_code 11 = .ok (.invokespecial 11, 3) := by decide +kernel
theorem d_Program_8_14 : decode prog_5_method_1_code 14 = .ok (.putfield 14, 3) := by decide +kernel
theorem d_Program_8_17 : decode prog_5_method_1_code 17 = .ok (.aload_n 0, 1) := by decide +kernel
theorem d_Program_8_18 : decode prog_5_method_1_code 18 = .ok (.new 9, 3) := by decide +kernel
theorem d_Program_8_21 : decode prog_5_method_1_code 21 = .ok (.dup, 1) := by decide +kernel
theorem d_Program_8_22 : decode prog_5_method_1_code 22 = .ok (.bipush 100, 2) := by decide +kernel
theorem d_Program_8_24 : decode prog_5_method_1_code 24 = .ok (.invokespecial 11, 3) := by decide +kernel
theorem d_Program_8_27 : decode prog_5_method_1_code 27 = .ok (.putfield 20, 3) := by decide +kernel
theorem d_Program_8_30 : decode prog_5_method_1_code 30 = .ok (.aload_n 0, 1) := by decide +kernel
theorem d_Program_8_31 : decode prog_5_method_1_code 31 = .ok (.new 9, 3) := by decide +kernel
theorem d_Program_8_34 : decode prog_5_method_1_code 34 = .ok (.dup, 1) := by decide +kernel
theorem d_Program_8_35 : decode prog_5_method_1_code 35 = .ok (.bipush 100, 2) := by decide +kernel
theorem d_Program_8_37 : decode prog_5_method_1_code 37 = .ok (.invokespecial 11, 3) := by decide +kernel
theorem d_Program_8_40 : decode prog_5_method_1_code 40 = .ok (.putfield 23, 3) := by decide +kernel
theorem d_Program_8_43 : decode prog_5_method_1_code 43 = .ok (.aload_n 0, 1) := by decide +kernel
theorem d_Program_8_44 : decode prog_5_method_1_code 44 = .ok (.new 9, 3) := by decide +kernel
theorem d_Program_8_47 : decode prog_5_method_1_code 47 = .ok (.dup, 1) := by decide +kernel
theorem d_Program_8_48 : decode prog_5_method_1_code 48 = .ok (.bipush 100, 2) := by decide +kernel
theorem d_Program_8_50 : decode prog_5_method_1_code 50 = .ok (.invokespecial 11, 3) := by decide +kernel
theorem d_Program_8_53 : decode prog_5_method_1_code 53 = .ok (.putfield 26, 3) := by decide +kernel
theorem d_Program_8_56 : decode prog_5_method_1_code 56 = .ok (.aload_n 0, 1) := by decide +kernel
theorem d_Program_8_57 : decode prog_5_method_1_code 57 = .ok (.new 9, 3) := by decide +kernel
theorem d_Program_8_60 : decode prog_5_method_1_code 60 = .ok (.dup, 1) := by decide +kernel
theorem d_Program_8_61 : decode prog_5_method_1_code 61 = .ok (.sipush 300, 3) := by decide +kernel
theorem d_Program_8_64 : decode prog_5_method_1_code 64 = .ok (.invokespecial 11, 3) := by decide +kernel
theorem d_Program_8_67 : decode prog_5_method_1_code 67 = .ok (.putfield 29, 3) := by decide +kernel
theorem d_Program_8_70 : decode prog_5_method_1_code 70 = .ok (.aload_n 0, 1) := by decide +kernel
theorem d_Program_8_71 : decode prog_5_method_1_code 71 = .ok (.new 9, 3) := by decide +kernel
theorem d_Program_8_74 : decode prog_5_method_1_code 74 = .ok (.dup, 1) := by decide +kernel
theorem d_Program_8_75 : decode prog_5_method_1_code 75 = .ok (.bipush 100, 2) := by decide +kernel
theorem d_Program_8_77 : decode prog_5_method_1_code 77 = .ok (.invokespecial 11, 3) := by decide +kernel
theorem d_Program_8_80 : decode prog_5_method_1_code 80 = .ok (.putfield 32, 3) := by decide +kernel
theorem d_Program_8_83 : decode prog_5_method_1_code 83 = .ok (.aload_n 0, 1) := by decide +kernel
theorem d_Program_8_84 : decode prog_5_method_1_code 84 = .ok (.new 9, 3) := by decide +kernel
theorem d_Program_8_87 : decode prog_5_method_1_code 87 = .ok (.dup, 1) := by decide +kernel
theorem d_Program_8_88 : decode prog_5_method_1_code 88 = .ok (.bipush 74, 2) := by decide +kernel
theorem d_Program_8_90 : decode prog_5_method_1_code 90 = .ok (.invokespecial 11, 3) := by decide +kernel
theorem d_Program_8_93 : decode prog_5_method_1_code 93 = .ok (.putfield 35, 3) := by decide +kernel
theorem d_Program_8_96 : decode prog_5_method_1_code 96 = .ok (.aload_n 0, 1) := by decide +kernel
theorem d_Program_8_97 : decode prog_5_method_1_code 97 = .ok (.new 9, 3) := by decide +kernel
theorem d_Program_8_100 : decode prog_5_method_1_code 100 = .ok (.dup, 1) := by decide +kernel
theorem d_Program_8_101 : decode prog_5_method_1_code 101 = .ok (.bipush 74, 2) := by decide +kernel
theorem d_Program_8_103 : decode prog_5_method_1_code 103 = .ok (.invokespecial 11, 3) := by decide +kernel
theorem d_Program_8_106 : decode prog_5_method_1_code 106 = .ok (.putfield 38, 3) := by decide +kernel
theorem d_Program_8_109 : decode prog_5_method_1_code 109 = .ok (.aload_n 0, 1) := by decide +kernel
theorem d_Program_8_110 : decode prog_5_method_1_code 110 = .ok (.new 9, 3) := by decide +kernel
theorem d_Program_8_113 : decode prog_5_method_1_code 113 = .ok (.dup, 1) := by decide +kernel
theorem d_Program_8_114 : decode prog_5_method_1_code 114 = .ok (.bipush 6, 2) := by decide +kernel
theorem d_Program_8_116 : decode prog_5_method_1_code 116 = .ok (.invokespecial 11, 3) := by decide +kernel
theorem d_Program_8_119 : decode prog_5_method_1_code 119 = .ok (.putfield 41, 3) := by decide +kernel
theorem d_Program_8_122 : decode prog_5_method_1_code 122 = .ok (.aload_n 0, 1) := by decide +kernel
theorem d_Program_8_123 : decode prog_5_method_1_code 123 = .ok (.new 9, 3) := by decide +kernel
theorem d_Program_8_126 : decode prog_5_method_1_code 126 = .ok (.dup, 1) := by decide +kernel
theorem d_Program_8_127 : decode prog_5_method_1_code 127 = .ok (.bipush 24, 2) := by decide +kernel
theorem d_Program_8_129 : decode prog_5_method_1_code 129 = .ok (.invokespecial 11, 3) := by decide +kernel
theorem d_Program_8_132 : decode prog_5_method_1_code 132 = .ok (.putfield 44, 3) := by decide +kernel
theorem d_Program_8_135 : decode prog_5_method_1_code 135 = .ok (.aload_n 0, 1) := by decide +kernel
theorem d_Program_8_136 : decode prog_5_method_1_code 136 = .ok (.new 9, 3) := by decide +kernel
theorem d_Program_8_139 : decode prog_5_method_1_code 139 = .ok (.dup, 1) := by decide +kernel
theorem d_Program_8_140 : decode prog_5_method_1_code 140 = .ok (.bipush 24, 2) := by decide +kernel
theorem d_Program_8_142 : decode prog_5_method_1_code 142 = .ok (.invokespecial 11, 3) := by decide +kernel
theorem d_Program_8_145 : decode prog_5_method_1_code 145 = .ok (.putfield 47, 3) := by decide +kernel
theorem d_Program_8_148 : decode prog_5_method_1_code 148 = .ok (.aload_n 0, 1) := by decide +kernel
theorem d_Program_8_149 : decode prog_5_method_1_code 149 = .ok (.new 9, 3) := by decide +kernel
theorem d_Program_8_152 : decode prog_5_method_1_code 152 = .ok (.dup, 1) := by decide +kernel
theorem d_Program_8_153 : decode prog_5_method_1_code 153 = .ok (.bipush 100, 2) := by decide +kernel
theorem d_Program_8_155 : decode prog_5_method_1_code 155 = .ok (.invokespecial 11, 3) := by decide +kernel
theorem d_Program_8_158 : decode prog_5_method_1_code 158 = .ok (.putfield 50, 3) := by decide +kernel
theorem d_Program_8_161 : decode prog_5_method_1_code 161 = .ok (.aload_n 0, 1) := by decide +kernel
theorem d_Program_8_162 : decode prog_5_method_1_code 162 = .ok (.new 9, 3) := by decide +kernel
theorem d_Program_8_165 : decode prog_5_method_1_code 165 = .ok (.dup, 1) := by decide +kernel
theorem d_Program_8_166 : decode prog_5_method_1_code 166 = .ok (.bipush 100, 2) := by decide +kernel
theorem d_Program_8_168 : decode prog_5_method_1_code 168 = .ok (.invokespecial 11, 3) := by decide +kernel
theorem d_Program_8_171 : decode prog_5_method_1_code 171 = .ok (.putfield 53, 3) := by decide +kernel
theorem d_Program_8_174 : decode prog_5_method_1_code 174 = .ok (.aload_n 0, 1) := by decide +kernel
theorem d_Program_8_175 : decode prog_5_method_1_code 175 = .ok (.iconst 0, 1) := by decide +kernel
theorem d_Program_8_176 : decode prog_5_method_1_code 176 = .ok (.putfield 56, 3) := by decide +kernel
theorem d_Program_8_179 : decode prog_5_method_1_code 179 = .ok (.aload_n 0, 1) := by decide +kernel
theorem d_Program_8_180 : decode prog_5_method_1_code 180 = .ok (.iconst 0, 1) := by decide +kernel
theorem d_Program_8_181 : decode prog_5_method_1_code 181 = .ok (.putfield 60, 3) := by decide +kernel
theorem d_Program_8_184 : decode prog_5_method_1_code 184 = .ok (.aload_n 0, 1) := by decide +kernel
theorem d_Program_8_185 : decode prog_5_method_1_code 185 = .ok (.iconst 0, 1) := by decide +kernel
theorem d_Program_8_186 : decode prog_5_method_1_code 186 = .ok (.putfield 63, 3) := by decide +kernel
theorem d_Program_8_189 : decode prog_5_method_1_code 189 = .ok (.aload_n 0, 1) := by decide +kernel
theorem d_Program_8_190 : decode prog_5_method_1_code 190 = .ok (.iconst (-1), 1) := by decide +kernel
theorem d_Program_8_191 : decode prog_5_method_1_code 191 = .ok (.putfield 66, 3) := by decide +kernel
theorem d_Program_8_194 : decode prog_5_method_1_code 194 = .ok (.return_, 1) := by decide +kernel
def fm_new_Program_8 (w : fa_W) : fa_W :=
  fa_let (fa_nw 9 w) fun w1 =>
  fa_let (fa_nw 10 (fa_st w1 9 1 0)) fun w2 =>
  fa_let (fa_nw 11 w2) fun w3 =>
  fa_let (fa_nw 12 (fa_st w3 11 1 0)) fun w4 =>
  fa_let (fa_nw 13 w4) fun w5 =>
  fa_let (fa_nw 14 (fa_st w5 13 1 0)) fun w6 =>
  fa_let (fa_nw 15 w6) fun w7 =>
  fa_let (fa_nw 16 (fa_st w7 15 1 0)) fun w8 =>
  fa_let (fa_nw 17 w8) fun w9 =>
  fa_let (fa_nw 18 (fa_st w9 17 1 0)) fun w10 =>
  fa_let (fa_nw 19 w10) fun w11 =>
  fa_let (fa_nw 20 (fa_st w11 19 1 0)) fun w12 =>
  fa_let (fa_nw 21 w12) fun w13 =>
  fa_let (fa_nw 22 (fa_st w13 21 1 0)) fun w14 =>
  fa_let (fa_nw 23 w14) fun w15 =>
  fa_let (fa_nw 24 (fa_st w15 23 1 0)) fun w16 =>
  fa_let (fa_nw 25 w16) fun w17 =>
  fa_let (fa_nw 26 (fa_st w17 25 1 0)) fun w18 =>
  fa_let (fa_nw 27 w18) fun w19 =>
  fa_let (fa_nw 28 (fa_st w19 27 1 0)) fun w20 =>
  fa_let (fa_nw 29 w20) fun w21 =>
  fa_let (fa_nw 30 (fa_st w21 29 1 0)) fun w22 =>
  fa_let (fa_nw 31 w22) fun w23 =>
  fa_let (fa_nw 32 (fa_st w23 31 1 0)) fun w24 =>
  fa_let (fa_nw 33 w24) fun w25 =>
  fa_let (fa_nw 34 (fa_st w25 33 1 0)) fun w26 =>
  fa_let (fa_st w26 8 13 0) fun w27 =>
  fa_let (fa_st w27 8 14 0) fun w28 =>
  fa_let (fa_st w28 8 15 0) fun w29 =>
  fa_let (fa_st w29 8 16 (-1)) fun w30 =>
  w30
set_option maxHeartbeats 4000000 in
set_option maxRecDepth 100000 in
theorem n_Program_8 {l : Launch} {D : va_G} {b : Nat} {aC : Nat → ClassId} {H0 : Heap} (w r : fa_W) (hM : fm_new_Program_8 w = r) : fa_NC l D b aC H0 9 6 35 32 y_Program_init prog_5_method_1_code 1 3 26 1228 [.ref (b + 8)] w r := by
  refine fa_nenter (lv := [(0, .ref (b + 8))]) (by decide +kernel) (Nat.le_of_ble_eq_true rfl) rfl (fun hh hle hsz hnm X => ?_)
  unfold fm_new_Program_8 at hM
  refine g_aload_n X 0 rfl d_Program_8_0 ?_
  refine g_objInit X wd_62 wd_32 wd_33 (Nat.le_trans (Nat.le_of_ble_eq_true rfl) hle) (Nat.le_of_ble_eq_true rfl) d_Program_8_1 ?_
  refine g_aload_n X 0 rfl d_Program_8_4 ?_
  refine g_new X (N1 := 10) (c1 := 1) (s1 := 2) (by omega) ck_6 fh_9 (by decide +kernel) (by decide +kernel) wd_63 wd_35 wd_2 rfl rfl rfl (Nat.le_of_ble_eq_true rfl) (Nat.le_of_ble_eq_true rfl) d_Program_8_5 (fun w1 ew1 => ?_)
  have hM := fa_let_to hM ew1
  refine g_dup X rfl d_Program_8_8 ?_
  refine g_bipush X (by decide) d_Program_8_9 ?_
  obtain ⟨w2, ew2⟩ : ∃ q, fa_nw 10 (fa_st w1 9 1 0) = q := ⟨_, rfl⟩
  have hM := fa_let_to hM ew2.symm
  refine g_callN X (c1 := 2) (s1 := 102) (by omega) mi_Row_init (n_Row_e 9 10 6 100 100 fh_9 (Nat.le_of_ble_eq_true rfl) fhs_10 (by decide +kernel) (by decide +kernel) (by decide +kernel) (by decide +kernel) (by decide) w1 _ ew2) wd_64 rfl (Nat.le_trans (Nat.le_of_ble_eq_true rfl) hle) (st := [.ref (b + 9), .ref (b + 8)]) (Nat.le_of_ble_eq_true rfl) rfl d_Program_8_11 rfl rfl (Nat.le_of_ble_eq_true rfl) (Nat.le_of_ble_eq_true rfl) ?_
  refine g_putR X hnm ck_4 fh_8 (Nat.le_of_ble_eq_true rfl) 0 (by decide) wd_65 rfl rfl (by decide +kernel) (fa_ctR (t := 9) rfl (by decide +kernel) (by decide +kernel)) rfl rfl d_Program_8_14 ?_
  refine g_aload_n X 0 rfl d_Program_8_17 ?_
  refine g_new X (N1 := 12) (c1 := 3) (s1 := 104) (by omega) ck_6 fh_11 (by decide +kernel) (by decide +kernel) wd_63 wd_35 wd_2 rfl rfl rfl (Nat.le_of_ble_eq_true rfl) (Nat.le_of_ble_eq_true rfl) d_Program_8_18 (fun w3 ew3 => ?_)
  have hM := fa_let_to hM ew3
  refine g_dup X rfl d_Program_8_21 ?_
  refine g_bipush X (by decide) d_Program_8_22 ?_
  obtain ⟨w4, ew4⟩ : ∃ q, fa_nw 12 (fa_st w3 11 1 0) = q := ⟨_, rfl⟩
  have hM := fa_let_to hM ew4.symm
  refine g_callN X (c1 := 4) (s1 := 204) (by omega) mi_Row_init (n_Row_e 11 12 8 100 100 fh_11 (Nat.le_of_ble_eq_true rfl) fhs_12 (by decide +kernel) (by decide +kernel) (by decide +kernel) (by decide +kernel) (by decide) w3 _ ew4) wd_64 rfl (Nat.le_trans (Nat.le_of_ble_eq_true rfl) hle) (st := [.ref (b + 11), .ref (b + 8)]) (Nat.le_of_ble_eq_true rfl) rfl d_Program_8_24 rfl rfl (Nat.le_of_ble_eq_true rfl) (Nat.le_of_ble_eq_true rfl) ?_
  refine g_putR X hnm ck_4 fh_8 (Nat.le_of_ble_eq_true rfl) 1 (by decide) wd_66 rfl rfl (by decide +kernel) (fa_ctR (t := 11) rfl (by decide +kernel) (by decide +kernel)) rfl rfl d_Program_8_27 ?_
  refine g_aload_n X 0 rfl d_Program_8_30 ?_
  refine g_new X (N1 := 14) (c1 := 5) (s1 := 206) (by omega) ck_6 fh_13 (by decide +kernel) (by decide +kernel) wd_63 wd_35 wd_2 rfl rfl rfl (Nat.le_of_ble_eq_true rfl) (Nat.le_of_ble_eq_true rfl) d_Program_8_31 (fun w5 ew5 => ?_)
  have hM := fa_let_to hM ew5
  refine g_dup X rfl d_Program_8_34 ?_
  refine g_bipush X (by decide) d_Program_8_35 ?_
  obtain ⟨w6, ew6⟩ : ∃ q, fa_nw 14 (fa_st w5 13 1 0) = q := ⟨_, rfl⟩
  have hM := fa_let_to hM ew6.symm
  refine g_callN X (c1 := 6) (s1 := 306) (by omega) mi_Row_init (n_Row_e 13 14 10 100 100 fh_13 (Nat.le_of_ble_eq_true rfl) fhs_14 (by decide +kernel) (by decide +kernel) (by decide +kernel) (by decide +kernel) (by decide) w5 _ ew6) wd_64 rfl (Nat.le_trans (Nat.le_of_ble_eq_true rfl) hle) (st := [.ref (b + 13), .ref (b + 8)]) (Nat.le_of_ble_eq_true rfl) rfl d_Program_8_37 rfl rfl (Nat.le_of_ble_eq_true rfl) (Nat.le_of_ble_eq_true rfl) ?_
  refine g_putR X hnm ck_4 fh_8 (Nat.le_of_ble_eq_true rfl) 2 (by decide) wd_67 rfl rfl (by decide +kernel) (fa_ctR (t := 13) rfl (by decide +kernel) (by decide +kernel)) rfl rfl d_Program_8_40 ?_
  refine g_aload_n X 0 rfl d_Program_8_43 ?_
  refine g_new X (N1 := 16) (c1 := 7) (s1 := 308) (by omega) ck_6 fh_15 (by decide +kernel) (by decide +kernel) wd_63 wd_35 wd_2 rfl rfl rfl (Nat.le_of_ble_eq_true rfl) (Nat.le_of_ble_eq_true rfl) d_Program_8_44 (fun w7 ew7 => ?_)
  have hM := fa_let_to hM ew7
  refine g_dup X rfl d_Program_8_47 ?_
  refine g_bipush X (by decide) d_Program_8_48 ?_
  obtain ⟨w8, ew8⟩ : ∃ q, fa_nw 16 (fa_st w7 15 1 0) = q := ⟨_, rfl⟩
  have hM := fa_let_to hM ew8.symm
  refine g_callN X (c1 := 8) (s1 := 408) (by omega) mi_Row_init (n_Row_e 15 16 12 100 100 fh_15 (Nat.le_of_ble_eq_true rfl) fhs_16 (by decide +kernel) (by decide +kernel) (by decide +kernel) (by decide +kernel) (by decide) w7 _ ew8) wd_64 rfl (Nat.le_trans (Nat.le_of_ble_eq_true rfl) hle) (st := [.ref (b + 15), .ref (b + 8)]) (Nat.le_of_ble_eq_true rfl) rfl d_Program_8_50 rfl rfl (Nat.le_of_ble_eq_true rfl) (Nat.le_of_ble_eq_true rfl) ?_
  refine g_putR X hnm ck_4 fh_8 (Nat.le_of_ble_eq_true rfl) 3 (by decide) wd_68 rfl rfl (by decide +kernel) (fa_ctR (t := 15) rfl (by decide +kernel) (by decide +kernel)) rfl rfl d_Program_8_53 ?_
  refine g_aload_n X 0 rfl d_Program_8_56 ?_
  refine g_new X (N1 := 18) (c1 := 9) (s1 := 410) (by omega) ck_6 fh_17 (by decide +kernel) (by decide +kernel) wd_63 wd_35 wd_2 rfl rfl rfl (Nat.le_of_ble_eq_true rfl) (Nat.le_of_ble_eq_true rfl) d_Program_8_57 (fun w9 ew9 => ?_)
  have hM := fa_let_to hM ew9
  refine g_dup X rfl d_Program_8_60 ?_
  refine g_sipush X (by decide) d_Program_8_61 ?_
  obtain ⟨w10, ew10⟩ : ∃ q, fa_nw 18 (fa_st w9 17 1 0) = q := ⟨_, rfl⟩
  have hM := fa_let_to hM ew10.symm
  refine g_callN X (c1 := 10) (s1 := 710) (by omega) mi_Row_init (n_Row_e 17 18 14 300 300 fh_17 (Nat.le_of_ble_eq_true rfl) fhs_18 (by decide +kernel) (by decide +kernel) (by decide +kernel) (by decide +kernel) (by decide) w9 _ ew10) wd_64 rfl (Nat.le_trans (Nat.le_of_ble_eq_true rfl) hle) (st := [.ref (b + 17), .ref (b + 8)]) (Nat.le_of_ble_eq_true rfl) rfl d_Program_8_64 rfl rfl (Nat.le_of_ble_eq_true rfl) (Nat.le_of_ble_eq_true rfl) ?_
  refine g_putR X hnm ck_4 fh_8 (Nat.le_of_ble_eq_true rfl) 4 (by decide) wd_69 rfl rfl (by decide +kernel) (fa_ctR (t := 17) rfl (by decide +kernel) (by decide +kernel)) rfl rfl d_Program_8_67 ?_
  refine g_aload_n X 0 rfl d_Program_8_70 ?_
  refine g_new X (N1 := 20) (c1 := 11) (s1 := 712) (by omega) ck_6 fh_19 (by decide +kernel) (by decide +kernel) wd_63 wd_35 wd_2 rfl rfl rfl (Nat.le_of_ble_eq_true rfl) (Nat.le_of_ble_eq_true rfl) d_Program_8_71 (fun w11 ew11 => ?_)
  have hM := fa_let_to hM ew11
  refine g_dup X rfl d_Program_8_74 ?_
  refine g_bipush X (by decide) d_Program_8_75 ?_
  obtain ⟨w12, ew12⟩ : ∃ q, fa_nw 20 (fa_st w11 19 1 0) = q := ⟨_, rfl⟩
  have hM := fa_let_to hM ew12.symm
  refine g_callN X (c1 := 12) (s1 := 812) (by omega) mi_Row_init (n_Row_e 19 20 16 100 100 fh_19 (Nat.le_of_ble_eq_true rfl) fhs_20 (by decide +kernel) (by decide +kernel) (by decide +kernel) (by decide +kernel) (by decide) w11 _ ew12) wd_64 rfl (Nat.le_trans (Nat.le_of_ble_eq_true rfl) hle) (st := [.ref (b + 19), .ref (b + 8)]) (Nat.le_of_ble_eq_true rfl) rfl d_Program_8_77 rfl rfl (Nat.le_of_ble_eq_true rfl) (Nat.le_of_ble_eq_true rfl) ?_
  refine g_putR X hnm ck_4 fh_8 (Nat.le_of_ble_eq_true rfl) 5 (by decide) wd_70 rfl rfl (by decide +kernel) (fa_ctR (t := 19) rfl (by decide +kernel) (by decide +kernel)) rfl rfl d_Program_8_80 ?_
  refine g_aload_n X 0 rfl d_Program_8_83 ?_
  refine g_new X (N1 := 22) (c1 := 13) (s1 := 814) (by omega) ck_6 fh_21 (by decide +kernel) (by decide +kernel) wd_63 wd_35 wd_2 rfl rfl rfl (Nat.le_of_ble_eq_true rfl) (Nat.le_of_ble_eq_true rfl) d_Program_8_84 (fun w13 ew13 => ?_)
  have hM := fa_let_to hM ew13
  refine g_dup X rfl d_Program_8_87 ?_
  refine g_bipush X (by decide) d_Program_8_88 ?_
  obtain ⟨w14, ew14⟩ : ∃ q, fa_nw 22 (fa_st w13 21 1 0) = q := ⟨_, rfl⟩
  have hM := fa_let_to hM ew14.symm
  refine g_callN X (c1 := 14) (s1 := 888) (by omega) mi_Row_init (n_Row_e 21 22 18 74 74 fh_21 (Nat.le_of_ble_eq_true rfl) fhs_22 (by decide +kernel) (by decide +kernel) (by decide +kernel) (by decide +kernel) (by decide) w13 _ ew14) wd_64 rfl (Nat.le_trans (Nat.le_of_ble_eq_true rfl) hle) (st := [.ref (b + 21), .ref (b + 8)]) (Nat.le_of_ble_eq_true rfl) rfl d_Program_8_90 rfl rfl (Nat.le_of_ble_eq_true rfl) (Nat.le_of_ble_eq_true rfl) ?_
  refine g_putR X hnm ck_4 fh_8 (Nat.le_of_ble_eq_true rfl) 6 (by decide) wd_74 rfl rfl (by decide +kernel) (fa_ctR (t := 21) rfl (by decide +kernel) (by decide +kernel)) rfl rfl d_Program_8_93 ?_
  refine g_aload_n X 0 rfl d_Program_8_96 ?_
  refine g_new X (N1 := 24) (c1 := 15) (s1 := 890) (by omega) ck_6 fh_23 (by decide +kernel) (by decide +kernel) wd_63 wd_35 wd_2 rfl rfl rfl (Nat.le_of_ble_eq_true rfl) (Nat.le_of_ble_eq_true rfl) d_Program_8_97 (fun w15 ew15 => ?_)
  have hM := fa_let_to hM ew15
  refine g_dup X rfl d_Program_8_100 ?_
  refine g_bipush X (by decide) d_Program_8_101 ?_
  obtain ⟨w16, ew16⟩ : ∃ q, fa_nw 24 (fa_st w15 23 1 0) = q := ⟨_, rfl⟩
  have hM := fa_let_to hM ew16.symm
  refine g_callN X (c1 := 16) (s1 := 964) (by omega) mi_Row_init (n_Row_e 23 24 20 74 74 fh_23 (Nat.le_of_ble_eq_true rfl) fhs_24 (by decide +kernel) (by decide +kernel) (by decide +kernel) (by decide +kernel) (by decide) w15 _ ew16) wd_64 rfl (Nat.le_trans (Nat.le_of_ble_eq_true rfl) hle) (st := [.ref (b + 23), .ref (b + 8)]) (Nat.le_of_ble_eq_true rfl) rfl d_Program_8_103 rfl rfl (Nat.le_of_ble_eq_true rfl) (Nat.le_of_ble_eq_true rfl) ?_
  refine g_putR X hnm ck_4 fh_8 (Nat.le_of_ble_eq_true rfl) 7 (by decide) wd_78 rfl rfl (by decide +kernel) (fa_ctR (t := 23) rfl (by decide +kernel) (by decide +kernel)) rfl rfl d_Program_8_106 ?_
  refine g_aload_n X 0 rfl d_Program_8_109 ?_
  refine g_new X (N1 := 26) (c1 := 17) (s1 := 966) (by omega) ck_6 fh_25 (by decide +kernel) (by decide +kernel) wd_63 wd_35 wd_2 rfl rfl rfl (Nat.le_of_ble_eq_true rfl) (Nat.le_of_ble_eq_true rfl) d_Program_8_110 (fun w17 ew17 => ?_)
  have hM := fa_let_to hM ew17
  refine g_dup X rfl d_Program_8_113 ?_
  refine g_bipush X (by decide) d_Program_8_114 ?_
  obtain ⟨w18, ew18⟩ : ∃ q, fa_nw 26 (fa_st w17 25 1 0) = q := ⟨_, rfl⟩
  have hM := fa_let_to hM ew18.symm
  refine g_callN X (c1 := 18) (s1 := 972) (by omega) mi_Row_init (n_Row_e 25 26 22 6 6 fh_25 (Nat.le_of_ble_eq_true rfl) fhs_26 (by decide +kernel) (by decide +kernel) (by decide +kernel) (by decide +kernel) (by decide) w17 _ ew18) wd_64 rfl (Nat.le_trans (Nat.le_of_ble_eq_true rfl) hle) (st := [.ref (b + 25), .ref (b + 8)]) (Nat.le_of_ble_eq_true rfl) rfl d_Program_8_116 rfl rfl (Nat.le_of_ble_eq_true rfl) (Nat.le_of_ble_eq_true rfl) ?_
  refine g_putR X hnm ck_4 fh_8 (Nat.le_of_ble_eq_true rfl) 8 (by decide) wd_79 rfl rfl (by decide +kernel) (fa_ctR (t := 25) rfl (by decide +kernel) (by decide +kernel)) rfl rfl d_Program_8_119 ?_
  refine g_aload_n X 0 rfl d_Program_8_122 ?_
  refine g_new X (N1 := 28) (c1 := 19) (s1 := 974) (by omega) ck_6 fh_27 (by decide +kernel) (by decide +kernel) wd_63 wd_35 wd_2 rfl rfl rfl (Nat.le_of_ble_eq_true rfl) (Nat.le_of_ble_eq_true rfl) d_Program_8_123 (fun w19 ew19 => ?_)
  have hM := fa_let_to hM ew19
  refine g_dup X rfl d_Program_8_126 ?_
  refine g_bipush X (by decide) d_Program_8_127 ?_
  obtain ⟨w20, ew20⟩ : ∃ q, fa_nw 28 (fa_st w19 27 1 0) = q := ⟨_, rfl⟩
  have hM := fa_let_to hM ew20.symm
  refine g_callN X (c1 := 20) (s1 := 998) (by omega) mi_Row_init (n_Row_e 27 28 24 24 24 fh_27 (Nat.le_of_ble_eq_true rfl) fhs_28 (by decide +kernel) (by decide +kernel) (by decide +kernel) (by decide +kernel) (by decide) w19 _ ew20) wd_64 rfl (Nat.le_trans (Nat.le_of_ble_eq_true rfl) hle) (st := [.ref (b + 27), .ref (b + 8)]) (Nat.le_of_ble_eq_true rfl) rfl d_Program_8_129 rfl rfl (Nat.le_of_ble_eq_true rfl) (Nat.le_of_ble_eq_true rfl) ?_
  refine g_putR X hnm ck_4 fh_8 (Nat.le_of_ble_eq_true rfl) 9 (by decide) wd_82 rfl rfl (by decide +kernel) (fa_ctR (t := 27) rfl (by decide +kernel) (by decide +kernel)) rfl rfl d_Program_8_132 ?_
  refine g_aload_n X 0 rfl d_Program_8_135 ?_
  refine g_new X (N1 := 30) (c1 := 21) (s1 := 1000) (by omega) ck_6 fh_29 (by decide +kernel) (by decide +kernel) wd_63 wd_35 wd_2 rfl rfl rfl (Nat.le_of_ble_eq_true rfl) (Nat.le_of_ble_eq_true rfl) d_Program_8_136 (fun w21 ew21 => ?_)
  have hM := fa_let_to hM ew21
  refine g_dup X rfl d_Program_8_139 ?_
  refine g_bipush X (by decide) d_Program_8_140 ?_
  obtain ⟨w22, ew22⟩ : ∃ q, fa_nw 30 (fa_st w21 29 1 0) = q := ⟨_, rfl⟩
  have hM := fa_let_to hM ew22.symm
  refine g_callN X (c1 := 22) (s1 := 1024) (by omega) mi_Row_init (n_Row_e 29 30 26 24 24 fh_29 (Nat.le_of_ble_eq_true rfl) fhs_30 (by decide +kernel) (by decide +kernel) (by decide +kernel) (by decide +kernel) (by decide) w21 _ ew22) wd_64 rfl (Nat.le_trans (Nat.le_of_ble_eq_true rfl) hle) (st := [.ref (b + 29), .ref (b + 8)]) (Nat.le_of_ble_eq_true rfl) rfl d_Program_8_142 rfl rfl (Nat.le_of_ble_eq_true rfl) (Nat.le_of_ble_eq_true rfl) ?_
  refine g_putR X hnm ck_4 fh_8 (Nat.le_of_ble_eq_true rfl) 10 (by decide) wd_88 rfl rfl (by decide +kernel) (fa_ctR (t := 29) rfl (by decide +kernel) (by decide +kernel)) rfl rfl d_Program_8_145 ?_
  refine g_aload_n X 0 rfl d_Program_8_148 ?_
  refine g_new X (N1 := 32) (c1 := 23) (s1 := 1026) (by omega) ck_6 fh_31 (by decide +kernel) (by decide +kernel) wd_63 wd_35 wd_2 rfl rfl rfl (Nat.le_of_ble_eq_true rfl) (Nat.le_of_ble_eq_true rfl) d_Program_8_149 (fun w23 ew23 => ?_)
  have hM := fa_let_to hM ew23
  refine g_dup X rfl d_Program_8_152 ?_
  refine g_bipush X (by decide) d_Program_8_153 ?_
  obtain ⟨w24, ew24⟩ : ∃ q, fa_nw 32 (fa_st w23 31 1 0) = q := ⟨_, rfl⟩
  have hM := fa_let_to hM ew24.symm
  refine g_callN X (c1 := 24) (s1 := 1126) (by omega) mi_Row_init (n_Row_e 31 32 28 100 100 fh_31 (Nat.le_of_ble_eq_true rfl) fhs_32 (by decide +kernel) (by decide +kernel) (by decide +kernel) (by decide +kernel) (by decide) w23 _ ew24) wd_64 rfl (Nat.le_trans (Nat.le_of_ble_eq_true rfl) hle) (st := [.ref (b + 31), .ref (b + 8)]) (Nat.le_of_ble_eq_true rfl) rfl d_Program_8_155 rfl rfl (Nat.le_of_ble_eq_true rfl) (Nat.le_of_ble_eq_true rfl) ?_
  refine g_putR X hnm ck_4 fh_8 (Nat.le_of_ble_eq_true rfl) 11 (by decide) wd_89 rfl rfl (by decide +kernel) (fa_ctR (t := 31) rfl (by decide +kernel) (by decide +kernel)) rfl rfl d_Program_8_158 ?_
  refine g_aload_n X 0 rfl d_Program_8_161 ?_
  refine g_new X (N1 := 34) (c1 := 25) (s1 := 1128) (by omega) ck_6 fh_33 (by decide +kernel) (by decide +kernel) wd_63 wd_35 wd_2 rfl rfl rfl (Nat.le_of_ble_eq_true rfl) (Nat.le_of_ble_eq_true rfl) d_Program_8_162 (fun w25 ew25 => ?_)
  have hM := fa_let_to hM ew25
  refine g_dup X rfl d_Program_8_165 ?_
  refine g_bipush X (by decide) d_Program_8_166 ?_
  obtain ⟨w26, ew26⟩ : ∃ q, fa_nw 34 (fa_st w25 33 1 0) = q := ⟨_, rfl⟩
  have hM := fa_let_to hM ew26.symm
  refine g_callN X (c1 := 26) (s1 := 1228) (by omega) mi_Row_init (n_Row_e 33 34 30 100 100 fh_33 (Nat.le_of_ble_eq_true rfl) fhs_34 (by decide +kernel) (by decide +kernel) (by decide +kernel) (by decide +kernel) (by decide) w25 _ ew26) wd_64 rfl (Nat.le_trans (Nat.le_of_ble_eq_true rfl) hle) (st := [.ref (b + 33), .ref (b + 8)]) (Nat.le_of_ble_eq_true rfl) rfl d_Program_8_168 rfl rfl (Nat.le_of_ble_eq_true rfl) (Nat.le_of_ble_eq_true rfl) ?_
  refine g_putR X hnm ck_4 fh_8 (Nat.le_of_ble_eq_true rfl) 12 (by decide) wd_90 rfl rfl (by decide +kernel) (fa_ctR (t := 33) rfl (by decide +kernel) (by decide +kernel)) rfl rfl d_Program_8_171 ?_
  refine g_aload_n X 0 rfl d_Program_8_174 ?_
  refine g_iconst X d_Program_8_175 ?_
  refine g_put X ck_4 fh_8 (Nat.le_of_ble_eq_true rfl) 13 (z := 0) (by decide) wd_91 rfl (fa_fvI' rfl) rfl rfl rfl d_Program_8_176 (fun w27 ew27 => ?_)
  have hM := fa_let_to hM ew27
  refine g_aload_n X 0 rfl d_Program_8_179 ?_
  refine g_iconst X d_Program_8_180 ?_
  refine g_put X ck_4 fh_8 (Nat.le_of_ble_eq_true rfl) 14 (z := 0) (by decide) wd_96 rfl (fa_fvI' rfl) rfl rfl rfl d_Program_8_181 (fun w28 ew28 => ?_)
  have hM := fa_let_to hM ew28
  refine g_aload_n X 0 rfl d_Program_8_184 ?_
  refine g_iconst X d_Program_8_185 ?_
  refine g_put X ck_4 fh_8 (Nat.le_of_ble_eq_true rfl) 15 (z := 0) (by decide) wd_102 rfl (fa_fvI' rfl) rfl rfl rfl d_Program_8_186 (fun w29 ew29 => ?_)
  have hM := fa_let_to hM ew29
  refine g_aload_n X 0 rfl d_Program_8_189 ?_
  refine g_iconst X d_Program_8_190 ?_
  refine g_put X ck_4 fh_8 (Nat.le_of_ble_eq_true rfl) 16 (z := (-1)) (by decide) wd_107 rfl (fa_fvI' rfl) rfl rfl rfl d_Program_8_191 (fun w30 ew30 => ?_)
  have hM := fa_let_to hM ew30
  subst hM
  exact g_cvret X d_Program_8_194
theorem d_Reader_7_0 : decode prog_6_method_1_code 0 = .ok (.aload_n 0, 1) := by decide +kernel
theorem d_Reader_7_1 : decode prog_6_method_1_code 1 = .ok (.invokespecial 3, 3) := by decide +kernel
theorem d_Reader_7_4 : decode prog_6_method_1_code 4 = .ok (.aload_n 0, 1) := by decide +kernel
theorem d_Reader_7_5 : decode prog_6_method_1_code 5 = .ok (.new 9, 3) := by decide +kernel
theorem d_Reader_7_8 : decode prog_6_method_1_code 8 = .ok (.dup, 1) := by decide +kernel
theorem d_Reader_7_9 : decode prog_6_method_1_code 9 = .ok (.invokespecial 11, 3) := by decide +kernel
theorem d_Reader_7_12 : decode prog_6_method_1_code 12 = .ok (.putfield 12, 3) := by decide +kernel
theorem d_Reader_7_15 : decode prog_6_method_1_code 15 = .ok (.aload_n 0, 1) := by decide +kernel
theorem d_Reader_7_16 : decode prog_6_method_1_code 16 = .ok (.new 18, 3) := by decide +kernel
theorem d_Reader_7_19 : decode prog_6_method_1_code 19 = .ok (.dup, 1) := by decide +kernel
theorem d_Reader_7_20 : decode prog_6_method_1_code 20 = .ok (.bipush 21, 2) := by decide +kernel
theorem d_Reader_7_22 : decode prog_6_method_1_code 22 = .ok (.invokespecial 20, 3) := by decide +kernel
theorem d_Reader_7_25 : decode prog_6_method_1_code 25 = .ok (.putfield 23, 3) := by decide +kernel
theorem d_Reader_7_28 : decode prog_6_method_1_code 28 = .ok (.aload_n 0, 1) := by decide +kernel
theorem d_Reader_7_29 : decode prog_6_method_1_code 29 = .ok (.iconst 0, 1) := by decide +kernel
theorem d_Reader_7_30 : decode prog_6_method_1_code 30 = .ok (.putfield 27, 3) := by decide +kernel
theorem d_Reader_7_33 : decode prog_6_method_1_code 33 = .ok (.aload_n 0, 1) := by decide +kernel
theorem d_Reader_7_34 : decode prog_6_method_1_code 34 = .ok (.iconst 0, 1) := by decide +kernel
theorem d_Reader_7_35 : decode prog_6_method_1_code 35 = .ok (.putfield 31, 3) := by decide +kernel
theorem d_Reader_7_38 : decode prog_6_method_1_code 38 = .ok (.aload_n 0, 1) := by decide +kernel
theorem d_Reader_7_39 : decode prog_6_method_1_code 39 = .ok (.iconst 0, 1) := by decide +kernel
theorem d_Reader_7_40 : decode prog_6_method_1_code 40 = .ok (.putfield 34, 3) := by decide +kernel
theorem d_Reader_7_43 : decode prog_6_method_1_code 43 = .ok (.aload_n 0, 1) := by decide +kernel
theorem d_Reader_7_44 : decode prog_6_method_1_code 44 = .ok (.iconst 0, 1) := by decide +kernel
theorem d_Reader_7_45 : decode prog_6_method_1_code 45 = .ok (.putfield 37, 3) := by decide +kernel
theorem d_Reader_7_48 : decode prog_6_method_1_code 48 = .ok (.aload_n 0, 1) := by decide +kernel
theorem d_Reader_7_49 : decode prog_6_method_1_code 49 = .ok (.iconst (-1), 1) := by decide +kernel
theorem d_Reader_7_50 : decode prog_6_method_1_code 50 = .ok (.putfield 40, 3) := by decide +kernel
theorem d_Reader_7_53 : decode prog_6_method_1_code 53 = .ok (.aload_n 0, 1) := by decide +kernel
theorem d_Reader_7_54 : decode prog_6_method_1_code 54 = .ok (.iconst 0, 1) := by decide +kernel
theorem d_Reader_7_55 : decode prog_6_method_1_code 55 = .ok (.putfield 43, 3) := by decide +kernel
theorem d_Reader_7_58 : decode prog_6_method_1_code 58 = .ok (.aload_n 0, 1) := by decide +kernel
theorem d_Reader_7_59 : decode prog_6_method_1_code 59 = .ok (.iconst 0, 1) := by decide +kernel
theorem d_Reader_7_60 : decode prog_6_method_1_code 60 = .ok (.putfield 46, 3) := by decide +kernel
theorem d_Reader_7_63 : decode prog_6_method_1_code 63 = .ok (.aload_n 0, 1) := by decide +kernel
theorem d_Reader_7_64 : decode prog_6_method_1_code 64 = .ok (.iconst 0, 1) := by decide +kernel
theorem d_Reader_7_65 : decode prog_6_method_1_code 65 = .ok (.putfield 49, 3) := by decide +kernel
theorem d_Reader_7_68 : decode prog_6_method_1_code 68 = .ok (.aload_n 0, 1) := by decide +kernel
theorem d_Reader_7_69 : decode prog_6_method_1_code 69 = .ok (.iconst 0, 1) := by decide +kernel
theorem d_Reader_7_70 : decode prog_6_method_1_code 70 = .ok (.putfield 52, 3) := by decide +kernel
theorem d_Reader_7_73 : decode prog_6_method_1_code 73 = .ok (.aload_n 0, 1) := by decide +kernel
theorem d_Reader_7_74 : decode prog_6_method_1_code 74 = .ok (.iconst (-1), 1) := by decide +kernel
theorem d_Reader_7_75 : decode prog_6_method_1_code 75 = .ok (.putfield 55, 3) := by decide +kernel
theorem d_Reader_7_78 : decode prog_6_method_1_code 78 = .ok (.aload_n 0, 1) := by decide +kernel
theorem d_Reader_7_79 : decode prog_6_method_1_code 79 = .ok (.aload_n 1, 1) := by decide +kernel
theorem d_Reader_7_80 : decode prog_6_method_1_code 80 = .ok (.putfield 58, 3) := by decide +kernel
theorem d_Reader_7_83 : decode prog_6_method_1_code 83 = .ok (.return_, 1) := by decide +kernel
def fm_new_Reader_7 (w : fa_W) : fa_W :=
  fa_let (fa_nw 8 w) fun w1 =>
  fa_let (fm_new_Program_8 w1) fun w2 =>
  fa_let (fa_nw 35 w2) fun w3 =>
  fa_let (fa_nw 36 (fa_st w3 35 1 0)) fun w4 =>
  fa_let (fa_st w4 7 3 0) fun w5 =>
  fa_let (fa_st w5 7 4 0) fun w6 =>
  fa_let (fa_st w6 7 5 0) fun w7 =>
  fa_let (fa_st w7 7 6 0) fun w8 =>
  fa_let (fa_st w8 7 7 (-1)) fun w9 =>
  fa_let (fa_st w9 7 8 0) fun w10 =>
  fa_let (fa_st w10 7 9 0) fun w11 =>
  fa_let (fa_st w11 7 10 0) fun w12 =>
  fa_let (fa_st w12 7 11 0) fun w13 =>
  fa_let (fa_st w13 7 12 (-1)) fun w14 =>
  w14
set_option maxHeartbeats 4000000 in
set_option maxRecDepth 100000 in
theorem n_Reader_7 {l : Launch} {D : va_G} {b : Nat} {aC : Nat → ClassId} {H0 : Heap} (w r : fa_W) (hM : fm_new_Reader_7 w = r) : fa_NC l D b aC H0 8 6 37 36 y_Reader_init prog_6_method_1_code 2 4 29 1268 [.ref (b + 7), .ref (b + 1)] w r := by
  refine fa_nenter (lv := [(0, .ref (b + 7)), (1, .ref (b + 1))]) (by decide +kernel) (Nat.le_of_ble_eq_true rfl) rfl (fun hh hle hsz hnm X => ?_)
  unfold fm_new_Reader_7 at hM
  refine g_aload_n X 0 rfl d_Reader_7_0 ?_
  refine g_objInit X wd_56 wd_32 wd_33 (Nat.le_trans (Nat.le_of_ble_eq_true rfl) hle) (Nat.le_of_ble_eq_true rfl) d_Reader_7_1 ?_
  refine g_aload_n X 0 rfl d_Reader_7_4 ?_
  refine g_new X (N1 := 9) (c1 := 1) (s1 := 17) (by omega) ck_4 fh_8 (by decide +kernel) (by decide +kernel) wd_57 wd_58 wd_5 rfl rfl rfl (Nat.le_of_ble_eq_true rfl) (Nat.le_of_ble_eq_true rfl) d_Reader_7_5 (fun w1 ew1 => ?_)
  have hM := fa_let_to hM ew1
  refine g_dup X rfl d_Reader_7_8 ?_
  obtain ⟨w2, ew2⟩ : ∃ q, fm_new_Program_8 w1 = q := ⟨_, rfl⟩
  have hM := fa_let_to hM ew2.symm
  refine g_callNN X (c1 := 27) (s1 := 1245) (by omega) mi_Program_init (n_Program_8 w1 _ ew2) wd_59 rfl (Nat.le_trans (Nat.le_of_ble_eq_true rfl) hle) (st := [.ref (b + 8), .ref (b + 7)]) (Nat.le_of_ble_eq_true rfl) rfl d_Reader_7_9 rfl rfl (Nat.le_of_ble_eq_true rfl) (Nat.le_of_ble_eq_true rfl) ?_
  refine g_putR X hnm ck_5 fh_7 (Nat.le_of_ble_eq_true rfl) 0 (by decide) wd_150 rfl rfl (by decide +kernel) (fa_ctR (t := 8) rfl (by decide +kernel) (by decide +kernel)) rfl rfl d_Reader_7_12 ?_
  refine g_aload_n X 0 rfl d_Reader_7_15 ?_
  refine g_new X (N1 := 36) (c1 := 28) (s1 := 1247) (by omega) ck_6 fh_35 (by decide +kernel) (by decide +kernel) wd_148 wd_35 wd_2 rfl rfl rfl (Nat.le_of_ble_eq_true rfl) (Nat.le_of_ble_eq_true rfl) d_Reader_7_16 (fun w3 ew3 => ?_)
  have hM := fa_let_to hM ew3
  refine g_dup X rfl d_Reader_7_19 ?_
  refine g_bipush X (by decide) d_Reader_7_20 ?_
  obtain ⟨w4, ew4⟩ : ∃ q, fa_nw 36 (fa_st w3 35 1 0) = q := ⟨_, rfl⟩
  have hM := fa_let_to hM ew4.symm
  refine g_callN X (c1 := 29) (s1 := 1268) (by omega) mi_Row_init (n_Row_e 35 36 33 21 21 fh_35 (Nat.le_of_ble_eq_true rfl) fhs_36 (by decide +kernel) (by decide +kernel) (by decide +kernel) (by decide +kernel) (by decide) w3 _ ew4) wd_149 rfl (Nat.le_trans (Nat.le_of_ble_eq_true rfl) hle) (st := [.ref (b + 35), .ref (b + 7)]) (Nat.le_of_ble_eq_true rfl) rfl d_Reader_7_22 rfl rfl (Nat.le_of_ble_eq_true rfl) (Nat.le_of_ble_eq_true rfl) ?_
  refine g_putR X hnm ck_5 fh_7 (Nat.le_of_ble_eq_true rfl) 2 (by decide) wd_153 rfl rfl (by decide +kernel) (fa_ctR (t := 35) rfl (by decide +kernel) (by decide +kernel)) rfl rfl d_Reader_7_25 ?_
  refine g_aload_n X 0 rfl d_Reader_7_28 ?_
  refine g_iconst X d_Reader_7_29 ?_
  refine g_put X ck_5 fh_7 (Nat.le_of_ble_eq_true rfl) 3 (z := 0) (by decide) wd_154 rfl (fa_fvI' rfl) rfl rfl rfl d_Reader_7_30 (fun w5 ew5 => ?_)
  have hM := fa_let_to hM ew5
  refine g_aload_n X 0 rfl d_Reader_7_33 ?_
  refine g_iconst X d_Reader_7_34 ?_
  refine g_put X ck_5 fh_7 (Nat.le_of_ble_eq_true rfl) 4 (z := 0) (by decide) wd_155 rfl (fa_fvI' rfl) rfl rfl rfl d_Reader_7_35 (fun w6 ew6 => ?_)
  have hM := fa_let_to hM ew6
  refine g_aload_n X 0 rfl d_Reader_7_38 ?_
  refine g_iconst X d_Reader_7_39 ?_
  refine g_put X ck_5 fh_7 (Nat.le_of_ble_eq_true rfl) 5 (z := 0) (by decide) wd_156 rfl (fa_fvI' rfl) rfl rfl rfl d_Reader_7_40 (fun w7 ew7 => ?_)
  have hM := fa_let_to hM ew7
  refine g_aload_n X 0 rfl d_Reader_7_43 ?_
  refine g_iconst X d_Reader_7_44 ?_
  refine g_put X ck_5 fh_7 (Nat.le_of_ble_eq_true rfl) 6 (z := 0) (by decide) wd_157 rfl (fa_fvI' rfl) rfl rfl rfl d_Reader_7_45 (fun w8 ew8 => ?_)
  have hM := fa_let_to hM ew8
  refine g_aload_n X 0 rfl d_Reader_7_48 ?_
  refine g_iconst X d_Reader_7_49 ?_
  refine g_put X ck_5 fh_7 (Nat.le_of_ble_eq_true rfl) 7 (z := (-1)) (by decide) wd_158 rfl (fa_fvI' rfl) rfl rfl rfl d_Reader_7_50 (fun w9 ew9 => ?_)
  have hM := fa_let_to hM ew9
  refine g_aload_n X 0 rfl d_Reader_7_53 ?_
  refine g_iconst X d_Reader_7_54 ?_
  refine g_put X ck_5 fh_7 (Nat.le_of_ble_eq_true rfl) 8 (z := 0) (by decide) wd_159 rfl (fa_fvI' rfl) rfl rfl rfl d_Reader_7_55 (fun w10 ew10 => ?_)
  have hM := fa_let_to hM ew10
  refine g_aload_n X 0 rfl d_Reader_7_58 ?_
  refine g_iconst X d_Reader_7_59 ?_
  refine g_put X ck_5 fh_7 (Nat.le_of_ble_eq_true rfl) 9 (z := 0) (by decide) wd_160 rfl (fa_fvI' rfl) rfl rfl rfl d_Reader_7_60 (fun w11 ew11 => ?_)
  have hM := fa_let_to hM ew11
  refine g_aload_n X 0 rfl d_Reader_7_63 ?_
  refine g_iconst X d_Reader_7_64 ?_
  refine g_put X ck_5 fh_7 (Nat.le_of_ble_eq_true rfl) 10 (z := 0) (by decide) wd_161 rfl (fa_fvI' rfl) rfl rfl rfl d_Reader_7_65 (fun w12 ew12 => ?_)
  have hM := fa_let_to hM ew12
  refine g_aload_n X 0 rfl d_Reader_7_68 ?_
  refine g_iconst X d_Reader_7_69 ?_
  refine g_put X ck_5 fh_7 (Nat.le_of_ble_eq_true rfl) 11 (z := 0) (by decide) wd_162 rfl (fa_fvI' rfl) rfl rfl rfl d_Reader_7_70 (fun w13 ew13 => ?_)
  have hM := fa_let_to hM ew13
  refine g_aload_n X 0 rfl d_Reader_7_73 ?_
  refine g_iconst X d_Reader_7_74 ?_
  refine g_put X ck_5 fh_7 (Nat.le_of_ble_eq_true rfl) 12 (z := (-1)) (by decide) wd_163 rfl (fa_fvI' rfl) rfl rfl rfl d_Reader_7_75 (fun w14 ew14 => ?_)
  have hM := fa_let_to hM ew14
  refine g_aload_n X 0 rfl d_Reader_7_78 ?_
  refine g_aload_n X 1 rfl d_Reader_7_79 ?_
  refine g_putR X hnm ck_5 fh_7 (Nat.le_of_ble_eq_true rfl) 1 (by decide) wd_152 rfl rfl (by decide +kernel) (fa_ctR (t := 1) rfl (by decide +kernel) (by decide +kernel)) rfl rfl d_Reader_7_80 ?_
  subst hM
  exact g_cvret X d_Reader_7_83
theorem d_Writer_37_0 : decode prog_10_method_1_code 0 = .ok (.aload_n 0, 1) := by decide +kernel
theorem d_Writer_37_1 : decode prog_10_method_1_code 1 = .ok (.invokespecial 3, 3) := by decide +kernel
theorem d_Writer_37_4 : decode prog_10_method_1_code 4 = .ok (.aload_n 0, 1) := by decide +kernel
theorem d_Writer_37_5 : decode prog_10_method_1_code 5 = .ok (.new 9, 3) := by decide +kernel
theorem d_Writer_37_8 : decode prog_10_method_1_code 8 = .ok (.dup, 1) := by decide +kernel
theorem d_Writer_37_9 : decode prog_10_method_1_code 9 = .ok (.sipush 1200, 3) := by decide +kernel
theorem d_Writer_37_12 : decode prog_10_method_1_code 12 = .ok (.invokespecial 13, 3) := by decide +kernel
theorem d_Writer_37_15 : decode prog_10_method_1_code 15 = .ok (.putfield 16, 3) := by decide +kernel
theorem d_Writer_37_18 : decode prog_10_method_1_code 18 = .ok (.aload_n 0, 1) := by decide +kernel
theorem d_Writer_37_19 : decode prog_10_method_1_code 19 = .ok (.new 9, 3) := by decide +kernel
theorem d_Writer_37_22 : decode prog_10_method_1_code 22 = .ok (.dup, 1) := by decide +kernel
theorem d_Writer_37_23 : decode prog_10_method_1_code 23 = .ok (.sipush 300, 3) := by decide +kernel
theorem d_Writer_37_26 : decode prog_10_method_1_code 26 = .ok (.invokespecial 13, 3) := by decide +kernel
theorem d_Writer_37_29 : decode prog_10_method_1_code 29 = .ok (.putfield 20, 3) := by decide +kernel
theorem d_Writer_37_32 : decode prog_10_method_1_code 32 = .ok (.aload_n 0, 1) := by decide +kernel
theorem d_Writer_37_33 : decode prog_10_method_1_code 33 = .ok (.new 9, 3) := by decide +kernel
theorem d_Writer_37_36 : decode prog_10_method_1_code 36 = .ok (.dup, 1) := by decide +kernel
theorem d_Writer_37_37 : decode prog_10_method_1_code 37 = .ok (.bipush 74, 2) := by decide +kernel
theorem d_Writer_37_39 : decode prog_10_method_1_code 39 = .ok (.invokespecial 13, 3) := by decide +kernel
theorem d_Writer_37_42 : decode prog_10_method_1_code 42 = .ok (.putfield 23, 3) := by decide +kernel
theorem d_Writer_37_45 : decode prog_10_method_1_code 45 = .ok (.aload_n 0, 1) := by decide +kernel
theorem d_Writer_37_46 : decode prog_10_method_1_code 46 = .ok (.iconst (-1), 1) := by decide +kernel
theorem d_Writer_37_47 : decode prog_10_method_1_code 47 = .ok (.putfield 26, 3) := by decide +kernel
theorem d_Writer_37_50 : decode prog_10_method_1_code 50 = .ok (.aload_n 0, 1) := by decide +kernel
theorem d_Writer_37_51 : decode prog_10_method_1_code 51 = .ok (.aload_n 1, 1) := by decide +kernel
theorem d_Writer_37_52 : decode prog_10_method_1_code 52 = .ok (.putfield 30, 3) := by decide +kernel
theorem d_Writer_37_55 : decode prog_10_method_1_code 55 = .ok (.return_, 1) := by decide +kernel
def fm_new_Writer_37 (w : fa_W) : fa_W :=
  fa_let (fa_nw 38 w) fun w1 =>
  fa_let (fa_nw 39 (fa_st w1 38 1 0)) fun w2 =>
  fa_let (fa_nw 40 w2) fun w3 =>
  fa_let (fa_nw 41 (fa_st w3 40 1 0)) fun w4 =>
  fa_let (fa_nw 42 w4) fun w5 =>
  fa_let (fa_nw 43 (fa_st w5 42 1 0)) fun w6 =>
  fa_let (fa_st w6 37 4 (-1)) fun w7 =>
  w7
set_option maxHeartbeats 4000000 in
set_option maxRecDepth 100000 in
theorem n_Writer_37 {l : Launch} {D : va_G} {b : Nat} {aC : Nat → ClassId} {H0 : Heap} (w r : fa_W) (hM : fm_new_Writer_37 w = r) : fa_NC l D b aC H0 38 37 44 44 y_Writer_init prog_10_method_1_code 2 3 6 1580 [.ref (b + 37), .ref (b + 3)] w r := by
  refine fa_nenter (lv := [(0, .ref (b + 37)), (1, .ref (b + 3))]) (by decide +kernel) (Nat.le_of_ble_eq_true rfl) rfl (fun hh hle hsz hnm X => ?_)
  unfold fm_new_Writer_37 at hM
  refine g_aload_n X 0 rfl d_Writer_37_0 ?_
  refine g_objInit X wd_196 wd_32 wd_33 (Nat.le_trans (Nat.le_of_ble_eq_true rfl) hle) (Nat.le_of_ble_eq_true rfl) d_Writer_37_1 ?_
  refine g_aload_n X 0 rfl d_Writer_37_4 ?_
  refine g_new X (N1 := 39) (c1 := 1) (s1 := 2) (by omega) ck_6 fh_38 (by decide +kernel) (by decide +kernel) wd_197 wd_35 wd_2 rfl rfl rfl (Nat.le_of_ble_eq_true rfl) (Nat.le_of_ble_eq_true rfl) d_Writer_37_5 (fun w1 ew1 => ?_)
  have hM := fa_let_to hM ew1
  refine g_dup X rfl d_Writer_37_8 ?_
  refine g_sipush X (by decide) d_Writer_37_9 ?_
  obtain ⟨w2, ew2⟩ : ∃ q, fa_nw 39 (fa_st w1 38 1 0) = q := ⟨_, rfl⟩
  have hM := fa_let_to hM ew2.symm
  refine g_callN X (c1 := 2) (s1 := 1202) (by omega) mi_Row_init (n_Row_e 38 39 37 1200 1200 fh_38 (Nat.le_of_ble_eq_true rfl) fhs_39 (by decide +kernel) (by decide +kernel) (by decide +kernel) (by decide +kernel) (by decide) w1 _ ew2) wd_198 rfl (Nat.le_trans (Nat.le_of_ble_eq_true rfl) hle) (st := [.ref (b + 38), .ref (b + 37)]) (Nat.le_of_ble_eq_true rfl) rfl d_Writer_37_12 rfl rfl (Nat.le_of_ble_eq_true rfl) (Nat.le_of_ble_eq_true rfl) ?_
  refine g_putR X hnm ck_9 fh_37 (Nat.le_of_ble_eq_true rfl) 1 (by decide) wd_200 rfl rfl (by decide +kernel) (fa_ctR (t := 38) rfl (by decide +kernel) (by decide +kernel)) rfl rfl d_Writer_37_15 ?_
  refine g_aload_n X 0 rfl d_Writer_37_18 ?_
  refine g_new X (N1 := 41) (c1 := 3) (s1 := 1204) (by omega) ck_6 fh_40 (by decide +kernel) (by decide +kernel) wd_197 wd_35 wd_2 rfl rfl rfl (Nat.le_of_ble_eq_true rfl) (Nat.le_of_ble_eq_true rfl) d_Writer_37_19 (fun w3 ew3 => ?_)
  have hM := fa_let_to hM ew3
  refine g_dup X rfl d_Writer_37_22 ?_
  refine g_sipush X (by decide) d_Writer_37_23 ?_
  obtain ⟨w4, ew4⟩ : ∃ q, fa_nw 41 (fa_st w3 40 1 0) = q := ⟨_, rfl⟩
  have hM := fa_let_to hM ew4.symm
  refine g_callN X (c1 := 4) (s1 := 1504) (by omega) mi_Row_init (n_Row_e 40 41 39 300 300 fh_40 (Nat.le_of_ble_eq_true rfl) fhs_41 (by decide +kernel) (by decide +kernel) (by decide +kernel) (by decide +kernel) (by decide) w3 _ ew4) wd_198 rfl (Nat.le_trans (Nat.le_of_ble_eq_true rfl) hle) (st := [.ref (b + 40), .ref (b + 37)]) (Nat.le_of_ble_eq_true rfl) rfl d_Writer_37_26 rfl rfl (Nat.le_of_ble_eq_true rfl) (Nat.le_of_ble_eq_true rfl) ?_
  refine g_putR X hnm ck_9 fh_37 (Nat.le_of_ble_eq_true rfl) 2 (by decide) wd_201 rfl rfl (by decide +kernel) (fa_ctR (t := 40) rfl (by decide +kernel) (by decide +kernel)) rfl rfl d_Writer_37_29 ?_
  refine g_aload_n X 0 rfl d_Writer_37_32 ?_
  refine g_new X (N1 := 43) (c1 := 5) (s1 := 1506) (by omega) ck_6 fh_42 (by decide +kernel) (by decide +kernel) wd_197 wd_35 wd_2 rfl rfl rfl (Nat.le_of_ble_eq_true rfl) (Nat.le_of_ble_eq_true rfl) d_Writer_37_33 (fun w5 ew5 => ?_)
  have hM := fa_let_to hM ew5
  refine g_dup X rfl d_Writer_37_36 ?_
  refine g_bipush X (by decide) d_Writer_37_37 ?_
  obtain ⟨w6, ew6⟩ : ∃ q, fa_nw 43 (fa_st w5 42 1 0) = q := ⟨_, rfl⟩
  have hM := fa_let_to hM ew6.symm
  refine g_callN X (c1 := 6) (s1 := 1580) (by omega) mi_Row_init (n_Row_e 42 43 41 74 74 fh_42 (Nat.le_of_ble_eq_true rfl) fhs_43 (by decide +kernel) (by decide +kernel) (by decide +kernel) (by decide +kernel) (by decide) w5 _ ew6) wd_198 rfl (Nat.le_trans (Nat.le_of_ble_eq_true rfl) hle) (st := [.ref (b + 42), .ref (b + 37)]) (Nat.le_of_ble_eq_true rfl) rfl d_Writer_37_39 rfl rfl (Nat.le_of_ble_eq_true rfl) (Nat.le_of_ble_eq_true rfl) ?_
  refine g_putR X hnm ck_9 fh_37 (Nat.le_of_ble_eq_true rfl) 3 (by decide) wd_202 rfl rfl (by decide +kernel) (fa_ctR (t := 42) rfl (by decide +kernel) (by decide +kernel)) rfl rfl d_Writer_37_42 ?_
  refine g_aload_n X 0 rfl d_Writer_37_45 ?_
  refine g_iconst X d_Writer_37_46 ?_
  refine g_put X ck_9 fh_37 (Nat.le_of_ble_eq_true rfl) 4 (z := (-1)) (by decide) wd_203 rfl (fa_fvI' rfl) rfl rfl rfl d_Writer_37_47 (fun w7 ew7 => ?_)
  have hM := fa_let_to hM ew7
  refine g_aload_n X 0 rfl d_Writer_37_50 ?_
  refine g_aload_n X 1 rfl d_Writer_37_51 ?_
  refine g_putR X hnm ck_9 fh_37 (Nat.le_of_ble_eq_true rfl) 0 (by decide) wd_199 rfl rfl (by decide +kernel) (fa_ctR (t := 3) rfl (by decide +kernel) (by decide +kernel)) rfl rfl d_Writer_37_52 ?_
  subst hM
  exact g_cvret X d_Writer_37_55
theorem d_Machine_44_0 : decode prog_4_method_1_code 0 = .ok (.aload_n 0, 1) := by decide +kernel
theorem d_Machine_44_1 : decode prog_4_method_1_code 1 = .ok (.invokespecial 3, 3) := by decide +kernel
theorem d_Machine_44_4 : decode prog_4_method_1_code 4 = .ok (.aload_n 0, 1) := by decide +kernel
theorem d_Machine_44_5 : decode prog_4_method_1_code 5 = .ok (.new 9, 3) := by decide +kernel
theorem d_Machine_44_8 : decode prog_4_method_1_code 8 = .ok (.dup, 1) := by decide +kernel
theorem d_Machine_44_9 : decode prog_4_method_1_code 9 = .ok (.sipush 7474, 3) := by decide +kernel
theorem d_Machine_44_12 : decode prog_4_method_1_code 12 = .ok (.invokespecial 11, 3) := by decide +kernel
theorem d_Machine_44_15 : decode prog_4_method_1_code 15 = .ok (.putfield 14, 3) := by decide +kernel
theorem d_Machine_44_18 : decode prog_4_method_1_code 18 = .ok (.aload_n 0, 1) := by decide +kernel
theorem d_Machine_44_19 : decode prog_4_method_1_code 19 = .ok (.new 9, 3) := by decide +kernel
theorem d_Machine_44_22 : decode prog_4_method_1_code 22 = .ok (.dup, 1) := by decide +kernel
theorem d_Machine_44_23 : decode prog_4_method_1_code 23 = .ok (.sipush 5252, 3) := by decide +kernel
theorem d_Machine_44_26 : decode prog_4_method_1_code 26 = .ok (.invokespecial 11, 3) := by decide +kernel
theorem d_Machine_44_29 : decode prog_4_method_1_code 29 = .ok (.putfield 20, 3) := by decide +kernel
theorem d_Machine_44_32 : decode prog_4_method_1_code 32 = .ok (.aload_n 0, 1) := by decide +kernel
theorem d_Machine_44_33 : decode prog_4_method_1_code 33 = .ok (.new 9, 3) := by decide +kernel
theorem d_Machine_44_36 : decode prog_4_method_1_code 36 = .ok (.dup, 1) := by decide +kernel
theorem d_Machine_44_37 : decode prog_4_method_1_code 37 = .ok (.sipush 5252, 3) := by decide +kernel
theorem d_Machine_44_40 : decode prog_4_method_1_code 40 = .ok (.invokespecial 11, 3) := by decide +kernel
theorem d_Machine_44_43 : decode prog_4_method_1_code 43 = .ok (.putfield 23, 3) := by decide +kernel
theorem d_Machine_44_46 : decode prog_4_method_1_code 46 = .ok (.aload_n 0, 1) := by decide +kernel
theorem d_Machine_44_47 : decode prog_4_method_1_code 47 = .ok (.new 9, 3) := by decide +kernel
theorem d_Machine_44_50 : decode prog_4_method_1_code 50 = .ok (.dup, 1) := by decide +kernel
theorem d_Machine_44_51 : decode prog_4_method_1_code 51 = .ok (.bipush 100, 2) := by decide +kernel
theorem d_Machine_44_53 : decode prog_4_method_1_code 53 = .ok (.invokespecial 11, 3) := by decide +kernel
theorem d_Machine_44_56 : decode prog_4_method_1_code 56 = .ok (.putfield 26, 3) := by decide +kernel
theorem d_Machine_44_59 : decode prog_4_method_1_code 59 = .ok (.aload_n 0, 1) := by decide +kernel
theorem d_Machine_44_60 : decode prog_4_method_1_code 60 = .ok (.new 9, 3) := by decide +kernel
theorem d_Machine_44_63 : decode prog_4_method_1_code 63 = .ok (.dup, 1) := by decide +kernel
theorem d_Machine_44_64 : decode prog_4_method_1_code 64 = .ok (.bipush 100, 2) := by decide +kernel
theorem d_Machine_44_66 : decode prog_4_method_1_code 66 = .ok (.invokespecial 11, 3) := by decide +kernel
theorem d_Machine_44_69 : decode prog_4_method_1_code 69 = .ok (.putfield 29, 3) := by decide +kernel
theorem d_Machine_44_72 : decode prog_4_method_1_code 72 = .ok (.aload_n 0, 1) := by decide +kernel
theorem d_Machine_44_73 : decode prog_4_method_1_code 73 = .ok (.iconst (-1), 1) := by decide +kernel
theorem d_Machine_44_74 : decode prog_4_method_1_code 74 = .ok (.putfield 32, 3) := by decide +kernel
theorem d_Machine_44_77 : decode prog_4_method_1_code 77 = .ok (.aload_n 0, 1) := by decide +kernel
theorem d_Machine_44_78 : decode prog_4_method_1_code 78 = .ok (.iconst 0, 1) := by decide +kernel
theorem d_Machine_44_79 : decode prog_4_method_1_code 79 = .ok (.putfield 36, 3) := by decide +kernel
theorem d_Machine_44_82 : decode prog_4_method_1_code 82 = .ok (.aload_n 0, 1) := by decide +kernel
theorem d_Machine_44_83 : decode prog_4_method_1_code 83 = .ok (.iconst (-1), 1) := by decide +kernel
theorem d_Machine_44_84 : decode prog_4_method_1_code 84 = .ok (.putfield 39, 3) := by decide +kernel
theorem d_Machine_44_87 : decode prog_4_method_1_code 87 = .ok (.aload_n 0, 1) := by decide +kernel
theorem d_Machine_44_88 : decode prog_4_method_1_code 88 = .ok (.iconst 0, 1) := by decide +kernel
theorem d_Machine_44_89 : decode prog_4_method_1_code 89 = .ok (.putfield 42, 3) := by decide +kernel
theorem d_Machine_44_92 : decode prog_4_method_1_code 92 = .ok (.aload_n 0, 1) := by decide +kernel
theorem d_Machine_44_93 : decode prog_4_method_1_code 93 = .ok (.iconst 0, 1) := by decide +kernel
theorem d_Machine_44_94 : decode prog_4_method_1_code 94 = .ok (.putfield 45, 3) := by decide +kernel
theorem d_Machine_44_97 : decode prog_4_method_1_code 97 = .ok (.aload_n 0, 1) := by decide +kernel
theorem d_Machine_44_98 : decode prog_4_method_1_code 98 = .ok (.iconst 0, 1) := by decide +kernel
theorem d_Machine_44_99 : decode prog_4_method_1_code 99 = .ok (.putfield 48, 3) := by decide +kernel
theorem d_Machine_44_102 : decode prog_4_method_1_code 102 = .ok (.aload_n 0, 1) := by decide +kernel
theorem d_Machine_44_103 : decode prog_4_method_1_code 103 = .ok (.iconst 0, 1) := by decide +kernel
theorem d_Machine_44_104 : decode prog_4_method_1_code 104 = .ok (.putfield 51, 3) := by decide +kernel
theorem d_Machine_44_107 : decode prog_4_method_1_code 107 = .ok (.aload_n 0, 1) := by decide +kernel
theorem d_Machine_44_108 : decode prog_4_method_1_code 108 = .ok (.getfield 14, 3) := by decide +kernel
theorem d_Machine_44_111 : decode prog_4_method_1_code 111 = .ok (.sipush 7474, 3) := by decide +kernel
theorem d_Machine_44_114 : decode prog_4_method_1_code 114 = .ok (.iconst 0, 1) := by decide +kernel
theorem d_Machine_44_115 : decode prog_4_method_1_code 115 = .ok (.invokevirtual 54, 3) := by decide +kernel
theorem d_Machine_44_118 : decode prog_4_method_1_code 118 = .ok (.return_, 1) := by decide +kernel
def fm_new_Machine_44 (w : fa_W) : fa_W :=
  fa_let (fa_nw 45 w) fun w1 =>
  fa_let (fa_nw 46 (fa_st w1 45 1 0)) fun w2 =>
  fa_let (fa_nw 47 w2) fun w3 =>
  fa_let (fa_nw 48 (fa_st w3 47 1 0)) fun w4 =>
  fa_let (fa_nw 49 w4) fun w5 =>
  fa_let (fa_nw 50 (fa_st w5 49 1 0)) fun w6 =>
  fa_let (fa_nw 51 w6) fun w7 =>
  fa_let (fa_nw 52 (fa_st w7 51 1 0)) fun w8 =>
  fa_let (fa_nw 53 w8) fun w9 =>
  fa_let (fa_nw 54 (fa_st w9 53 1 0)) fun w10 =>
  fa_let (fa_st w10 44 5 (-1)) fun w11 =>
  fa_let (fa_st w11 44 6 0) fun w12 =>
  fa_let (fa_st w12 44 7 (-1)) fun w13 =>
  fa_let (fa_st w13 44 8 0) fun w14 =>
  fa_let (fa_st w14 44 9 0) fun w15 =>
  fa_let (fa_st w15 44 10 0) fun w16 =>
  fa_let (fa_st w16 44 11 0) fun w17 =>
  fa_let (fr_refill 45 7474 0 w17) fun w19 =>
  w19
set_option maxHeartbeats 4000000 in
set_option maxRecDepth 100000 in
theorem n_Machine_44 {l : Launch} {D : va_G} {b : Nat} {aC : Nat → ClassId} {H0 : Heap} (w r : fa_W) (hM : fm_new_Machine_44 w = r) : fa_NC l D b aC H0 45 45 55 55 y_Machine_init prog_4_method_1_code 1 3 10 18188 [.ref (b + 44)] w r := by
  refine fa_nenter (lv := [(0, .ref (b + 44))]) (by decide +kernel) (Nat.le_of_ble_eq_true rfl) rfl (fun hh hle hsz hnm X => ?_)
  unfold fm_new_Machine_44 at hM
  refine g_aload_n X 0 rfl d_Machine_44_0 ?_
  refine g_objInit X wd_220 wd_32 wd_33 (Nat.le_trans (Nat.le_of_ble_eq_true rfl) hle) (Nat.le_of_ble_eq_true rfl) d_Machine_44_1 ?_
  refine g_aload_n X 0 rfl d_Machine_44_4 ?_
  refine g_new X (N1 := 46) (c1 := 1) (s1 := 2) (by omega) ck_6 fh_45 (by decide +kernel) (by decide +kernel) wd_221 wd_35 wd_2 rfl rfl rfl (Nat.le_of_ble_eq_true rfl) (Nat.le_of_ble_eq_true rfl) d_Machine_44_5 (fun w1 ew1 => ?_)
  have hM := fa_let_to hM ew1
  refine g_dup X rfl d_Machine_44_8 ?_
  refine g_sipush X (by decide) d_Machine_44_9 ?_
  obtain ⟨w2, ew2⟩ : ∃ q, fa_nw 46 (fa_st w1 45 1 0) = q := ⟨_, rfl⟩
  have hM := fa_let_to hM ew2.symm
  refine g_callN X (c1 := 2) (s1 := 7476) (by omega) mi_Row_init (n_Row_e 45 46 45 7474 7474 fh_45 (Nat.le_of_ble_eq_true rfl) fhs_46 (by decide +kernel) (by decide +kernel) (by decide +kernel) (by decide +kernel) (by decide) w1 _ ew2) wd_222 rfl (Nat.le_trans (Nat.le_of_ble_eq_true rfl) hle) (st := [.ref (b + 45), .ref (b + 44)]) (Nat.le_of_ble_eq_true rfl) rfl d_Machine_44_12 rfl rfl (Nat.le_of_ble_eq_true rfl) (Nat.le_of_ble_eq_true rfl) ?_
  refine g_putR X hnm ck_3 fh_44 (Nat.le_of_ble_eq_true rfl) 0 (by decide) wd_235 rfl rfl (by decide +kernel) (fa_ctR (t := 45) rfl (by decide +kernel) (by decide +kernel)) rfl rfl d_Machine_44_15 ?_
  refine g_aload_n X 0 rfl d_Machine_44_18 ?_
  refine g_new X (N1 := 48) (c1 := 3) (s1 := 7478) (by omega) ck_6 fh_47 (by decide +kernel) (by decide +kernel) wd_221 wd_35 wd_2 rfl rfl rfl (Nat.le_of_ble_eq_true rfl) (Nat.le_of_ble_eq_true rfl) d_Machine_44_19 (fun w3 ew3 => ?_)
  have hM := fa_let_to hM ew3
  refine g_dup X rfl d_Machine_44_22 ?_
  refine g_sipush X (by decide) d_Machine_44_23 ?_
  obtain ⟨w4, ew4⟩ : ∃ q, fa_nw 48 (fa_st w3 47 1 0) = q := ⟨_, rfl⟩
  have hM := fa_let_to hM ew4.symm
  refine g_callN X (c1 := 4) (s1 := 12730) (by omega) mi_Row_init (n_Row_e 47 48 47 5252 5252 fh_47 (Nat.le_of_ble_eq_true rfl) fhs_48 (by decide +kernel) (by decide +kernel) (by decide +kernel) (by decide +kernel) (by decide) w3 _ ew4) wd_222 rfl (Nat.le_trans (Nat.le_of_ble_eq_true rfl) hle) (st := [.ref (b + 47), .ref (b + 44)]) (Nat.le_of_ble_eq_true rfl) rfl d_Machine_44_26 rfl rfl (Nat.le_of_ble_eq_true rfl) (Nat.le_of_ble_eq_true rfl) ?_
  refine g_putR X hnm ck_3 fh_44 (Nat.le_of_ble_eq_true rfl) 1 (by decide) wd_236 rfl rfl (by decide +kernel) (fa_ctR (t := 47) rfl (by decide +kernel) (by decide +kernel)) rfl rfl d_Machine_44_29 ?_
  refine g_aload_n X 0 rfl d_Machine_44_32 ?_
  refine g_new X (N1 := 50) (c1 := 5) (s1 := 12732) (by omega) ck_6 fh_49 (by decide +kernel) (by decide +kernel) wd_221 wd_35 wd_2 rfl rfl rfl (Nat.le_of_ble_eq_true rfl) (Nat.le_of_ble_eq_true rfl) d_Machine_44_33 (fun w5 ew5 => ?_)
  have hM := fa_let_to hM ew5
  refine g_dup X rfl d_Machine_44_36 ?_
  refine g_sipush X (by decide) d_Machine_44_37 ?_
  obtain ⟨w6, ew6⟩ : ∃ q, fa_nw 50 (fa_st w5 49 1 0) = q := ⟨_, rfl⟩
  have hM := fa_let_to hM ew6.symm
  refine g_callN X (c1 := 6) (s1 := 17984) (by omega) mi_Row_init (n_Row_e 49 50 49 5252 5252 fh_49 (Nat.le_of_ble_eq_true rfl) fhs_50 (by decide +kernel) (by decide +kernel) (by decide +kernel) (by decide +kernel) (by decide) w5 _ ew6) wd_222 rfl (Nat.le_trans (Nat.le_of_ble_eq_true rfl) hle) (st := [.ref (b + 49), .ref (b + 44)]) (Nat.le_of_ble_eq_true rfl) rfl d_Machine_44_40 rfl rfl (Nat.le_of_ble_eq_true rfl) (Nat.le_of_ble_eq_true rfl) ?_
  refine g_putR X hnm ck_3 fh_44 (Nat.le_of_ble_eq_true rfl) 2 (by decide) wd_237 rfl rfl (by decide +kernel) (fa_ctR (t := 49) rfl (by decide +kernel) (by decide +kernel)) rfl rfl d_Machine_44_43 ?_
  refine g_aload_n X 0 rfl d_Machine_44_46 ?_
  refine g_new X (N1 := 52) (c1 := 7) (s1 := 17986) (by omega) ck_6 fh_51 (by decide +kernel) (by decide +kernel) wd_221 wd_35 wd_2 rfl rfl rfl (Nat.le_of_ble_eq_true rfl) (Nat.le_of_ble_eq_true rfl) d_Machine_44_47 (fun w7 ew7 => ?_)
  have hM := fa_let_to hM ew7
  refine g_dup X rfl d_Machine_44_50 ?_
  refine g_bipush X (by decide) d_Machine_44_51 ?_
  obtain ⟨w8, ew8⟩ : ∃ q, fa_nw 52 (fa_st w7 51 1 0) = q := ⟨_, rfl⟩
  have hM := fa_let_to hM ew8.symm
  refine g_callN X (c1 := 8) (s1 := 18086) (by omega) mi_Row_init (n_Row_e 51 52 51 100 100 fh_51 (Nat.le_of_ble_eq_true rfl) fhs_52 (by decide +kernel) (by decide +kernel) (by decide +kernel) (by decide +kernel) (by decide) w7 _ ew8) wd_222 rfl (Nat.le_trans (Nat.le_of_ble_eq_true rfl) hle) (st := [.ref (b + 51), .ref (b + 44)]) (Nat.le_of_ble_eq_true rfl) rfl d_Machine_44_53 rfl rfl (Nat.le_of_ble_eq_true rfl) (Nat.le_of_ble_eq_true rfl) ?_
  refine g_putR X hnm ck_3 fh_44 (Nat.le_of_ble_eq_true rfl) 3 (by decide) wd_238 rfl rfl (by decide +kernel) (fa_ctR (t := 51) rfl (by decide +kernel) (by decide +kernel)) rfl rfl d_Machine_44_56 ?_
  refine g_aload_n X 0 rfl d_Machine_44_59 ?_
  refine g_new X (N1 := 54) (c1 := 9) (s1 := 18088) (by omega) ck_6 fh_53 (by decide +kernel) (by decide +kernel) wd_221 wd_35 wd_2 rfl rfl rfl (Nat.le_of_ble_eq_true rfl) (Nat.le_of_ble_eq_true rfl) d_Machine_44_60 (fun w9 ew9 => ?_)
  have hM := fa_let_to hM ew9
  refine g_dup X rfl d_Machine_44_63 ?_
  refine g_bipush X (by decide) d_Machine_44_64 ?_
  obtain ⟨w10, ew10⟩ : ∃ q, fa_nw 54 (fa_st w9 53 1 0) = q := ⟨_, rfl⟩
  have hM := fa_let_to hM ew10.symm
  refine g_callN X (c1 := 10) (s1 := 18188) (by omega) mi_Row_init (n_Row_e 53 54 53 100 100 fh_53 (Nat.le_of_ble_eq_true rfl) fhs_54 (by decide +kernel) (by decide +kernel) (by decide +kernel) (by decide +kernel) (by decide) w9 _ ew10) wd_222 rfl (Nat.le_trans (Nat.le_of_ble_eq_true rfl) hle) (st := [.ref (b + 53), .ref (b + 44)]) (Nat.le_of_ble_eq_true rfl) rfl d_Machine_44_66 rfl rfl (Nat.le_of_ble_eq_true rfl) (Nat.le_of_ble_eq_true rfl) ?_
  refine g_putR X hnm ck_3 fh_44 (Nat.le_of_ble_eq_true rfl) 4 (by decide) wd_239 rfl rfl (by decide +kernel) (fa_ctR (t := 53) rfl (by decide +kernel) (by decide +kernel)) rfl rfl d_Machine_44_69 ?_
  refine g_aload_n X 0 rfl d_Machine_44_72 ?_
  refine g_iconst X d_Machine_44_73 ?_
  refine g_put X ck_3 fh_44 (Nat.le_of_ble_eq_true rfl) 5 (z := (-1)) (by decide) wd_240 rfl (fa_fvI' rfl) rfl rfl rfl d_Machine_44_74 (fun w11 ew11 => ?_)
  have hM := fa_let_to hM ew11
  refine g_aload_n X 0 rfl d_Machine_44_77 ?_
  refine g_iconst X d_Machine_44_78 ?_
  refine g_put X ck_3 fh_44 (Nat.le_of_ble_eq_true rfl) 6 (z := 0) (by decide) wd_241 rfl (fa_fvI' rfl) rfl rfl rfl d_Machine_44_79 (fun w12 ew12 => ?_)
  have hM := fa_let_to hM ew12
  refine g_aload_n X 0 rfl d_Machine_44_82 ?_
  refine g_iconst X d_Machine_44_83 ?_
  refine g_put X ck_3 fh_44 (Nat.le_of_ble_eq_true rfl) 7 (z := (-1)) (by decide) wd_242 rfl (fa_fvI' rfl) rfl rfl rfl d_Machine_44_84 (fun w13 ew13 => ?_)
  have hM := fa_let_to hM ew13
  refine g_aload_n X 0 rfl d_Machine_44_87 ?_
  refine g_iconst X d_Machine_44_88 ?_
  refine g_put X ck_3 fh_44 (Nat.le_of_ble_eq_true rfl) 8 (z := 0) (by decide) wd_244 rfl (fa_fvI' rfl) rfl rfl rfl d_Machine_44_89 (fun w14 ew14 => ?_)
  have hM := fa_let_to hM ew14
  refine g_aload_n X 0 rfl d_Machine_44_92 ?_
  refine g_iconst X d_Machine_44_93 ?_
  refine g_put X ck_3 fh_44 (Nat.le_of_ble_eq_true rfl) 9 (z := 0) (by decide) wd_246 rfl (fa_fvI' rfl) rfl rfl rfl d_Machine_44_94 (fun w15 ew15 => ?_)
  have hM := fa_let_to hM ew15
  refine g_aload_n X 0 rfl d_Machine_44_97 ?_
  refine g_iconst X d_Machine_44_98 ?_
  refine g_put X ck_3 fh_44 (Nat.le_of_ble_eq_true rfl) 10 (z := 0) (by decide) wd_248 rfl (fa_fvI' rfl) rfl rfl rfl d_Machine_44_99 (fun w16 ew16 => ?_)
  have hM := fa_let_to hM ew16
  refine g_aload_n X 0 rfl d_Machine_44_102 ?_
  refine g_iconst X d_Machine_44_103 ?_
  refine g_put X ck_3 fh_44 (Nat.le_of_ble_eq_true rfl) 11 (z := 0) (by decide) wd_250 rfl (fa_fvI' rfl) rfl rfl rfl d_Machine_44_104 (fun w17 ew17 => ?_)
  have hM := fa_let_to hM ew17
  refine g_aload_n X 0 rfl d_Machine_44_107 ?_
  refine g_get X ck_3 fh_44 (Nat.le_of_ble_eq_true rfl) 0 (by decide) wd_235 rfl (v := .ref (b + 45)) (fa_ctR (t := 45) rfl (by decide +kernel) (by decide +kernel)) d_Machine_44_108 ?_
  refine g_sipush X (by decide) d_Machine_44_111 ?_
  refine g_iconst X d_Machine_44_114 ?_
  obtain ⟨w19, e18⟩ : ∃ q, fr_refill 45 7474 0 w17 = q := ⟨_, rfl⟩
  have hM := fa_let_to hM e18.symm
  refine g_callV X ck_6 fh_45 (Nat.le_of_ble_eq_true rfl) rfl mi_Row_refill (ct_Row_refill 45 7474 0 (show fa_RO 45 55 55 from ⟨fh_45, (Nat.le_of_ble_eq_true rfl), by decide +kernel, by decide +kernel, by decide +kernel⟩) w17 _ e18) wd_223 rfl (Nat.le_trans (Nat.le_of_ble_eq_true rfl) hle) (ov := none) (st := []) (Nat.le_of_ble_eq_true rfl) rfl d_Machine_44_115 (Nat.le_of_ble_eq_true rfl) (Nat.le_of_ble_eq_true rfl) ?_
  subst hM
  exact g_cvret X d_Machine_44_118
theorem d_Program_56_0 : decode prog_5_method_1_code 0 = .ok (.aload_n 0, 1) := by decide +kernel
theorem d_Program_56_1 : decode prog_5_method_1_code 1 = .ok (.invokespecial 3, 3) := by decide +kernel
theorem d_Program_56_4 : decode prog_5_method_1_code 4 = .ok (.aload_n 0, 1) := by decide +kernel
theorem d_Program_56_5 : decode prog_5_method_1_code 5 = .ok (.new 9, 3) := by decide +kernel
theorem d_Program_56_8 : decode prog_5_method_1_code 8 = .ok (.dup, 1) := by decide +kernel
theorem d_Program_56_9 : decode prog_5_method_1_code 9 = .ok (.bipush 100, 2) := by decide +kernel
theorem d_Program_56_11 : decode prog_5_method_1_code 11 = .ok (.invokespecial 11, 3) := by decide +kernel
theorem d_Program_56_14 : decode prog_5_method_1_code 14 = .ok (.putfield 14, 3) := by decide +kernel
theorem d_Program_56_17 : decode prog_5_method_1_code 17 = .ok (.aload_n 0, 1) := by decide +kernel
theorem d_Program_56_18 : decode prog_5_method_1_code 18 = .ok (.new 9, 3) := by decide +kernel
theorem d_Program_56_21 : decode prog_5_method_1_code 21 = .ok (.dup, 1) := by decide +kernel
theorem d_Program_56_22 : decode prog_5_method_1_code 22 = .ok (.bipush 100, 2) := by decide +kernel
theorem d_Program_56_24 : decode prog_5_method_1_code 24 = .ok (.invokespecial 11, 3) := by decide +kernel
theorem d_Program_56_27 : decode prog_5_method_1_code 27 = .ok (.putfield 20, 3) := by decide +kernel
theorem d_Program_56_30 : decode prog_5_method_1_code 30 = .ok (.aload_n 0, 1) := by decide +kernel
theorem d_Program_56_31 : decode prog_5_method_1_code 31 = .ok (.new 9, 3) := by decide +kernel
theorem d_Program_56_34 : decode prog_5_method_1_code 34 = .ok (.dup, 1) := by decide +kernel
theorem d_Program_56_35 : decode prog_5_method_1_code 35 = .ok (.bipush 100, 2) := by decide +kernel
theorem d_Program_56_37 : decode prog_5_method_1_code 37 = .ok (.invokespecial 11, 3) := by decide +kernel
theorem d_Program_56_40 : decode prog_5_method_1_code 40 = .ok (.putfield 23, 3) := by decide +kernel
theorem d_Program_56_43 : decode prog_5_method_1_code 43 = .ok (.aload_n 0, 1) := by decide +kernel
theorem d_Program_56_44 : decode prog_5_method_1_code 44 = .ok (.new 9, 3) := by decide +kernel
theorem d_Program_56_47 : decode prog_5_method_1_code 47 = .ok (.dup, 1) := by decide +kernel
theorem d_Program_56_48 : decode prog_5_method_1_code 48 = .ok (.bipush 100, 2) := by decide +kernel
theorem d_Program_56_50 : decode prog_5_method_1_code 50 = .ok (.invokespecial 11, 3) := by decide +kernel
theorem d_Program_56_53 : decode prog_5_method_1_code 53 = .ok (.putfield 26, 3) := by decide +kernel
theorem d_Program_56_56 : decode prog_5_method_1_code 56 = .ok (.aload_n 0, 1) := by decide +kernel
theorem d_Program_56_57 : decode prog_5_method_1_code 57 = .ok (.new 9, 3) := by decide +kernel
theorem d_Program_56_60 : decode prog_5_method_1_code 60 = .ok (.dup, 1) := by decide +kernel
theorem d_Program_56_61 : decode prog_5_method_1_code 61 = .ok (.sipush 300, 3) := by decide +kernel
theorem d_Program_56_64 : decode prog_5_method_1_code 64 = .ok (.invokespecial 11, 3) := by decide +kernel
theorem d_Program_56_67 : decode prog_5_method_1_code 67 = .ok (.putfield 29, 3) := by decide +kernel
theorem d_Program_56_70 : decode prog_5_method_1_code 70 = .ok (.aload_n 0, 1) := by decide +kernel
theorem d_Program_56_71 : decode prog_5_method_1_code 71 = .ok (.new 9, 3) := by decide +kernel
theorem d_Program_56_74 : decode prog_5_method_1_code 74 = .ok (.dup, 1) := by decide +kernel
theorem d_Program_56_75 : decode prog_5_method_1_code 75 = .ok (.bipush 100, 2) := by decide +kernel
theorem d_Program_56_77 : decode prog_5_method_1_code 77 = .ok (.invokespecial 11, 3) := by decide +kernel
theorem d_Program_56_80 : decode prog_5_method_1_code 80 = .ok (.putfield 32, 3) := by decide +kernel
theorem d_Program_56_83 : decode prog_5_method_1_code 83 = .ok (.aload_n 0, 1) := by decide +kernel
theorem d_Program_56_84 : decode prog_5_method_1_code 84 = .ok (.new 9, 3) := by decide +kernel
theorem d_Program_56_87 : decode prog_5_method_1_code 87 = .ok (.dup, 1) := by decide +kernel
theorem d_Program_56_88 : decode prog_5_method_1_code 88 = .ok (.bipush 74, 2) := by decide +kernel
theorem d_Program_56_90 : decode prog_5_method_1_code 90 = .ok (.invokespecial 11, 3) := by decide +kernel
theorem d_Program_56_93 : decode prog_5_method_1_code 93 = .ok (.putfield 35, 3) := by decide +kernel
theorem d_Program_56_96 : decode prog_5_method_1_code 96 = .ok (.aload_n 0, 1) := by decide +kernel
theorem d_Program_56_97 : decode prog_5_method_1_code 97 = .ok (.new 9, 3) := by decide +kernel
theorem d_Program_56_100 : decode prog_5_method_1_code 100 = .ok (.dup, 1) := by decide +kernel
theorem d_Program_56_101 : decode prog_5_method_1_code 101 = .ok (.bipush 74, 2) := by decide +kernel
theorem d_Program_56_103 : decode prog_5_method_1_code 103 = .ok (.invokespecial 11, 3) := by decide +kernel
theorem d_Program_56_106 : decode prog_5_method_1_code 106 = .ok (.putfield 38, 3) := by decide +kernel
theorem d_Program_56_109 : decode prog_5_method_1_code 109 = .ok (.aload_n 0, 1) := by decide +kernel
theorem d_Program_56_110 : decode prog_5_method_1_code 110 = .ok (.new 9, 3) := by decide +kernel
theorem d_Program_56_113 : decode prog_5_method_1_code 113 = .ok (.dup, 1) := by decide +kernel
theorem d_Program_56_114 : decode prog_5_method_1_code 114 = .ok (.bipush 6, 2) := by decide +kernel
theorem d_Program_56_116 : decode prog_5_method_1_code 116 = .ok (.invokespecial 11, 3) := by decide +kernel
theorem d_Program_56_119 : decode prog_5_method_1_code 119 = .ok (.putfield 41, 3) := by decide +kernel
theorem d_Program_56_122 : decode prog_5_method_1_code 122 = .ok (.aload_n 0, 1) := by decide +kernel
theorem d_Program_56_123 : decode prog_5_method_1_code 123 = .ok (.new 9, 3) := by decide +kernel
theorem d_Program_56_126 : decode prog_5_method_1_code 126 = .ok (.dup, 1) := by decide +kernel
theorem d_Program_56_127 : decode prog_5_method_1_code 127 = .ok (.bipush 24, 2) := by decide +kernel
theorem d_Program_56_129 : decode prog_5_method_1_code 129 = .ok (.invokespecial 11, 3) := by decide +kernel
theorem d_Program_56_132 : decode prog_5_method_1_code 132 = .ok (.putfield 44, 3) := by decide +kernel
theorem d_Program_56_135 : decode prog_5_method_1_code 135 = .ok (.aload_n 0, 1) := by decide +kernel
theorem d_Program_56_136 : decode prog_5_method_1_code 136 = .ok (.new 9, 3) := by decide +kernel
theorem d_Program_56_139 : decode prog_5_method_1_code 139 = .ok (.dup, 1) := by decide +kernel
theorem d_Program_56_140 : decode prog_5_method_1_code 140 = .ok (.bipush 24, 2) := by decide +kernel
theorem d_Program_56_142 : decode prog_5_method_1_code 142 = .ok (.invokespecial 11, 3) := by decide +kernel
theorem d_Program_56_145 : decode prog_5_method_1_code 145 = .ok (.putfield 47, 3) := by decide +kernel
theorem d_Program_56_148 : decode prog_5_method_1_code 148 = .ok (.aload_n 0, 1) := by decide +kernel
theorem d_Program_56_149 : decode prog_5_method_1_code 149 = .ok (.new 9, 3) := by decide +kernel
theorem d_Program_56_152 : decode prog_5_method_1_code 152 = .ok (.dup, 1) := by decide +kernel
theorem d_Program_56_153 : decode prog_5_method_1_code 153 = .ok (.bipush 100, 2) := by decide +kernel
theorem d_Program_56_155 : decode prog_5_method_1_code 155 = .ok (.invokespecial 11, 3) := by decide +kernel
theorem d_Program_56_158 : decode prog_5_method_1_code 158 = .ok (.putfield 50, 3) := by decide +kernel
theorem d_Program_56_161 : decode prog_5_method_1_code 161 = .ok (.aload_n 0, 1) := by decide +kernel
theorem d_Program_56_162 : decode prog_5_method_1_code 162 = .ok (.new 9, 3) := by decide +kernel
theorem d_Program_56_165 : decode prog_5_method_1_code 165 = .ok (.dup, 1) := by decide +kernel
theorem d_Program_56_166 : decode prog_5_method_1_code 166 = .ok (.bipush 100, 2) := by decide +kernel
theorem d_Program_56_168 : decode prog_5_method_1_code 168 = .ok (.invokespecial 11, 3) := by decide +kernel
theorem d_Program_56_171 : decode prog_5_method_1_code 171 = .ok (.putfield 53, 3) := by decide +kernel
theorem d_Program_56_174 : decode prog_5_method_1_code 174 = .ok (.aload_n 0, 1) := by decide +kernel
theorem d_Program_56_175 : decode prog_5_method_1_code 175 = .ok (.iconst 0, 1) := by decide +kernel
theorem d_Program_56_176 : decode prog_5_method_1_code 176 = .ok (.putfield 56, 3) := by decide +kernel
theorem d_Program_56_179 : decode prog_5_method_1_code 179 = .ok (.aload_n 0, 1) := by decide +kernel
theorem d_Program_56_180 : decode prog_5_method_1_code 180 = .ok (.iconst 0, 1) := by decide +kernel
theorem d_Program_56_181 : decode prog_5_method_1_code 181 = .ok (.putfield 60, 3) := by decide +kernel
theorem d_Program_56_184 : decode prog_5_method_1_code 184 = .ok (.aload_n 0, 1) := by decide +kernel
theorem d_Program_56_185 : decode prog_5_method_1_code 185 = .ok (.iconst 0, 1) := by decide +kernel
theorem d_Program_56_186 : decode prog_5_method_1_code 186 = .ok (.putfield 63, 3) := by decide +kernel
theorem d_Program_56_189 : decode prog_5_method_1_code 189 = .ok (.aload_n 0, 1) := by decide +kernel
theorem d_Program_56_190 : decode prog_5_method_1_code 190 = .ok (.iconst (-1), 1) := by decide +kernel
theorem d_Program_56_191 : decode prog_5_method_1_code 191 = .ok (.putfield 66, 3) := by decide +kernel
theorem d_Program_56_194 : decode prog_5_method_1_code 194 = .ok (.return_, 1) := by decide +kernel
def fm_new_Program_56 (w : fa_W) : fa_W :=
  fa_let (fa_nw 57 w) fun w1 =>
  fa_let (fa_nw 58 (fa_st w1 57 1 0)) fun w2 =>
  fa_let (fa_nw 59 w2) fun w3 =>
  fa_let (fa_nw 60 (fa_st w3 59 1 0)) fun w4 =>
  fa_let (fa_nw 61 w4) fun w5 =>
  fa_let (fa_nw 62 (fa_st w5 61 1 0)) fun w6 =>
  fa_let (fa_nw 63 w6) fun w7 =>
  fa_let (fa_nw 64 (fa_st w7 63 1 0)) fun w8 =>
  fa_let (fa_nw 65 w8) fun w9 =>
  fa_let (fa_nw 66 (fa_st w9 65 1 0)) fun w10 =>
  fa_let (fa_nw 67 w10) fun w11 =>
  fa_let (fa_nw 68 (fa_st w11 67 1 0)) fun w12 =>
  fa_let (fa_nw 69 w12) fun w13 =>
  fa_let (fa_nw 70 (fa_st w13 69 1 0)) fun w14 =>
  fa_let (fa_nw 71 w14) fun w15 =>
  fa_let (fa_nw 72 (fa_st w15 71 1 0)) fun w16 =>
  fa_let (fa_nw 73 w16) fun w17 =>
  fa_let (fa_nw 74 (fa_st w17 73 1 0)) fun w18 =>
  fa_let (fa_nw 75 w18) fun w19 =>
  fa_let (fa_nw 76 (fa_st w19 75 1 0)) fun w20 =>
  fa_let (fa_nw 77 w20) fun w21 =>
  fa_let (fa_nw 78 (fa_st w21 77 1 0)) fun w22 =>
  fa_let (fa_nw 79 w22) fun w23 =>
  fa_let (fa_nw 80 (fa_st w23 79 1 0)) fun w24 =>
  fa_let (fa_nw 81 w24) fun w25 =>
  fa_let (fa_nw 82 (fa_st w25 81 1 0)) fun w26 =>
  fa_let (fa_st w26 56 13 0) fun w27 =>
  fa_let (fa_st w27 56 14 0) fun w28 =>
  fa_let (fa_st w28 56 15 0) fun w29 =>
  fa_let (fa_st w29 56 16 (-1)) fun w30 =>
  w30
set_option maxHeartbeats 4000000 in
set_option maxRecDepth 100000 in
theorem n_Program_56 {l : Launch} {D : va_G} {b : Nat} {aC : Nat → ClassId} {H0 : Heap} (w r : fa_W) (hM : fm_new_Program_56 w = r) : fa_NC l D b aC H0 57 56 83 82 y_Program_init prog_5_method_1_code 1 3 26 1228 [.ref (b + 56)] w r := by
  refine fa_nenter (lv := [(0, .ref (b + 56))]) (by decide +kernel) (Nat.le_of_ble_eq_true rfl) rfl (fun hh hle hsz hnm X => ?_)
  unfold fm_new_Program_56 at hM
  refine g_aload_n X 0 rfl d_Program_56_0 ?_
  refine g_objInit X wd_62 wd_32 wd_33 (Nat.le_trans (Nat.le_of_ble_eq_true rfl) hle) (Nat.le_of_ble_eq_true rfl) d_Program_56_1 ?_
  refine g_aload_n X 0 rfl d_Program_56_4 ?_
  refine g_new X (N1 := 58) (c1 := 1) (s1 := 2) (by omega) ck_6 fh_57 (by decide +kernel) (by decide +kernel) wd_63 wd_35 wd_2 rfl rfl rfl (Nat.le_of_ble_eq_true rfl) (Nat.le_of_ble_eq_true rfl) d_Program_56_5 (fun w1 ew1 => ?_)
  have hM := fa_let_to hM ew1
  refine g_dup X rfl d_Program_56_8 ?_
  refine g_bipush X (by decide) d_Program_56_9 ?_
  obtain ⟨w2, ew2⟩ : ∃ q, fa_nw 58 (fa_st w1 57 1 0) = q := ⟨_, rfl⟩
  have hM := fa_let_to hM ew2.symm
  refine g_callN X (c1 := 2) (s1 := 102) (by omega) mi_Row_init (n_Row_e 57 58 56 100 100 fh_57 (Nat.le_of_ble_eq_true rfl) fhs_58 (by decide +kernel) (by decide +kernel) (by decide +kernel) (by decide +kernel) (by decide) w1 _ ew2) wd_64 rfl (Nat.le_trans (Nat.le_of_ble_eq_true rfl) hle) (st := [.ref (b + 57), .ref (b + 56)]) (Nat.le_of_ble_eq_true rfl) rfl d_Program_56_11 rfl rfl (Nat.le_of_ble_eq_true rfl) (Nat.le_of_ble_eq_true rfl) ?_
  refine g_putR X hnm ck_4 fh_56 (Nat.le_of_ble_eq_true rfl) 0 (by decide) wd_65 rfl rfl (by decide +kernel) (fa_ctR (t := 57) rfl (by decide +kernel) (by decide +kernel)) rfl rfl d_Program_56_14 ?_
  refine g_aload_n X 0 rfl d_Program_56_17 ?_
  refine g_new X (N1 := 60) (c1 := 3) (s1 := 104) (by omega) ck_6 fh_59 (by decide +kernel) (by decide +kernel) wd_63 wd_35 wd_2 rfl rfl rfl (Nat.le_of_ble_eq_true rfl) (Nat.le_of_ble_eq_true rfl) d_Program_56_18 (fun w3 ew3 => ?_)
  have hM := fa_let_to hM ew3
  refine g_dup X rfl d_Program_56_21 ?_
  refine g_bipush X (by decide) d_Program_56_22 ?_
  obtain ⟨w4, ew4⟩ : ∃ q, fa_nw 60 (fa_st w3 59 1 0) = q := ⟨_, rfl⟩
  have hM := fa_let_to hM ew4.symm
  refine g_callN X (c1 := 4) (s1 := 204) (by omega) mi_Row_init (n_Row_e 59 60 58 100 100 fh_59 (Nat.le_of_ble_eq_true rfl) fhs_60 (by decide +kernel) (by decide +kernel) (by decide +kernel) (by decide +kernel) (by decide) w3 _ ew4) wd_64 rfl (Nat.le_trans (Nat.le_of_ble_eq_true rfl) hle) (st := [.ref (b + 59), .ref (b + 56)]) (Nat.le_of_ble_eq_true rfl) rfl d_Program_56_24 rfl rfl (Nat.le_of_ble_eq_true rfl) (Nat.le_of_ble_eq_true rfl) ?_
  refine g_putR X hnm ck_4 fh_56 (Nat.le_of_ble_eq_true rfl) 1 (by decide) wd_66 rfl rfl (by decide +kernel) (fa_ctR (t := 59) rfl (by decide +kernel) (by decide +kernel)) rfl rfl d_Program_56_27 ?_
  refine g_aload_n X 0 rfl d_Program_56_30 ?_
  refine g_new X (N1 := 62) (c1 := 5) (s1 := 206) (by omega) ck_6 fh_61 (by decide +kernel) (by decide +kernel) wd_63 wd_35 wd_2 rfl rfl rfl (Nat.le_of_ble_eq_true rfl) (Nat.le_of_ble_eq_true rfl) d_Program_56_31 (fun w5 ew5 => ?_)
  have hM := fa_let_to hM ew5
  refine g_dup X rfl d_Program_56_34 ?_
  refine g_bipush X (by decide) d_Program_56_35 ?_
  obtain ⟨w6, ew6⟩ : ∃ q, fa_nw 62 (fa_st w5 61 1 0) = q := ⟨_, rfl⟩
  have hM := fa_let_to hM ew6.symm
  refine g_callN X (c1 := 6) (s1 := 306) (by omega) mi_Row_init (n_Row_e 61 62 60 100 100 fh_61 (Nat.le_of_ble_eq_true rfl) fhs_62 (by decide +kernel) (by decide +kernel) (by decide +kernel) (by decide +kernel) (by decide) w5 _ ew6) wd_64 rfl (Nat.le_trans (Nat.le_of_ble_eq_true rfl) hle) (st := [.ref (b + 61), .ref (b + 56)]) (Nat.le_of_ble_eq_true rfl) rfl d_Program_56_37 rfl rfl (Nat.le_of_ble_eq_true rfl) (Nat.le_of_ble_eq_true rfl) ?_
  refine g_putR X hnm ck_4 fh_56 (Nat.le_of_ble_eq_true rfl) 2 (by decide) wd_67 rfl rfl (by decide +kernel) (fa_ctR (t := 61) rfl (by decide +kernel) (by decide +kernel)) rfl rfl d_Program_56_40 ?_
  refine g_aload_n X 0 rfl d_Program_56_43 ?_
  refine g_new X (N1 := 64) (c1 := 7) (s1 := 308) (by omega) ck_6 fh_63 (by decide +kernel) (by decide +kernel) wd_63 wd_35 wd_2 rfl rfl rfl (Nat.le_of_ble_eq_true rfl) (Nat.le_of_ble_eq_true rfl) d_Program_56_44 (fun w7 ew7 => ?_)
  have hM := fa_let_to hM ew7
  refine g_dup X rfl d_Program_56_47 ?_
  refine g_bipush X (by decide) d_Program_56_48 ?_
  obtain ⟨w8, ew8⟩ : ∃ q, fa_nw 64 (fa_st w7 63 1 0) = q := ⟨_, rfl⟩
  have hM := fa_let_to hM ew8.symm
  refine g_callN X (c1 := 8) (s1 := 408) (by omega) mi_Row_init (n_Row_e 63 64 62 100 100 fh_63 (Nat.le_of_ble_eq_true rfl) fhs_64 (by decide +kernel) (by decide +kernel) (by decide +kernel) (by decide +kernel) (by decide) w7 _ ew8) wd_64 rfl (Nat.le_trans (Nat.le_of_ble_eq_true rfl) hle) (st := [.ref (b + 63), .ref (b + 56)]) (Nat.le_of_ble_eq_true rfl) rfl d_Program_56_50 rfl rfl (Nat.le_of_ble_eq_true rfl) (Nat.le_of_ble_eq_true rfl) ?_
  refine g_putR X hnm ck_4 fh_56 (Nat.le_of_ble_eq_true rfl) 3 (by decide) wd_68 rfl rfl (by decide +kernel) (fa_ctR (t := 63) rfl (by decide +kernel) (by decide +kernel)) rfl rfl d_Program_56_53 ?_
  refine g_aload_n X 0 rfl d_Program_56_56 ?_
  refine g_new X (N1 := 66) (c1 := 9) (s1 := 410) (by omega) ck_6 fh_65 (by decide +kernel) (by decide +kernel) wd_63 wd_35 wd_2 rfl rfl rfl (Nat.le_of_ble_eq_true rfl) (Nat.le_of_ble_eq_true rfl) d_Program_56_57 (fun w9 ew9 => ?_)
  have hM := fa_let_to hM ew9
  refine g_dup X rfl d_Program_56_60 ?_
  refine g_sipush X (by decide) d_Program_56_61 ?_
  obtain ⟨w10, ew10⟩ : ∃ q, fa_nw 66 (fa_st w9 65 1 0) = q := ⟨_, rfl⟩
  have hM := fa_let_to hM ew10.symm
  refine g_callN X (c1 := 10) (s1 := 710) (by omega) mi_Row_init (n_Row_e 65 66 64 300 300 fh_65 (Nat.le_of_ble_eq_true rfl) fhs_66 (by decide +kernel) (by decide +kernel) (by decide +kernel) (by decide +kernel) (by decide) w9 _ ew10) wd_64 rfl (Nat.le_trans (Nat.le_of_ble_eq_true rfl) hle) (st := [.ref (b + 65), .ref (b + 56)]) (Nat.le_of_ble_eq_true rfl) rfl d_Program_56_64 rfl rfl (Nat.le_of_ble_eq_true rfl) (Nat.le_of_ble_eq_true rfl) ?_
  refine g_putR X hnm ck_4 fh_56 (Nat.le_of_ble_eq_true rfl) 4 (by decide) wd_69 rfl rfl (by decide +kernel) (fa_ctR (t := 65) rfl (by decide +kernel) (by decide +kernel)) rfl rfl d_Program_56_67 ?_
  refine g_aload_n X 0 rfl d_Program_56_70 ?_
  refine g_new X (N1 := 68) (c1 := 11) (s1 := 712) (by omega) ck_6 fh_67 (by decide +kernel) (by decide +kernel) wd_63 wd_35 wd_2 rfl rfl rfl (Nat.le_of_ble_eq_true rfl) (Nat.le_of_ble_eq_true rfl) d_Program_56_71 (fun w11 ew11 => ?_)
  have hM := fa_let_to hM ew11
  refine g_dup X rfl d_Program_56_74 ?_
  refine g_bipush X (by decide) d_Program_56_75 ?_
  obtain ⟨w12, ew12⟩ : ∃ q, fa_nw 68 (fa_st w11 67 1 0) = q := ⟨_, rfl⟩
  have hM := fa_let_to hM ew12.symm
  refine g_callN X (c1 := 12) (s1 := 812) (by omega) mi_Row_init (n_Row_e 67 68 66 100 100 fh_67 (Nat.le_of_ble_eq_true rfl) fhs_68 (by decide +kernel) (by decide +kernel) (by decide +kernel) (by decide +kernel) (by decide) w11 _ ew12) wd_64 rfl (Nat.le_trans (Nat.le_of_ble_eq_true rfl) hle) (st := [.ref (b + 67), .ref (b + 56)]) (Nat.le_of_ble_eq_true rfl) rfl d_Program_56_77 rfl rfl (Nat.le_of_ble_eq_true rfl) (Nat.le_of_ble_eq_true rfl) ?_
  refine g_putR X hnm ck_4 fh_56 (Nat.le_of_ble_eq_true rfl) 5 (by decide) wd_70 rfl rfl (by decide +kernel) (fa_ctR (t := 67) rfl (by decide +kernel) (by decide +kernel)) rfl rfl d_Program_56_80 ?_
  refine g_aload_n X 0 rfl d_Program_56_83 ?_
  refine g_new X (N1 := 70) (c1 := 13) (s1 := 814) (by omega) ck_6 fh_69 (by decide +kernel) (by decide +kernel) wd_63 wd_35 wd_2 rfl rfl rfl (Nat.le_of_ble_eq_true rfl) (Nat.le_of_ble_eq_true rfl) d_Program_56_84 (fun w13 ew13 => ?_)
  have hM := fa_let_to hM ew13
  refine g_dup X rfl d_Program_56_87 ?_
  refine g_bipush X (by decide) d_Program_56_88 ?_
  obtain ⟨w14, ew14⟩ : ∃ q, fa_nw 70 (fa_st w13 69 1 0) = q := ⟨_, rfl⟩
  have hM := fa_let_to hM ew14.symm
  refine g_callN X (c1 := 14) (s1 := 888) (by omega) mi_Row_init (n_Row_e 69 70 68 74 74 fh_69 (Nat.le_of_ble_eq_true rfl) fhs_70 (by decide +kernel) (by decide +kernel) (by decide +kernel) (by decide +kernel) (by decide) w13 _ ew14) wd_64 rfl (Nat.le_trans (Nat.le_of_ble_eq_true rfl) hle) (st := [.ref (b + 69), .ref (b + 56)]) (Nat.le_of_ble_eq_true rfl) rfl d_Program_56_90 rfl rfl (Nat.le_of_ble_eq_true rfl) (Nat.le_of_ble_eq_true rfl) ?_
  refine g_putR X hnm ck_4 fh_56 (Nat.le_of_ble_eq_true rfl) 6 (by decide) wd_74 rfl rfl (by decide +kernel) (fa_ctR (t := 69) rfl (by decide +kernel) (by decide +kernel)) rfl rfl d_Program_56_93 ?_
  refine g_aload_n X 0 rfl d_Program_56_96 ?_
  refine g_new X (N1 := 72) (c1 := 15) (s1 := 890) (by omega) ck_6 fh_71 (by decide +kernel) (by decide +kernel) wd_63 wd_35 wd_2 rfl rfl rfl (Nat.le_of_ble_eq_true rfl) (Nat.le_of_ble_eq_true rfl) d_Program_56_97 (fun w15 ew15 => ?_)
  have hM := fa_let_to hM ew15
  refine g_dup X rfl d_Program_56_100 ?_
  refine g_bipush X (by decide) d_Program_56_101 ?_
  obtain ⟨w16, ew16⟩ : ∃ q, fa_nw 72 (fa_st w15 71 1 0) = q := ⟨_, rfl⟩
  have hM := fa_let_to hM ew16.symm
  refine g_callN X (c1 := 16) (s1 := 964) (by omega) mi_Row_init (n_Row_e 71 72 70 74 74 fh_71 (Nat.le_of_ble_eq_true rfl) fhs_72 (by decide +kernel) (by decide +kernel) (by decide +kernel) (by decide +kernel) (by decide) w15 _ ew16) wd_64 rfl (Nat.le_trans (Nat.le_of_ble_eq_true rfl) hle) (st := [.ref (b + 71), .ref (b + 56)]) (Nat.le_of_ble_eq_true rfl) rfl d_Program_56_103 rfl rfl (Nat.le_of_ble_eq_true rfl) (Nat.le_of_ble_eq_true rfl) ?_
  refine g_putR X hnm ck_4 fh_56 (Nat.le_of_ble_eq_true rfl) 7 (by decide) wd_78 rfl rfl (by decide +kernel) (fa_ctR (t := 71) rfl (by decide +kernel) (by decide +kernel)) rfl rfl d_Program_56_106 ?_
  refine g_aload_n X 0 rfl d_Program_56_109 ?_
  refine g_new X (N1 := 74) (c1 := 17) (s1 := 966) (by omega) ck_6 fh_73 (by decide +kernel) (by decide +kernel) wd_63 wd_35 wd_2 rfl rfl rfl (Nat.le_of_ble_eq_true rfl) (Nat.le_of_ble_eq_true rfl) d_Program_56_110 (fun w17 ew17 => ?_)
  have hM := fa_let_to hM ew17
  refine g_dup X rfl d_Program_56_113 ?_
  refine g_bipush X (by decide) d_Program_56_114 ?_
  obtain ⟨w18, ew18⟩ : ∃ q, fa_nw 74 (fa_st w17 73 1 0) = q := ⟨_, rfl⟩
  have hM := fa_let_to hM ew18.symm
  refine g_callN X (c1 := 18) (s1 := 972) (by omega) mi_Row_init (n_Row_e 73 74 72 6 6 fh_73 (Nat.le_of_ble_eq_true rfl) fhs_74 (by decide +kernel) (by decide +kernel) (by decide +kernel) (by decide +kernel) (by decide) w17 _ ew18) wd_64 rfl (Nat.le_trans (Nat.le_of_ble_eq_true rfl) hle) (st := [.ref (b + 73), .ref (b + 56)]) (Nat.le_of_ble_eq_true rfl) rfl d_Program_56_116 rfl rfl (Nat.le_of_ble_eq_true rfl) (Nat.le_of_ble_eq_true rfl) ?_
  refine g_putR X hnm ck_4 fh_56 (Nat.le_of_ble_eq_true rfl) 8 (by decide) wd_79 rfl rfl (by decide +kernel) (fa_ctR (t := 73) rfl (by decide +kernel) (by decide +kernel)) rfl rfl d_Program_56_119 ?_
  refine g_aload_n X 0 rfl d_Program_56_122 ?_
  refine g_new X (N1 := 76) (c1 := 19) (s1 := 974) (by omega) ck_6 fh_75 (by decide +kernel) (by decide +kernel) wd_63 wd_35 wd_2 rfl rfl rfl (Nat.le_of_ble_eq_true rfl) (Nat.le_of_ble_eq_true rfl) d_Program_56_123 (fun w19 ew19 => ?_)
  have hM := fa_let_to hM ew19
  refine g_dup X rfl d_Program_56_126 ?_
  refine g_bipush X (by decide) d_Program_56_127 ?_
  obtain ⟨w20, ew20⟩ : ∃ q, fa_nw 76 (fa_st w19 75 1 0) = q := ⟨_, rfl⟩
  have hM := fa_let_to hM ew20.symm
  refine g_callN X (c1 := 20) (s1 := 998) (by omega) mi_Row_init (n_Row_e 75 76 74 24 24 fh_75 (Nat.le_of_ble_eq_true rfl) fhs_76 (by decide +kernel) (by decide +kernel) (by decide +kernel) (by decide +kernel) (by decide) w19 _ ew20) wd_64 rfl (Nat.le_trans (Nat.le_of_ble_eq_true rfl) hle) (st := [.ref (b + 75), .ref (b + 56)]) (Nat.le_of_ble_eq_true rfl) rfl d_Program_56_129 rfl rfl (Nat.le_of_ble_eq_true rfl) (Nat.le_of_ble_eq_true rfl) ?_
  refine g_putR X hnm ck_4 fh_56 (Nat.le_of_ble_eq_true rfl) 9 (by decide) wd_82 rfl rfl (by decide +kernel) (fa_ctR (t := 75) rfl (by decide +kernel) (by decide +kernel)) rfl rfl d_Program_56_132 ?_
  refine g_aload_n X 0 rfl d_Program_56_135 ?_
  refine g_new X (N1 := 78) (c1 := 21) (s1 := 1000) (by omega) ck_6 fh_77 (by decide +kernel) (by decide +kernel) wd_63 wd_35 wd_2 rfl rfl rfl (Nat.le_of_ble_eq_true rfl) (Nat.le_of_ble_eq_true rfl) d_Program_56_136 (fun w21 ew21 => ?_)
  have hM := fa_let_to hM ew21
  refine g_dup X rfl d_Program_56_139 ?_
  refine g_bipush X (by decide) d_Program_56_140 ?_
  obtain ⟨w22, ew22⟩ : ∃ q, fa_nw 78 (fa_st w21 77 1 0) = q := ⟨_, rfl⟩
  have hM := fa_let_to hM ew22.symm
  refine g_callN X (c1 := 22) (s1 := 1024) (by omega) mi_Row_init (n_Row_e 77 78 76 24 24 fh_77 (Nat.le_of_ble_eq_true rfl) fhs_78 (by decide +kernel) (by decide +kernel) (by decide +kernel) (by decide +kernel) (by decide) w21 _ ew22) wd_64 rfl (Nat.le_trans (Nat.le_of_ble_eq_true rfl) hle) (st := [.ref (b + 77), .ref (b + 56)]) (Nat.le_of_ble_eq_true rfl) rfl d_Program_56_142 rfl rfl (Nat.le_of_ble_eq_true rfl) (Nat.le_of_ble_eq_true rfl) ?_
  refine g_putR X hnm ck_4 fh_56 (Nat.le_of_ble_eq_true rfl) 10 (by decide) wd_88 rfl rfl (by decide +kernel) (fa_ctR (t := 77) rfl (by decide +kernel) (by decide +kernel)) rfl rfl d_Program_56_145 ?_
  refine g_aload_n X 0 rfl d_Program_56_148 ?_
  refine g_new X (N1 := 80) (c1 := 23) (s1 := 1026) (by omega) ck_6 fh_79 (by decide +kernel) (by decide +kernel) wd_63 wd_35 wd_2 rfl rfl rfl (Nat.le_of_ble_eq_true rfl) (Nat.le_of_ble_eq_true rfl) d_Program_56_149 (fun w23 ew23 => ?_)
  have hM := fa_let_to hM ew23
  refine g_dup X rfl d_Program_56_152 ?_
  refine g_bipush X (by decide) d_Program_56_153 ?_
  obtain ⟨w24, ew24⟩ : ∃ q, fa_nw 80 (fa_st w23 79 1 0) = q := ⟨_, rfl⟩
  have hM := fa_let_to hM ew24.symm
  refine g_callN X (c1 := 24) (s1 := 1126) (by omega) mi_Row_init (n_Row_e 79 80 78 100 100 fh_79 (Nat.le_of_ble_eq_true rfl) fhs_80 (by decide +kernel) (by decide +kernel) (by decide +kernel) (by decide +kernel) (by decide) w23 _ ew24) wd_64 rfl (Nat.le_trans (Nat.le_of_ble_eq_true rfl) hle) (st := [.ref (b + 79), .ref (b + 56)]) (Nat.le_of_ble_eq_true rfl) rfl d_Program_56_155 rfl rfl (Nat.le_of_ble_eq_true rfl) (Nat.le_of_ble_eq_true rfl) ?_
  refine g_putR X hnm ck_4 fh_56 (Nat.le_of_ble_eq_true rfl) 11 (by decide) wd_89 rfl rfl (by decide +kernel) (fa_ctR (t := 79) rfl (by decide +kernel) (by decide +kernel)) rfl rfl d_Program_56_158 ?_
  refine g_aload_n X 0 rfl d_Program_56_161 ?_
  refine g_new X (N1 := 82) (c1 := 25) (s1 := 1128) (by omega) ck_6 fh_81 (by decide +kernel) (by decide +kernel) wd_63 wd_35 wd_2 rfl rfl rfl (Nat.le_of_ble_eq_true rfl) (Nat.le_of_ble_eq_true rfl) d_Program_56_162 (fun w25 ew25 => ?_)
  have hM := fa_let_to hM ew25
  refine g_dup X rfl d_Program_56_165 ?_
  refine g_bipush X (by decide) d_Program_56_166 ?_
  obtain ⟨w26, ew26⟩ : ∃ q, fa_nw 82 (fa_st w25 81 1 0) = q := ⟨_, rfl⟩
  have hM := fa_let_to hM ew26.symm
  refine g_callN X (c1 := 26) (s1 := 1228) (by omega) mi_Row_init (n_Row_e 81 82 80 100 100 fh_81 (Nat.le_of_ble_eq_true rfl) fhs_82 (by decide +kernel) (by decide +kernel) (by decide +kernel) (by decide +kernel) (by decide) w25 _ ew26) wd_64 rfl (Nat.le_trans (Nat.le_of_ble_eq_true rfl) hle) (st := [.ref (b + 81), .ref (b + 56)]) (Nat.le_of_ble_eq_true rfl) rfl d_Program_56_168 rfl rfl (Nat.le_of_ble_eq_true rfl) (Nat.le_of_ble_eq_true rfl) ?_
  refine g_putR X hnm ck_4 fh_56 (Nat.le_of_ble_eq_true rfl) 12 (by decide) wd_90 rfl rfl (by decide +kernel) (fa_ctR (t := 81) rfl (by decide +kernel) (by decide +kernel)) rfl rfl d_Program_56_171 ?_
  refine g_aload_n X 0 rfl d_Program_56_174 ?_
  refine g_iconst X d_Program_56_175 ?_
  refine g_put X ck_4 fh_56 (Nat.le_of_ble_eq_true rfl) 13 (z := 0) (by decide) wd_91 rfl (fa_fvI' rfl) rfl rfl rfl d_Program_56_176 (fun w27 ew27 => ?_)
  have hM := fa_let_to hM ew27
  refine g_aload_n X 0 rfl d_Program_56_179 ?_
  refine g_iconst X d_Program_56_180 ?_
  refine g_put X ck_4 fh_56 (Nat.le_of_ble_eq_true rfl) 14 (z := 0) (by decide) wd_96 rfl (fa_fvI' rfl) rfl rfl rfl d_Program_56_181 (fun w28 ew28 => ?_)
  have hM := fa_let_to hM ew28
  refine g_aload_n X 0 rfl d_Program_56_184 ?_
  refine g_iconst X d_Program_56_185 ?_
  refine g_put X ck_4 fh_56 (Nat.le_of_ble_eq_true rfl) 15 (z := 0) (by decide) wd_102 rfl (fa_fvI' rfl) rfl rfl rfl d_Program_56_186 (fun w29 ew29 => ?_)
  have hM := fa_let_to hM ew29
  refine g_aload_n X 0 rfl d_Program_56_189 ?_
  refine g_iconst X d_Program_56_190 ?_
  refine g_put X ck_4 fh_56 (Nat.le_of_ble_eq_true rfl) 16 (z := (-1)) (by decide) wd_107 rfl (fa_fvI' rfl) rfl rfl rfl d_Program_56_191 (fun w30 ew30 => ?_)
  have hM := fa_let_to hM ew30
  subst hM
  exact g_cvret X d_Program_56_194
theorem d_Typing_83_0 : decode prog_9_method_1_code 0 = .ok (.aload_n 0, 1) := by decide +kernel
theorem d_Typing_83_1 : decode prog_9_method_1_code 1 = .ok (.invokespecial 3, 3) := by decide +kernel
theorem d_Typing_83_4 : decode prog_9_method_1_code 4 = .ok (.aload_n 0, 1) := by decide +kernel
theorem d_Typing_83_5 : decode prog_9_method_1_code 5 = .ok (.new 9, 3) := by decide +kernel
theorem d_Typing_83_8 : decode prog_9_method_1_code 8 = .ok (.dup, 1) := by decide +kernel
theorem d_Typing_83_9 : decode prog_9_method_1_code 9 = .ok (.sipush 400, 3) := by decide +kernel
theorem d_Typing_83_12 : decode prog_9_method_1_code 12 = .ok (.invokespecial 11, 3) := by decide +kernel
theorem d_Typing_83_15 : decode prog_9_method_1_code 15 = .ok (.putfield 14, 3) := by decide +kernel
theorem d_Typing_83_18 : decode prog_9_method_1_code 18 = .ok (.aload_n 0, 1) := by decide +kernel
theorem d_Typing_83_19 : decode prog_9_method_1_code 19 = .ok (.new 9, 3) := by decide +kernel
theorem d_Typing_83_22 : decode prog_9_method_1_code 22 = .ok (.dup, 1) := by decide +kernel
theorem d_Typing_83_23 : decode prog_9_method_1_code 23 = .ok (.sipush 400, 3) := by decide +kernel
theorem d_Typing_83_26 : decode prog_9_method_1_code 26 = .ok (.invokespecial 11, 3) := by decide +kernel
theorem d_Typing_83_29 : decode prog_9_method_1_code 29 = .ok (.putfield 20, 3) := by decide +kernel
theorem d_Typing_83_32 : decode prog_9_method_1_code 32 = .ok (.aload_n 0, 1) := by decide +kernel
theorem d_Typing_83_33 : decode prog_9_method_1_code 33 = .ok (.new 9, 3) := by decide +kernel
theorem d_Typing_83_36 : decode prog_9_method_1_code 36 = .ok (.dup, 1) := by decide +kernel
theorem d_Typing_83_37 : decode prog_9_method_1_code 37 = .ok (.sipush 400, 3) := by decide +kernel
theorem d_Typing_83_40 : decode prog_9_method_1_code 40 = .ok (.invokespecial 11, 3) := by decide +kernel
theorem d_Typing_83_43 : decode prog_9_method_1_code 43 = .ok (.putfield 23, 3) := by decide +kernel
theorem d_Typing_83_46 : decode prog_9_method_1_code 46 = .ok (.aload_n 0, 1) := by decide +kernel
theorem d_Typing_83_47 : decode prog_9_method_1_code 47 = .ok (.new 9, 3) := by decide +kernel
theorem d_Typing_83_50 : decode prog_9_method_1_code 50 = .ok (.dup, 1) := by decide +kernel
theorem d_Typing_83_51 : decode prog_9_method_1_code 51 = .ok (.sipush 400, 3) := by decide +kernel
theorem d_Typing_83_54 : decode prog_9_method_1_code 54 = .ok (.invokespecial 11, 3) := by decide +kernel
theorem d_Typing_83_57 : decode prog_9_method_1_code 57 = .ok (.putfield 26, 3) := by decide +kernel
theorem d_Typing_83_60 : decode prog_9_method_1_code 60 = .ok (.aload_n 0, 1) := by decide +kernel
theorem d_Typing_83_61 : decode prog_9_method_1_code 61 = .ok (.new 9, 3) := by decide +kernel
theorem d_Typing_83_64 : decode prog_9_method_1_code 64 = .ok (.dup, 1) := by decide +kernel
theorem d_Typing_83_65 : decode prog_9_method_1_code 65 = .ok (.bipush 100, 2) := by decide +kernel
theorem d_Typing_83_67 : decode prog_9_method_1_code 67 = .ok (.invokespecial 11, 3) := by decide +kernel
theorem d_Typing_83_70 : decode prog_9_method_1_code 70 = .ok (.putfield 29, 3) := by decide +kernel
theorem d_Typing_83_73 : decode prog_9_method_1_code 73 = .ok (.aload_n 0, 1) := by decide +kernel
theorem d_Typing_83_74 : decode prog_9_method_1_code 74 = .ok (.new 9, 3) := by decide +kernel
theorem d_Typing_83_77 : decode prog_9_method_1_code 77 = .ok (.dup, 1) := by decide +kernel
theorem d_Typing_83_78 : decode prog_9_method_1_code 78 = .ok (.bipush 74, 2) := by decide +kernel
theorem d_Typing_83_80 : decode prog_9_method_1_code 80 = .ok (.invokespecial 11, 3) := by decide +kernel
theorem d_Typing_83_83 : decode prog_9_method_1_code 83 = .ok (.putfield 32, 3) := by decide +kernel
theorem d_Typing_83_86 : decode prog_9_method_1_code 86 = .ok (.aload_n 0, 1) := by decide +kernel
theorem d_Typing_83_87 : decode prog_9_method_1_code 87 = .ok (.new 9, 3) := by decide +kernel
theorem d_Typing_83_90 : decode prog_9_method_1_code 90 = .ok (.dup, 1) := by decide +kernel
theorem d_Typing_83_91 : decode prog_9_method_1_code 91 = .ok (.bipush 24, 2) := by decide +kernel
theorem d_Typing_83_93 : decode prog_9_method_1_code 93 = .ok (.invokespecial 11, 3) := by decide +kernel
theorem d_Typing_83_96 : decode prog_9_method_1_code 96 = .ok (.putfield 35, 3) := by decide +kernel
theorem d_Typing_83_99 : decode prog_9_method_1_code 99 = .ok (.aload_n 0, 1) := by decide +kernel
theorem d_Typing_83_100 : decode prog_9_method_1_code 100 = .ok (.new 9, 3) := by decide +kernel
theorem d_Typing_83_103 : decode prog_9_method_1_code 103 = .ok (.dup, 1) := by decide +kernel
theorem d_Typing_83_104 : decode prog_9_method_1_code 104 = .ok (.sipush 400, 3) := by decide +kernel
theorem d_Typing_83_107 : decode prog_9_method_1_code 107 = .ok (.invokespecial 11, 3) := by decide +kernel
theorem d_Typing_83_110 : decode prog_9_method_1_code 110 = .ok (.putfield 38, 3) := by decide +kernel
theorem d_Typing_83_113 : decode prog_9_method_1_code 113 = .ok (.aload_n 0, 1) := by decide +kernel
theorem d_Typing_83_114 : decode prog_9_method_1_code 114 = .ok (.iconst 0, 1) := by decide +kernel
theorem d_Typing_83_115 : decode prog_9_method_1_code 115 = .ok (.putfield 41, 3) := by decide +kernel
theorem d_Typing_83_118 : decode prog_9_method_1_code 118 = .ok (.return_, 1) := by decide +kernel
def fm_new_Typing_83 (w : fa_W) : fa_W :=
  fa_let (fa_nw 84 w) fun w1 =>
  fa_let (fa_nw 85 (fa_st w1 84 1 0)) fun w2 =>
  fa_let (fa_nw 86 w2) fun w3 =>
  fa_let (fa_nw 87 (fa_st w3 86 1 0)) fun w4 =>
  fa_let (fa_nw 88 w4) fun w5 =>
  fa_let (fa_nw 89 (fa_st w5 88 1 0)) fun w6 =>
  fa_let (fa_nw 90 w6) fun w7 =>
  fa_let (fa_nw 91 (fa_st w7 90 1 0)) fun w8 =>
  fa_let (fa_nw 92 w8) fun w9 =>
  fa_let (fa_nw 93 (fa_st w9 92 1 0)) fun w10 =>
  fa_let (fa_nw 94 w10) fun w11 =>
  fa_let (fa_nw 95 (fa_st w11 94 1 0)) fun w12 =>
  fa_let (fa_nw 96 w12) fun w13 =>
  fa_let (fa_nw 97 (fa_st w13 96 1 0)) fun w14 =>
  fa_let (fa_nw 98 w14) fun w15 =>
  fa_let (fa_nw 99 (fa_st w15 98 1 0)) fun w16 =>
  fa_let (fa_st w16 83 8 (fa_bi false)) fun w17 =>
  w17
set_option maxHeartbeats 4000000 in
set_option maxRecDepth 100000 in
theorem n_Typing_83 {l : Launch} {D : va_G} {b : Nat} {aC : Nat → ClassId} {H0 : Heap} (w r : fa_W) (hM : fm_new_Typing_83 w = r) : fa_NC l D b aC H0 84 83 100 99 y_Typing_init prog_9_method_1_code 1 3 16 2214 [.ref (b + 83)] w r := by
  refine fa_nenter (lv := [(0, .ref (b + 83))]) (by decide +kernel) (Nat.le_of_ble_eq_true rfl) rfl (fun hh hle hsz hnm X => ?_)
  unfold fm_new_Typing_83 at hM
  refine g_aload_n X 0 rfl d_Typing_83_0 ?_
  refine g_objInit X wd_290 wd_32 wd_33 (Nat.le_trans (Nat.le_of_ble_eq_true rfl) hle) (Nat.le_of_ble_eq_true rfl) d_Typing_83_1 ?_
  refine g_aload_n X 0 rfl d_Typing_83_4 ?_
  refine g_new X (N1 := 85) (c1 := 1) (s1 := 2) (by omega) ck_6 fh_84 (by decide +kernel) (by decide +kernel) wd_291 wd_35 wd_2 rfl rfl rfl (Nat.le_of_ble_eq_true rfl) (Nat.le_of_ble_eq_true rfl) d_Typing_83_5 (fun w1 ew1 => ?_)
  have hM := fa_let_to hM ew1
  refine g_dup X rfl d_Typing_83_8 ?_
  refine g_sipush X (by decide) d_Typing_83_9 ?_
  obtain ⟨w2, ew2⟩ : ∃ q, fa_nw 85 (fa_st w1 84 1 0) = q := ⟨_, rfl⟩
  have hM := fa_let_to hM ew2.symm
  refine g_callN X (c1 := 2) (s1 := 402) (by omega) mi_Row_init (n_Row_e 84 85 83 400 400 fh_84 (Nat.le_of_ble_eq_true rfl) fhs_85 (by decide +kernel) (by decide +kernel) (by decide +kernel) (by decide +kernel) (by decide) w1 _ ew2) wd_292 rfl (Nat.le_trans (Nat.le_of_ble_eq_true rfl) hle) (st := [.ref (b + 84), .ref (b + 83)]) (Nat.le_of_ble_eq_true rfl) rfl d_Typing_83_12 rfl rfl (Nat.le_of_ble_eq_true rfl) (Nat.le_of_ble_eq_true rfl) ?_
  refine g_putR X hnm ck_8 fh_83 (Nat.le_of_ble_eq_true rfl) 0 (by decide) wd_293 rfl rfl (by decide +kernel) (fa_ctR (t := 84) rfl (by decide +kernel) (by decide +kernel)) rfl rfl d_Typing_83_15 ?_
  refine g_aload_n X 0 rfl d_Typing_83_18 ?_
  refine g_new X (N1 := 87) (c1 := 3) (s1 := 404) (by omega) ck_6 fh_86 (by decide +kernel) (by decide +kernel) wd_291 wd_35 wd_2 rfl rfl rfl (Nat.le_of_ble_eq_true rfl) (Nat.le_of_ble_eq_true rfl) d_Typing_83_19 (fun w3 ew3 => ?_)
  have hM := fa_let_to hM ew3
  refine g_dup X rfl d_Typing_83_22 ?_
  refine g_sipush X (by decide) d_Typing_83_23 ?_
  obtain ⟨w4, ew4⟩ : ∃ q, fa_nw 87 (fa_st w3 86 1 0) = q := ⟨_, rfl⟩
  have hM := fa_let_to hM ew4.symm
  refine g_callN X (c1 := 4) (s1 := 804) (by omega) mi_Row_init (n_Row_e 86 87 85 400 400 fh_86 (Nat.le_of_ble_eq_true rfl) fhs_87 (by decide +kernel) (by decide +kernel) (by decide +kernel) (by decide +kernel) (by decide) w3 _ ew4) wd_292 rfl (Nat.le_trans (Nat.le_of_ble_eq_true rfl) hle) (st := [.ref (b + 86), .ref (b + 83)]) (Nat.le_of_ble_eq_true rfl) rfl d_Typing_83_26 rfl rfl (Nat.le_of_ble_eq_true rfl) (Nat.le_of_ble_eq_true rfl) ?_
  refine g_putR X hnm ck_8 fh_83 (Nat.le_of_ble_eq_true rfl) 1 (by decide) wd_294 rfl rfl (by decide +kernel) (fa_ctR (t := 86) rfl (by decide +kernel) (by decide +kernel)) rfl rfl d_Typing_83_29 ?_
  refine g_aload_n X 0 rfl d_Typing_83_32 ?_
  refine g_new X (N1 := 89) (c1 := 5) (s1 := 806) (by omega) ck_6 fh_88 (by decide +kernel) (by decide +kernel) wd_291 wd_35 wd_2 rfl rfl rfl (Nat.le_of_ble_eq_true rfl) (Nat.le_of_ble_eq_true rfl) d_Typing_83_33 (fun w5 ew5 => ?_)
  have hM := fa_let_to hM ew5
  refine g_dup X rfl d_Typing_83_36 ?_
  refine g_sipush X (by decide) d_Typing_83_37 ?_
  obtain ⟨w6, ew6⟩ : ∃ q, fa_nw 89 (fa_st w5 88 1 0) = q := ⟨_, rfl⟩
  have hM := fa_let_to hM ew6.symm
  refine g_callN X (c1 := 6) (s1 := 1206) (by omega) mi_Row_init (n_Row_e 88 89 87 400 400 fh_88 (Nat.le_of_ble_eq_true rfl) fhs_89 (by decide +kernel) (by decide +kernel) (by decide +kernel) (by decide +kernel) (by decide) w5 _ ew6) wd_292 rfl (Nat.le_trans (Nat.le_of_ble_eq_true rfl) hle) (st := [.ref (b + 88), .ref (b + 83)]) (Nat.le_of_ble_eq_true rfl) rfl d_Typing_83_40 rfl rfl (Nat.le_of_ble_eq_true rfl) (Nat.le_of_ble_eq_true rfl) ?_
  refine g_putR X hnm ck_8 fh_83 (Nat.le_of_ble_eq_true rfl) 2 (by decide) wd_295 rfl rfl (by decide +kernel) (fa_ctR (t := 88) rfl (by decide +kernel) (by decide +kernel)) rfl rfl d_Typing_83_43 ?_
  refine g_aload_n X 0 rfl d_Typing_83_46 ?_
  refine g_new X (N1 := 91) (c1 := 7) (s1 := 1208) (by omega) ck_6 fh_90 (by decide +kernel) (by decide +kernel) wd_291 wd_35 wd_2 rfl rfl rfl (Nat.le_of_ble_eq_true rfl) (Nat.le_of_ble_eq_true rfl) d_Typing_83_47 (fun w7 ew7 => ?_)
  have hM := fa_let_to hM ew7
  refine g_dup X rfl d_Typing_83_50 ?_
  refine g_sipush X (by decide) d_Typing_83_51 ?_
  obtain ⟨w8, ew8⟩ : ∃ q, fa_nw 91 (fa_st w7 90 1 0) = q := ⟨_, rfl⟩
  have hM := fa_let_to hM ew8.symm
  refine g_callN X (c1 := 8) (s1 := 1608) (by omega) mi_Row_init (n_Row_e 90 91 89 400 400 fh_90 (Nat.le_of_ble_eq_true rfl) fhs_91 (by decide +kernel) (by decide +kernel) (by decide +kernel) (by decide +kernel) (by decide) w7 _ ew8) wd_292 rfl (Nat.le_trans (Nat.le_of_ble_eq_true rfl) hle) (st := [.ref (b + 90), .ref (b + 83)]) (Nat.le_of_ble_eq_true rfl) rfl d_Typing_83_54 rfl rfl (Nat.le_of_ble_eq_true rfl) (Nat.le_of_ble_eq_true rfl) ?_
  refine g_putR X hnm ck_8 fh_83 (Nat.le_of_ble_eq_true rfl) 3 (by decide) wd_296 rfl rfl (by decide +kernel) (fa_ctR (t := 90) rfl (by decide +kernel) (by decide +kernel)) rfl rfl d_Typing_83_57 ?_
  refine g_aload_n X 0 rfl d_Typing_83_60 ?_
  refine g_new X (N1 := 93) (c1 := 9) (s1 := 1610) (by omega) ck_6 fh_92 (by decide +kernel) (by decide +kernel) wd_291 wd_35 wd_2 rfl rfl rfl (Nat.le_of_ble_eq_true rfl) (Nat.le_of_ble_eq_true rfl) d_Typing_83_61 (fun w9 ew9 => ?_)
  have hM := fa_let_to hM ew9
  refine g_dup X rfl d_Typing_83_64 ?_
  refine g_bipush X (by decide) d_Typing_83_65 ?_
  obtain ⟨w10, ew10⟩ : ∃ q, fa_nw 93 (fa_st w9 92 1 0) = q := ⟨_, rfl⟩
  have hM := fa_let_to hM ew10.symm
  refine g_callN X (c1 := 10) (s1 := 1710) (by omega) mi_Row_init (n_Row_e 92 93 91 100 100 fh_92 (Nat.le_of_ble_eq_true rfl) fhs_93 (by decide +kernel) (by decide +kernel) (by decide +kernel) (by decide +kernel) (by decide) w9 _ ew10) wd_292 rfl (Nat.le_trans (Nat.le_of_ble_eq_true rfl) hle) (st := [.ref (b + 92), .ref (b + 83)]) (Nat.le_of_ble_eq_true rfl) rfl d_Typing_83_67 rfl rfl (Nat.le_of_ble_eq_true rfl) (Nat.le_of_ble_eq_true rfl) ?_
  refine g_putR X hnm ck_8 fh_83 (Nat.le_of_ble_eq_true rfl) 4 (by decide) wd_297 rfl rfl (by decide +kernel) (fa_ctR (t := 92) rfl (by decide +kernel) (by decide +kernel)) rfl rfl d_Typing_83_70 ?_
  refine g_aload_n X 0 rfl d_Typing_83_73 ?_
  refine g_new X (N1 := 95) (c1 := 11) (s1 := 1712) (by omega) ck_6 fh_94 (by decide +kernel) (by decide +kernel) wd_291 wd_35 wd_2 rfl rfl rfl (Nat.le_of_ble_eq_true rfl) (Nat.le_of_ble_eq_true rfl) d_Typing_83_74 (fun w11 ew11 => ?_)
  have hM := fa_let_to hM ew11
  refine g_dup X rfl d_Typing_83_77 ?_
  refine g_bipush X (by decide) d_Typing_83_78 ?_
  obtain ⟨w12, ew12⟩ : ∃ q, fa_nw 95 (fa_st w11 94 1 0) = q := ⟨_, rfl⟩
  have hM := fa_let_to hM ew12.symm
  refine g_callN X (c1 := 12) (s1 := 1786) (by omega) mi_Row_init (n_Row_e 94 95 93 74 74 fh_94 (Nat.le_of_ble_eq_true rfl) fhs_95 (by decide +kernel) (by decide +kernel) (by decide +kernel) (by decide +kernel) (by decide) w11 _ ew12) wd_292 rfl (Nat.le_trans (Nat.le_of_ble_eq_true rfl) hle) (st := [.ref (b + 94), .ref (b + 83)]) (Nat.le_of_ble_eq_true rfl) rfl d_Typing_83_80 rfl rfl (Nat.le_of_ble_eq_true rfl) (Nat.le_of_ble_eq_true rfl) ?_
  refine g_putR X hnm ck_8 fh_83 (Nat.le_of_ble_eq_true rfl) 5 (by decide) wd_300 rfl rfl (by decide +kernel) (fa_ctR (t := 94) rfl (by decide +kernel) (by decide +kernel)) rfl rfl d_Typing_83_83 ?_
  refine g_aload_n X 0 rfl d_Typing_83_86 ?_
  refine g_new X (N1 := 97) (c1 := 13) (s1 := 1788) (by omega) ck_6 fh_96 (by decide +kernel) (by decide +kernel) wd_291 wd_35 wd_2 rfl rfl rfl (Nat.le_of_ble_eq_true rfl) (Nat.le_of_ble_eq_true rfl) d_Typing_83_87 (fun w13 ew13 => ?_)
  have hM := fa_let_to hM ew13
  refine g_dup X rfl d_Typing_83_90 ?_
  refine g_bipush X (by decide) d_Typing_83_91 ?_
  obtain ⟨w14, ew14⟩ : ∃ q, fa_nw 97 (fa_st w13 96 1 0) = q := ⟨_, rfl⟩
  have hM := fa_let_to hM ew14.symm
  refine g_callN X (c1 := 14) (s1 := 1812) (by omega) mi_Row_init (n_Row_e 96 97 95 24 24 fh_96 (Nat.le_of_ble_eq_true rfl) fhs_97 (by decide +kernel) (by decide +kernel) (by decide +kernel) (by decide +kernel) (by decide) w13 _ ew14) wd_292 rfl (Nat.le_trans (Nat.le_of_ble_eq_true rfl) hle) (st := [.ref (b + 96), .ref (b + 83)]) (Nat.le_of_ble_eq_true rfl) rfl d_Typing_83_93 rfl rfl (Nat.le_of_ble_eq_true rfl) (Nat.le_of_ble_eq_true rfl) ?_
  refine g_putR X hnm ck_8 fh_83 (Nat.le_of_ble_eq_true rfl) 6 (by decide) wd_301 rfl rfl (by decide +kernel) (fa_ctR (t := 96) rfl (by decide +kernel) (by decide +kernel)) rfl rfl d_Typing_83_96 ?_
  refine g_aload_n X 0 rfl d_Typing_83_99 ?_
  refine g_new X (N1 := 99) (c1 := 15) (s1 := 1814) (by omega) ck_6 fh_98 (by decide +kernel) (by decide +kernel) wd_291 wd_35 wd_2 rfl rfl rfl (Nat.le_of_ble_eq_true rfl) (Nat.le_of_ble_eq_true rfl) d_Typing_83_100 (fun w15 ew15 => ?_)
  have hM := fa_let_to hM ew15
  refine g_dup X rfl d_Typing_83_103 ?_
  refine g_sipush X (by decide) d_Typing_83_104 ?_
  obtain ⟨w16, ew16⟩ : ∃ q, fa_nw 99 (fa_st w15 98 1 0) = q := ⟨_, rfl⟩
  have hM := fa_let_to hM ew16.symm
  refine g_callN X (c1 := 16) (s1 := 2214) (by omega) mi_Row_init (n_Row_e 98 99 97 400 400 fh_98 (Nat.le_of_ble_eq_true rfl) fhs_99 (by decide +kernel) (by decide +kernel) (by decide +kernel) (by decide +kernel) (by decide) w15 _ ew16) wd_292 rfl (Nat.le_trans (Nat.le_of_ble_eq_true rfl) hle) (st := [.ref (b + 98), .ref (b + 83)]) (Nat.le_of_ble_eq_true rfl) rfl d_Typing_83_107 rfl rfl (Nat.le_of_ble_eq_true rfl) (Nat.le_of_ble_eq_true rfl) ?_
  refine g_putR X hnm ck_8 fh_83 (Nat.le_of_ble_eq_true rfl) 7 (by decide) wd_303 rfl rfl (by decide +kernel) (fa_ctR (t := 98) rfl (by decide +kernel) (by decide +kernel)) rfl rfl d_Typing_83_110 ?_
  refine g_aload_n X 0 rfl d_Typing_83_113 ?_
  refine g_iconst X d_Typing_83_114 ?_
  refine g_put X ck_8 fh_83 (Nat.le_of_ble_eq_true rfl) 8 (z := (fa_bi false)) (by decide) wd_304 rfl (fa_fvB' rfl) rfl (fa_nb false).1 (fa_nb false).2 d_Typing_83_115 (fun w17 ew17 => ?_)
  have hM := fa_let_to hM ew17
  subst hM
  exact g_cvret X d_Typing_83_118
theorem d_Flow_100_0 : decode prog_2_method_1_code 0 = .ok (.aload_n 0, 1) := by decide +kernel
theorem d_Flow_100_1 : decode prog_2_method_1_code 1 = .ok (.invokespecial 3, 3) := by decide +kernel
theorem d_Flow_100_4 : decode prog_2_method_1_code 4 = .ok (.aload_n 0, 1) := by decide +kernel
theorem d_Flow_100_5 : decode prog_2_method_1_code 5 = .ok (.new 9, 3) := by decide +kernel
theorem d_Flow_100_8 : decode prog_2_method_1_code 8 = .ok (.dup, 1) := by decide +kernel
theorem d_Flow_100_9 : decode prog_2_method_1_code 9 = .ok (.bipush 100, 2) := by decide +kernel
theorem d_Flow_100_11 : decode prog_2_method_1_code 11 = .ok (.invokespecial 11, 3) := by decide +kernel
theorem d_Flow_100_14 : decode prog_2_method_1_code 14 = .ok (.putfield 14, 3) := by decide +kernel
theorem d_Flow_100_17 : decode prog_2_method_1_code 17 = .ok (.aload_n 0, 1) := by decide +kernel
theorem d_Flow_100_18 : decode prog_2_method_1_code 18 = .ok (.new 9, 3) := by decide +kernel
theorem d_Flow_100_21 : decode prog_2_method_1_code 21 = .ok (.dup, 1) := by decide +kernel
theorem d_Flow_100_22 : decode prog_2_method_1_code 22 = .ok (.bipush 74, 2) := by decide +kernel
theorem d_Flow_100_24 : decode prog_2_method_1_code 24 = .ok (.invokespecial 11, 3) := by decide +kernel
theorem d_Flow_100_27 : decode prog_2_method_1_code 27 = .ok (.putfield 20, 3) := by decide +kernel
theorem d_Flow_100_30 : decode prog_2_method_1_code 30 = .ok (.aload_n 0, 1) := by decide +kernel
theorem d_Flow_100_31 : decode prog_2_method_1_code 31 = .ok (.new 9, 3) := by decide +kernel
theorem d_Flow_100_34 : decode prog_2_method_1_code 34 = .ok (.dup, 1) := by decide +kernel
theorem d_Flow_100_35 : decode prog_2_method_1_code 35 = .ok (.bipush 24, 2) := by decide +kernel
theorem d_Flow_100_37 : decode prog_2_method_1_code 37 = .ok (.invokespecial 11, 3) := by decide +kernel
theorem d_Flow_100_40 : decode prog_2_method_1_code 40 = .ok (.putfield 23, 3) := by decide +kernel
theorem d_Flow_100_43 : decode prog_2_method_1_code 43 = .ok (.aload_n 0, 1) := by decide +kernel
theorem d_Flow_100_44 : decode prog_2_method_1_code 44 = .ok (.new 9, 3) := by decide +kernel
theorem d_Flow_100_47 : decode prog_2_method_1_code 47 = .ok (.dup, 1) := by decide +kernel
theorem d_Flow_100_48 : decode prog_2_method_1_code 48 = .ok (.bipush 24, 2) := by decide +kernel
theorem d_Flow_100_50 : decode prog_2_method_1_code 50 = .ok (.invokespecial 11, 3) := by decide +kernel
theorem d_Flow_100_53 : decode prog_2_method_1_code 53 = .ok (.putfield 26, 3) := by decide +kernel
theorem d_Flow_100_56 : decode prog_2_method_1_code 56 = .ok (.aload_n 0, 1) := by decide +kernel
theorem d_Flow_100_57 : decode prog_2_method_1_code 57 = .ok (.new 9, 3) := by decide +kernel
theorem d_Flow_100_60 : decode prog_2_method_1_code 60 = .ok (.dup, 1) := by decide +kernel
theorem d_Flow_100_61 : decode prog_2_method_1_code 61 = .ok (.bipush 24, 2) := by decide +kernel
theorem d_Flow_100_63 : decode prog_2_method_1_code 63 = .ok (.invokespecial 11, 3) := by decide +kernel
theorem d_Flow_100_66 : decode prog_2_method_1_code 66 = .ok (.putfield 29, 3) := by decide +kernel
theorem d_Flow_100_69 : decode prog_2_method_1_code 69 = .ok (.aload_n 0, 1) := by decide +kernel
theorem d_Flow_100_70 : decode prog_2_method_1_code 70 = .ok (.iconst 0, 1) := by decide +kernel
theorem d_Flow_100_71 : decode prog_2_method_1_code 71 = .ok (.putfield 32, 3) := by decide +kernel
theorem d_Flow_100_74 : decode prog_2_method_1_code 74 = .ok (.aload_n 0, 1) := by decide +kernel
theorem d_Flow_100_75 : decode prog_2_method_1_code 75 = .ok (.iconst 0, 1) := by decide +kernel
theorem d_Flow_100_76 : decode prog_2_method_1_code 76 = .ok (.putfield 36, 3) := by decide +kernel
theorem d_Flow_100_79 : decode prog_2_method_1_code 79 = .ok (.aload_n 0, 1) := by decide +kernel
theorem d_Flow_100_80 : decode prog_2_method_1_code 80 = .ok (.iconst 0, 1) := by decide +kernel
theorem d_Flow_100_81 : decode prog_2_method_1_code 81 = .ok (.putfield 39, 3) := by decide +kernel
theorem d_Flow_100_84 : decode prog_2_method_1_code 84 = .ok (.return_, 1) := by decide +kernel
def fm_new_Flow_100 (w : fa_W) : fa_W :=
  fa_let (fa_nw 101 w) fun w1 =>
  fa_let (fa_nw 102 (fa_st w1 101 1 0)) fun w2 =>
  fa_let (fa_nw 103 w2) fun w3 =>
  fa_let (fa_nw 104 (fa_st w3 103 1 0)) fun w4 =>
  fa_let (fa_nw 105 w4) fun w5 =>
  fa_let (fa_nw 106 (fa_st w5 105 1 0)) fun w6 =>
  fa_let (fa_nw 107 w6) fun w7 =>
  fa_let (fa_nw 108 (fa_st w7 107 1 0)) fun w8 =>
  fa_let (fa_nw 109 w8) fun w9 =>
  fa_let (fa_nw 110 (fa_st w9 109 1 0)) fun w10 =>
  fa_let (fa_st w10 100 5 0) fun w11 =>
  fa_let (fa_st w11 100 6 0) fun w12 =>
  fa_let (fa_st w12 100 7 (fa_bi false)) fun w13 =>
  w13
set_option maxHeartbeats 4000000 in
set_option maxRecDepth 100000 in
theorem n_Flow_100 {l : Launch} {D : va_G} {b : Nat} {aC : Nat → ClassId} {H0 : Heap} (w r : fa_W) (hM : fm_new_Flow_100 w = r) : fa_NC l D b aC H0 101 100 111 110 y_Flow_init prog_2_method_1_code 1 3 10 256 [.ref (b + 100)] w r := by
  refine fa_nenter (lv := [(0, .ref (b + 100))]) (by decide +kernel) (Nat.le_of_ble_eq_true rfl) rfl (fun hh hle hsz hnm X => ?_)
  unfold fm_new_Flow_100 at hM
  refine g_aload_n X 0 rfl d_Flow_100_0 ?_
  refine g_objInit X wd_329 wd_32 wd_33 (Nat.le_trans (Nat.le_of_ble_eq_true rfl) hle) (Nat.le_of_ble_eq_true rfl) d_Flow_100_1 ?_
  refine g_aload_n X 0 rfl d_Flow_100_4 ?_
  refine g_new X (N1 := 102) (c1 := 1) (s1 := 2) (by omega) ck_6 fh_101 (by decide +kernel) (by decide +kernel) wd_330 wd_35 wd_2 rfl rfl rfl (Nat.le_of_ble_eq_true rfl) (Nat.le_of_ble_eq_true rfl) d_Flow_100_5 (fun w1 ew1 => ?_)
  have hM := fa_let_to hM ew1
  refine g_dup X rfl d_Flow_100_8 ?_
  refine g_bipush X (by decide) d_Flow_100_9 ?_
  obtain ⟨w2, ew2⟩ : ∃ q, fa_nw 102 (fa_st w1 101 1 0) = q := ⟨_, rfl⟩
  have hM := fa_let_to hM ew2.symm
  refine g_callN X (c1 := 2) (s1 := 102) (by omega) mi_Row_init (n_Row_e 101 102 100 100 100 fh_101 (Nat.le_of_ble_eq_true rfl) fhs_102 (by decide +kernel) (by decide +kernel) (by decide +kernel) (by decide +kernel) (by decide) w1 _ ew2) wd_331 rfl (Nat.le_trans (Nat.le_of_ble_eq_true rfl) hle) (st := [.ref (b + 101), .ref (b + 100)]) (Nat.le_of_ble_eq_true rfl) rfl d_Flow_100_11 rfl rfl (Nat.le_of_ble_eq_true rfl) (Nat.le_of_ble_eq_true rfl) ?_
  refine g_putR X hnm ck_1 fh_100 (Nat.le_of_ble_eq_true rfl) 0 (by decide) wd_332 rfl rfl (by decide +kernel) (fa_ctR (t := 101) rfl (by decide +kernel) (by decide +kernel)) rfl rfl d_Flow_100_14 ?_
  refine g_aload_n X 0 rfl d_Flow_100_17 ?_
  refine g_new X (N1 := 104) (c1 := 3) (s1 := 104) (by omega) ck_6 fh_103 (by decide +kernel) (by decide +kernel) wd_330 wd_35 wd_2 rfl rfl rfl (Nat.le_of_ble_eq_true rfl) (Nat.le_of_ble_eq_true rfl) d_Flow_100_18 (fun w3 ew3 => ?_)
  have hM := fa_let_to hM ew3
  refine g_dup X rfl d_Flow_100_21 ?_
  refine g_bipush X (by decide) d_Flow_100_22 ?_
  obtain ⟨w4, ew4⟩ : ∃ q, fa_nw 104 (fa_st w3 103 1 0) = q := ⟨_, rfl⟩
  have hM := fa_let_to hM ew4.symm
  refine g_callN X (c1 := 4) (s1 := 178) (by omega) mi_Row_init (n_Row_e 103 104 102 74 74 fh_103 (Nat.le_of_ble_eq_true rfl) fhs_104 (by decide +kernel) (by decide +kernel) (by decide +kernel) (by decide +kernel) (by decide) w3 _ ew4) wd_331 rfl (Nat.le_trans (Nat.le_of_ble_eq_true rfl) hle) (st := [.ref (b + 103), .ref (b + 100)]) (Nat.le_of_ble_eq_true rfl) rfl d_Flow_100_24 rfl rfl (Nat.le_of_ble_eq_true rfl) (Nat.le_of_ble_eq_true rfl) ?_
  refine g_putR X hnm ck_1 fh_100 (Nat.le_of_ble_eq_true rfl) 1 (by decide) wd_334 rfl rfl (by decide +kernel) (fa_ctR (t := 103) rfl (by decide +kernel) (by decide +kernel)) rfl rfl d_Flow_100_27 ?_
  refine g_aload_n X 0 rfl d_Flow_100_30 ?_
  refine g_new X (N1 := 106) (c1 := 5) (s1 := 180) (by omega) ck_6 fh_105 (by decide +kernel) (by decide +kernel) wd_330 wd_35 wd_2 rfl rfl rfl (Nat.le_of_ble_eq_true rfl) (Nat.le_of_ble_eq_true rfl) d_Flow_100_31 (fun w5 ew5 => ?_)
  have hM := fa_let_to hM ew5
  refine g_dup X rfl d_Flow_100_34 ?_
  refine g_bipush X (by decide) d_Flow_100_35 ?_
  obtain ⟨w6, ew6⟩ : ∃ q, fa_nw 106 (fa_st w5 105 1 0) = q := ⟨_, rfl⟩
  have hM := fa_let_to hM ew6.symm
  refine g_callN X (c1 := 6) (s1 := 204) (by omega) mi_Row_init (n_Row_e 105 106 104 24 24 fh_105 (Nat.le_of_ble_eq_true rfl) fhs_106 (by decide +kernel) (by decide +kernel) (by decide +kernel) (by decide +kernel) (by decide) w5 _ ew6) wd_331 rfl (Nat.le_trans (Nat.le_of_ble_eq_true rfl) hle) (st := [.ref (b + 105), .ref (b + 100)]) (Nat.le_of_ble_eq_true rfl) rfl d_Flow_100_37 rfl rfl (Nat.le_of_ble_eq_true rfl) (Nat.le_of_ble_eq_true rfl) ?_
  refine g_putR X hnm ck_1 fh_100 (Nat.le_of_ble_eq_true rfl) 2 (by decide) wd_336 rfl rfl (by decide +kernel) (fa_ctR (t := 105) rfl (by decide +kernel) (by decide +kernel)) rfl rfl d_Flow_100_40 ?_
  refine g_aload_n X 0 rfl d_Flow_100_43 ?_
  refine g_new X (N1 := 108) (c1 := 7) (s1 := 206) (by omega) ck_6 fh_107 (by decide +kernel) (by decide +kernel) wd_330 wd_35 wd_2 rfl rfl rfl (Nat.le_of_ble_eq_true rfl) (Nat.le_of_ble_eq_true rfl) d_Flow_100_44 (fun w7 ew7 => ?_)
  have hM := fa_let_to hM ew7
  refine g_dup X rfl d_Flow_100_47 ?_
  refine g_bipush X (by decide) d_Flow_100_48 ?_
  obtain ⟨w8, ew8⟩ : ∃ q, fa_nw 108 (fa_st w7 107 1 0) = q := ⟨_, rfl⟩
  have hM := fa_let_to hM ew8.symm
  refine g_callN X (c1 := 8) (s1 := 230) (by omega) mi_Row_init (n_Row_e 107 108 106 24 24 fh_107 (Nat.le_of_ble_eq_true rfl) fhs_108 (by decide +kernel) (by decide +kernel) (by decide +kernel) (by decide +kernel) (by decide) w7 _ ew8) wd_331 rfl (Nat.le_trans (Nat.le_of_ble_eq_true rfl) hle) (st := [.ref (b + 107), .ref (b + 100)]) (Nat.le_of_ble_eq_true rfl) rfl d_Flow_100_50 rfl rfl (Nat.le_of_ble_eq_true rfl) (Nat.le_of_ble_eq_true rfl) ?_
  refine g_putR X hnm ck_1 fh_100 (Nat.le_of_ble_eq_true rfl) 3 (by decide) wd_338 rfl rfl (by decide +kernel) (fa_ctR (t := 107) rfl (by decide +kernel) (by decide +kernel)) rfl rfl d_Flow_100_53 ?_
  refine g_aload_n X 0 rfl d_Flow_100_56 ?_
  refine g_new X (N1 := 110) (c1 := 9) (s1 := 232) (by omega) ck_6 fh_109 (by decide +kernel) (by decide +kernel) wd_330 wd_35 wd_2 rfl rfl rfl (Nat.le_of_ble_eq_true rfl) (Nat.le_of_ble_eq_true rfl) d_Flow_100_57 (fun w9 ew9 => ?_)
  have hM := fa_let_to hM ew9
  refine g_dup X rfl d_Flow_100_60 ?_
  refine g_bipush X (by decide) d_Flow_100_61 ?_
  obtain ⟨w10, ew10⟩ : ∃ q, fa_nw 110 (fa_st w9 109 1 0) = q := ⟨_, rfl⟩
  have hM := fa_let_to hM ew10.symm
  refine g_callN X (c1 := 10) (s1 := 256) (by omega) mi_Row_init (n_Row_e 109 110 108 24 24 fh_109 (Nat.le_of_ble_eq_true rfl) fhs_110 (by decide +kernel) (by decide +kernel) (by decide +kernel) (by decide +kernel) (by decide) w9 _ ew10) wd_331 rfl (Nat.le_trans (Nat.le_of_ble_eq_true rfl) hle) (st := [.ref (b + 109), .ref (b + 100)]) (Nat.le_of_ble_eq_true rfl) rfl d_Flow_100_63 rfl rfl (Nat.le_of_ble_eq_true rfl) (Nat.le_of_ble_eq_true rfl) ?_
  refine g_putR X hnm ck_1 fh_100 (Nat.le_of_ble_eq_true rfl) 4 (by decide) wd_339 rfl rfl (by decide +kernel) (fa_ctR (t := 109) rfl (by decide +kernel) (by decide +kernel)) rfl rfl d_Flow_100_66 ?_
  refine g_aload_n X 0 rfl d_Flow_100_69 ?_
  refine g_iconst X d_Flow_100_70 ?_
  refine g_put X ck_1 fh_100 (Nat.le_of_ble_eq_true rfl) 5 (z := 0) (by decide) wd_341 rfl (fa_fvI' rfl) rfl rfl rfl d_Flow_100_71 (fun w11 ew11 => ?_)
  have hM := fa_let_to hM ew11
  refine g_aload_n X 0 rfl d_Flow_100_74 ?_
  refine g_iconst X d_Flow_100_75 ?_
  refine g_put X ck_1 fh_100 (Nat.le_of_ble_eq_true rfl) 6 (z := 0) (by decide) wd_344 rfl (fa_fvI' rfl) rfl rfl rfl d_Flow_100_76 (fun w12 ew12 => ?_)
  have hM := fa_let_to hM ew12
  refine g_aload_n X 0 rfl d_Flow_100_79 ?_
  refine g_iconst X d_Flow_100_80 ?_
  refine g_put X ck_1 fh_100 (Nat.le_of_ble_eq_true rfl) 7 (z := (fa_bi false)) (by decide) wd_348 rfl (fa_fvB' rfl) rfl (fa_nb false).1 (fa_nb false).2 d_Flow_100_81 (fun w13 ew13 => ?_)
  have hM := fa_let_to hM ew13
  subst hM
  exact g_cvret X d_Flow_100_84
theorem d_Groups_111_0 : decode prog_3_method_1_code 0 = .ok (.aload_n 0, 1) := by decide +kernel
theorem d_Groups_111_1 : decode prog_3_method_1_code 1 = .ok (.invokespecial 3, 3) := by decide +kernel
theorem d_Groups_111_4 : decode prog_3_method_1_code 4 = .ok (.aload_n 0, 1) := by decide +kernel
theorem d_Groups_111_5 : decode prog_3_method_1_code 5 = .ok (.new 9, 3) := by decide +kernel
theorem d_Groups_111_8 : decode prog_3_method_1_code 8 = .ok (.dup, 1) := by decide +kernel
theorem d_Groups_111_9 : decode prog_3_method_1_code 9 = .ok (.bipush 72, 2) := by decide +kernel
theorem d_Groups_111_11 : decode prog_3_method_1_code 11 = .ok (.invokespecial 11, 3) := by decide +kernel
theorem d_Groups_111_14 : decode prog_3_method_1_code 14 = .ok (.putfield 14, 3) := by decide +kernel
theorem d_Groups_111_17 : decode prog_3_method_1_code 17 = .ok (.aload_n 0, 1) := by decide +kernel
theorem d_Groups_111_18 : decode prog_3_method_1_code 18 = .ok (.new 9, 3) := by decide +kernel
theorem d_Groups_111_21 : decode prog_3_method_1_code 21 = .ok (.dup, 1) := by decide +kernel
theorem d_Groups_111_22 : decode prog_3_method_1_code 22 = .ok (.iconst 3, 1) := by decide +kernel
theorem d_Groups_111_23 : decode prog_3_method_1_code 23 = .ok (.invokespecial 11, 3) := by decide +kernel
theorem d_Groups_111_26 : decode prog_3_method_1_code 26 = .ok (.putfield 20, 3) := by decide +kernel
theorem d_Groups_111_29 : decode prog_3_method_1_code 29 = .ok (.aload_n 0, 1) := by decide +kernel
theorem d_Groups_111_30 : decode prog_3_method_1_code 30 = .ok (.new 9, 3) := by decide +kernel
theorem d_Groups_111_33 : decode prog_3_method_1_code 33 = .ok (.dup, 1) := by decide +kernel
theorem d_Groups_111_34 : decode prog_3_method_1_code 34 = .ok (.bipush 24, 2) := by decide +kernel
theorem d_Groups_111_36 : decode prog_3_method_1_code 36 = .ok (.invokespecial 11, 3) := by decide +kernel
theorem d_Groups_111_39 : decode prog_3_method_1_code 39 = .ok (.putfield 23, 3) := by decide +kernel
theorem d_Groups_111_42 : decode prog_3_method_1_code 42 = .ok (.return_, 1) := by decide +kernel
def fm_new_Groups_111 (w : fa_W) : fa_W :=
  fa_let (fa_nw 112 w) fun w1 =>
  fa_let (fa_nw 113 (fa_st w1 112 1 0)) fun w2 =>
  fa_let (fa_nw 114 w2) fun w3 =>
  fa_let (fa_nw 115 (fa_st w3 114 1 0)) fun w4 =>
  fa_let (fa_nw 116 w4) fun w5 =>
  fa_let (fa_nw 117 (fa_st w5 116 1 0)) fun w6 =>
  w6
set_option maxHeartbeats 4000000 in
set_option maxRecDepth 100000 in
theorem n_Groups_111 {l : Launch} {D : va_G} {b : Nat} {aC : Nat → ClassId} {H0 : Heap} (w r : fa_W) (hM : fm_new_Groups_111 w = r) : fa_NC l D b aC H0 112 111 118 117 y_Groups_init prog_3_method_1_code 1 3 6 105 [.ref (b + 111)] w r := by
  refine fa_nenter (lv := [(0, .ref (b + 111))]) (by decide +kernel) (Nat.le_of_ble_eq_true rfl) rfl (fun hh hle hsz hnm X => ?_)
  unfold fm_new_Groups_111 at hM
  refine g_aload_n X 0 rfl d_Groups_111_0 ?_
  refine g_objInit X wd_371 wd_32 wd_33 (Nat.le_trans (Nat.le_of_ble_eq_true rfl) hle) (Nat.le_of_ble_eq_true rfl) d_Groups_111_1 ?_
  refine g_aload_n X 0 rfl d_Groups_111_4 ?_
  refine g_new X (N1 := 113) (c1 := 1) (s1 := 2) (by omega) ck_6 fh_112 (by decide +kernel) (by decide +kernel) wd_372 wd_35 wd_2 rfl rfl rfl (Nat.le_of_ble_eq_true rfl) (Nat.le_of_ble_eq_true rfl) d_Groups_111_5 (fun w1 ew1 => ?_)
  have hM := fa_let_to hM ew1
  refine g_dup X rfl d_Groups_111_8 ?_
  refine g_bipush X (by decide) d_Groups_111_9 ?_
  obtain ⟨w2, ew2⟩ : ∃ q, fa_nw 113 (fa_st w1 112 1 0) = q := ⟨_, rfl⟩
  have hM := fa_let_to hM ew2.symm
  refine g_callN X (c1 := 2) (s1 := 74) (by omega) mi_Row_init (n_Row_e 112 113 111 72 72 fh_112 (Nat.le_of_ble_eq_true rfl) fhs_113 (by decide +kernel) (by decide +kernel) (by decide +kernel) (by decide +kernel) (by decide) w1 _ ew2) wd_373 rfl (Nat.le_trans (Nat.le_of_ble_eq_true rfl) hle) (st := [.ref (b + 112), .ref (b + 111)]) (Nat.le_of_ble_eq_true rfl) rfl d_Groups_111_11 rfl rfl (Nat.le_of_ble_eq_true rfl) (Nat.le_of_ble_eq_true rfl) ?_
  refine g_putR X hnm ck_2 fh_111 (Nat.le_of_ble_eq_true rfl) 0 (by decide) wd_374 rfl rfl (by decide +kernel) (fa_ctR (t := 112) rfl (by decide +kernel) (by decide +kernel)) rfl rfl d_Groups_111_14 ?_
  refine g_aload_n X 0 rfl d_Groups_111_17 ?_
  refine g_new X (N1 := 115) (c1 := 3) (s1 := 76) (by omega) ck_6 fh_114 (by decide +kernel) (by decide +kernel) wd_372 wd_35 wd_2 rfl rfl rfl (Nat.le_of_ble_eq_true rfl) (Nat.le_of_ble_eq_true rfl) d_Groups_111_18 (fun w3 ew3 => ?_)
  have hM := fa_let_to hM ew3
  refine g_dup X rfl d_Groups_111_21 ?_
  refine g_iconst X d_Groups_111_22 ?_
  obtain ⟨w4, ew4⟩ : ∃ q, fa_nw 115 (fa_st w3 114 1 0) = q := ⟨_, rfl⟩
  have hM := fa_let_to hM ew4.symm
  refine g_callN X (c1 := 4) (s1 := 79) (by omega) mi_Row_init (n_Row_e 114 115 113 3 3 fh_114 (Nat.le_of_ble_eq_true rfl) fhs_115 (by decide +kernel) (by decide +kernel) (by decide +kernel) (by decide +kernel) (by decide) w3 _ ew4) wd_373 rfl (Nat.le_trans (Nat.le_of_ble_eq_true rfl) hle) (st := [.ref (b + 114), .ref (b + 111)]) (Nat.le_of_ble_eq_true rfl) rfl d_Groups_111_23 rfl rfl (Nat.le_of_ble_eq_true rfl) (Nat.le_of_ble_eq_true rfl) ?_
  refine g_putR X hnm ck_2 fh_111 (Nat.le_of_ble_eq_true rfl) 1 (by decide) wd_375 rfl rfl (by decide +kernel) (fa_ctR (t := 114) rfl (by decide +kernel) (by decide +kernel)) rfl rfl d_Groups_111_26 ?_
  refine g_aload_n X 0 rfl d_Groups_111_29 ?_
  refine g_new X (N1 := 117) (c1 := 5) (s1 := 81) (by omega) ck_6 fh_116 (by decide +kernel) (by decide +kernel) wd_372 wd_35 wd_2 rfl rfl rfl (Nat.le_of_ble_eq_true rfl) (Nat.le_of_ble_eq_true rfl) d_Groups_111_30 (fun w5 ew5 => ?_)
  have hM := fa_let_to hM ew5
  refine g_dup X rfl d_Groups_111_33 ?_
  refine g_bipush X (by decide) d_Groups_111_34 ?_
  obtain ⟨w6, ew6⟩ : ∃ q, fa_nw 117 (fa_st w5 116 1 0) = q := ⟨_, rfl⟩
  have hM := fa_let_to hM ew6.symm
  refine g_callN X (c1 := 6) (s1 := 105) (by omega) mi_Row_init (n_Row_e 116 117 115 24 24 fh_116 (Nat.le_of_ble_eq_true rfl) fhs_117 (by decide +kernel) (by decide +kernel) (by decide +kernel) (by decide +kernel) (by decide) w5 _ ew6) wd_373 rfl (Nat.le_trans (Nat.le_of_ble_eq_true rfl) hle) (st := [.ref (b + 116), .ref (b + 111)]) (Nat.le_of_ble_eq_true rfl) rfl d_Groups_111_36 rfl rfl (Nat.le_of_ble_eq_true rfl) (Nat.le_of_ble_eq_true rfl) ?_
  refine g_putR X hnm ck_2 fh_111 (Nat.le_of_ble_eq_true rfl) 2 (by decide) wd_376 rfl rfl (by decide +kernel) (fa_ctR (t := 116) rfl (by decide +kernel) (by decide +kernel)) rfl rfl d_Groups_111_39 ?_
  subst hM
  exact g_cvret X d_Groups_111_42
theorem d_Scene_55_0 : decode prog_8_method_1_code 0 = .ok (.aload_n 0, 1) := by decide +kernel
theorem d_Scene_55_1 : decode prog_8_method_1_code 1 = .ok (.invokespecial 1, 3) := by decide +kernel
theorem d_Scene_55_4 : decode prog_8_method_1_code 4 = .ok (.aload_n 0, 1) := by decide +kernel
theorem d_Scene_55_5 : decode prog_8_method_1_code 5 = .ok (.new 7, 3) := by decide +kernel
theorem d_Scene_55_8 : decode prog_8_method_1_code 8 = .ok (.dup, 1) := by decide +kernel
theorem d_Scene_55_9 : decode prog_8_method_1_code 9 = .ok (.invokespecial 9, 3) := by decide +kernel
theorem d_Scene_55_12 : decode prog_8_method_1_code 12 = .ok (.putfield 10, 3) := by decide +kernel
theorem d_Scene_55_15 : decode prog_8_method_1_code 15 = .ok (.aload_n 0, 1) := by decide +kernel
theorem d_Scene_55_16 : decode prog_8_method_1_code 16 = .ok (.new 16, 3) := by decide +kernel
theorem d_Scene_55_19 : decode prog_8_method_1_code 19 = .ok (.dup, 1) := by decide +kernel
theorem d_Scene_55_20 : decode prog_8_method_1_code 20 = .ok (.invokespecial 18, 3) := by decide +kernel
theorem d_Scene_55_23 : decode prog_8_method_1_code 23 = .ok (.putfield 19, 3) := by decide +kernel
theorem d_Scene_55_26 : decode prog_8_method_1_code 26 = .ok (.aload_n 0, 1) := by decide +kernel
theorem d_Scene_55_27 : decode prog_8_method_1_code 27 = .ok (.new 23, 3) := by decide +kernel
theorem d_Scene_55_30 : decode prog_8_method_1_code 30 = .ok (.dup, 1) := by decide +kernel
theorem d_Scene_55_31 : decode prog_8_method_1_code 31 = .ok (.invokespecial 25, 3) := by decide +kernel
theorem d_Scene_55_34 : decode prog_8_method_1_code 34 = .ok (.putfield 26, 3) := by decide +kernel
theorem d_Scene_55_37 : decode prog_8_method_1_code 37 = .ok (.aload_n 0, 1) := by decide +kernel
theorem d_Scene_55_38 : decode prog_8_method_1_code 38 = .ok (.new 30, 3) := by decide +kernel
theorem d_Scene_55_41 : decode prog_8_method_1_code 41 = .ok (.dup, 1) := by decide +kernel
theorem d_Scene_55_42 : decode prog_8_method_1_code 42 = .ok (.invokespecial 32, 3) := by decide +kernel
theorem d_Scene_55_45 : decode prog_8_method_1_code 45 = .ok (.putfield 33, 3) := by decide +kernel
theorem d_Scene_55_48 : decode prog_8_method_1_code 48 = .ok (.return_, 1) := by decide +kernel
def fm_new_Scene_55 (w : fa_W) : fa_W :=
  fa_let (fa_nw 56 w) fun w1 =>
  fa_let (fm_new_Program_56 w1) fun w2 =>
  fa_let (fa_nw 83 w2) fun w3 =>
  fa_let (fm_new_Typing_83 w3) fun w4 =>
  fa_let (fa_nw 100 w4) fun w5 =>
  fa_let (fm_new_Flow_100 w5) fun w6 =>
  fa_let (fa_nw 111 w6) fun w7 =>
  fa_let (fm_new_Groups_111 w7) fun w8 =>
  w8
set_option maxHeartbeats 4000000 in
set_option maxRecDepth 100000 in
theorem n_Scene_55 {l : Launch} {D : va_G} {b : Nat} {aC : Nat → ClassId} {H0 : Heap} (w r : fa_W) (hM : fm_new_Scene_55 w = r) : fa_NC l D b aC H0 56 56 118 118 y_Scene_init prog_8_method_1_code 1 4 62 3840 [.ref (b + 55)] w r := by
  refine fa_nenter (lv := [(0, .ref (b + 55))]) (by decide +kernel) (Nat.le_of_ble_eq_true rfl) rfl (fun hh hle hsz hnm X => ?_)
  unfold fm_new_Scene_55 at hM
  refine g_aload_n X 0 rfl d_Scene_55_0 ?_
  refine g_objInit X wd_282 wd_32 wd_33 (Nat.le_trans (Nat.le_of_ble_eq_true rfl) hle) (Nat.le_of_ble_eq_true rfl) d_Scene_55_1 ?_
  refine g_aload_n X 0 rfl d_Scene_55_4 ?_
  refine g_new X (N1 := 57) (c1 := 1) (s1 := 17) (by omega) ck_4 fh_56 (by decide +kernel) (by decide +kernel) wd_283 wd_58 wd_5 rfl rfl rfl (Nat.le_of_ble_eq_true rfl) (Nat.le_of_ble_eq_true rfl) d_Scene_55_5 (fun w1 ew1 => ?_)
  have hM := fa_let_to hM ew1
  refine g_dup X rfl d_Scene_55_8 ?_
  obtain ⟨w2, ew2⟩ : ∃ q, fm_new_Program_56 w1 = q := ⟨_, rfl⟩
  have hM := fa_let_to hM ew2.symm
  refine g_callNN X (c1 := 27) (s1 := 1245) (by omega) mi_Program_init (n_Program_56 w1 _ ew2) wd_284 rfl (Nat.le_trans (Nat.le_of_ble_eq_true rfl) hle) (st := [.ref (b + 56), .ref (b + 55)]) (Nat.le_of_ble_eq_true rfl) rfl d_Scene_55_9 rfl rfl (Nat.le_of_ble_eq_true rfl) (Nat.le_of_ble_eq_true rfl) ?_
  refine g_putR X hnm ck_7 fh_55 (Nat.le_of_ble_eq_true rfl) 0 (by decide) wd_384 rfl rfl (by decide +kernel) (fa_ctR (t := 56) rfl (by decide +kernel) (by decide +kernel)) rfl rfl d_Scene_55_12 ?_
  refine g_aload_n X 0 rfl d_Scene_55_15 ?_
  refine g_new X (N1 := 84) (c1 := 28) (s1 := 1254) (by omega) ck_8 fh_83 (by decide +kernel) (by decide +kernel) wd_285 wd_286 wd_9 rfl rfl rfl (Nat.le_of_ble_eq_true rfl) (Nat.le_of_ble_eq_true rfl) d_Scene_55_16 (fun w3 ew3 => ?_)
  have hM := fa_let_to hM ew3
  refine g_dup X rfl d_Scene_55_19 ?_
  obtain ⟨w4, ew4⟩ : ∃ q, fm_new_Typing_83 w3 = q := ⟨_, rfl⟩
  have hM := fa_let_to hM ew4.symm
  refine g_callNN X (c1 := 44) (s1 := 3468) (by omega) mi_Typing_init (n_Typing_83 w3 _ ew4) wd_287 rfl (Nat.le_trans (Nat.le_of_ble_eq_true rfl) hle) (st := [.ref (b + 83), .ref (b + 55)]) (Nat.le_of_ble_eq_true rfl) rfl d_Scene_55_20 rfl rfl (Nat.le_of_ble_eq_true rfl) (Nat.le_of_ble_eq_true rfl) ?_
  refine g_putR X hnm ck_7 fh_55 (Nat.le_of_ble_eq_true rfl) 1 (by decide) wd_388 rfl rfl (by decide +kernel) (fa_ctR (t := 83) rfl (by decide +kernel) (by decide +kernel)) rfl rfl d_Scene_55_23 ?_
  refine g_aload_n X 0 rfl d_Scene_55_26 ?_
  refine g_new X (N1 := 101) (c1 := 45) (s1 := 3476) (by omega) ck_1 fh_100 (by decide +kernel) (by decide +kernel) wd_324 wd_325 wd_10 rfl rfl rfl (Nat.le_of_ble_eq_true rfl) (Nat.le_of_ble_eq_true rfl) d_Scene_55_27 (fun w5 ew5 => ?_)
  have hM := fa_let_to hM ew5
  refine g_dup X rfl d_Scene_55_30 ?_
  obtain ⟨w6, ew6⟩ : ∃ q, fm_new_Flow_100 w5 = q := ⟨_, rfl⟩
  have hM := fa_let_to hM ew6.symm
  refine g_callNN X (c1 := 55) (s1 := 3732) (by omega) mi_Flow_init (n_Flow_100 w5 _ ew6) wd_326 rfl (Nat.le_trans (Nat.le_of_ble_eq_true rfl) hle) (st := [.ref (b + 100), .ref (b + 55)]) (Nat.le_of_ble_eq_true rfl) rfl d_Scene_55_31 rfl rfl (Nat.le_of_ble_eq_true rfl) (Nat.le_of_ble_eq_true rfl) ?_
  refine g_putR X hnm ck_7 fh_55 (Nat.le_of_ble_eq_true rfl) 2 (by decide) wd_391 rfl rfl (by decide +kernel) (fa_ctR (t := 100) rfl (by decide +kernel) (by decide +kernel)) rfl rfl d_Scene_55_34 ?_
  refine g_aload_n X 0 rfl d_Scene_55_37 ?_
  refine g_new X (N1 := 112) (c1 := 56) (s1 := 3735) (by omega) ck_2 fh_111 (by decide +kernel) (by decide +kernel) wd_366 wd_367 wd_11 rfl rfl rfl (Nat.le_of_ble_eq_true rfl) (Nat.le_of_ble_eq_true rfl) d_Scene_55_38 (fun w7 ew7 => ?_)
  have hM := fa_let_to hM ew7
  refine g_dup X rfl d_Scene_55_41 ?_
  obtain ⟨w8, ew8⟩ : ∃ q, fm_new_Groups_111 w7 = q := ⟨_, rfl⟩
  have hM := fa_let_to hM ew8.symm
  refine g_callNN X (c1 := 62) (s1 := 3840) (by omega) mi_Groups_init (n_Groups_111 w7 _ ew8) wd_368 rfl (Nat.le_trans (Nat.le_of_ble_eq_true rfl) hle) (st := [.ref (b + 111), .ref (b + 55)]) (Nat.le_of_ble_eq_true rfl) rfl d_Scene_55_42 rfl rfl (Nat.le_of_ble_eq_true rfl) (Nat.le_of_ble_eq_true rfl) ?_
  refine g_putR X hnm ck_7 fh_55 (Nat.le_of_ble_eq_true rfl) 3 (by decide) wd_395 rfl rfl (by decide +kernel) (fa_ctR (t := 111) rfl (by decide +kernel) (by decide +kernel)) rfl rfl d_Scene_55_45 ?_
  subst hM
  exact g_cvret X d_Scene_55_48
theorem d_Program_119_0 : decode prog_5_method_1_code 0 = .ok (.aload_n 0, 1) := by decide +kernel
theorem d_Program_119_1 : decode prog_5_method_1_code 1 = .ok (.invokespecial 3, 3) := by decide +kernel
theorem d_Program_119_4 : decode prog_5_method_1_code 4 = .ok (.aload_n 0, 1) := by decide +kernel
theorem d_Program_119_5 : decode prog_5_method_1_code 5 = .ok (.new 9, 3) := by decide +kernel
theorem d_Program_119_8 : decode prog_5_method_1_code 8 = .ok (.dup, 1) := by decide +kernel
theorem d_Program_119_9 : decode prog_5_method_1_code 9 = .ok (.bipush 100, 2) := by decide +kernel
theorem d_Program_119_11 : decode prog_5_method_1_code 11 = .ok (.invokespecial 11, 3) := by decide +kernel
theorem d_Program_119_14 : decode prog_5_method_1_code 14 = .ok (.putfield 14, 3) := by decide +kernel
theorem d_Program_119_17 : decode prog_5_method_1_code 17 = .ok (.aload_n 0, 1) := by decide +kernel
theorem d_Program_119_18 : decode prog_5_method_1_code 18 = .ok (.new 9, 3) := by decide +kernel
theorem d_Program_119_21 : decode prog_5_method_1_code 21 = .ok (.dup, 1) := by decide +kernel
theorem d_Program_119_22 : decode prog_5_method_1_code 22 = .ok (.bipush 100, 2) := by decide +kernel
theorem d_Program_119_24 : decode prog_5_method_1_code 24 = .ok (.invokespecial 11, 3) := by decide +kernel
theorem d_Program_119_27 : decode prog_5_method_1_code 27 = .ok (.putfield 20, 3) := by decide +kernel
theorem d_Program_119_30 : decode prog_5_method_1_code 30 = .ok (.aload_n 0, 1) := by decide +kernel
theorem d_Program_119_31 : decode prog_5_method_1_code 31 = .ok (.new 9, 3) := by decide +kernel
theorem d_Program_119_34 : decode prog_5_method_1_code 34 = .ok (.dup, 1) := by decide +kernel
theorem d_Program_119_35 : decode prog_5_method_1_code 35 = .ok (.bipush 100, 2) := by decide +kernel
theorem d_Program_119_37 : decode prog_5_method_1_code 37 = .ok (.invokespecial 11, 3) := by decide +kernel
theorem d_Program_119_40 : decode prog_5_method_1_code 40 = .ok (.putfield 23, 3) := by decide +kernel
theorem d_Program_119_43 : decode prog_5_method_1_code 43 = .ok (.aload_n 0, 1) := by decide +kernel
theorem d_Program_119_44 : decode prog_5_method_1_code 44 = .ok (.new 9, 3) := by decide +kernel
theorem d_Program_119_47 : decode prog_5_method_1_code 47 = .ok (.dup, 1) := by decide +kernel
theorem d_Program_119_48 : decode prog_5_method_1_code 48 = .ok (.bipush 100, 2) := by decide +kernel
theorem d_Program_119_50 : decode prog_5_method_1_code 50 = .ok (.invokespecial 11, 3) := by decide +kernel
theorem d_Program_119_53 : decode prog_5_method_1_code 53 = .ok (.putfield 26, 3) := by decide +kernel
theorem d_Program_119_56 : decode prog_5_method_1_code 56 = .ok (.aload_n 0, 1) := by decide +kernel
theorem d_Program_119_57 : decode prog_5_method_1_code 57 = .ok (.new 9, 3) := by decide +kernel
theorem d_Program_119_60 : decode prog_5_method_1_code 60 = .ok (.dup, 1) := by decide +kernel
theorem d_Program_119_61 : decode prog_5_method_1_code 61 = .ok (.sipush 300, 3) := by decide +kernel
theorem d_Program_119_64 : decode prog_5_method_1_code 64 = .ok (.invokespecial 11, 3) := by decide +kernel
theorem d_Program_119_67 : decode prog_5_method_1_code 67 = .ok (.putfield 29, 3) := by decide +kernel
theorem d_Program_119_70 : decode prog_5_method_1_code 70 = .ok (.aload_n 0, 1) := by decide +kernel
theorem d_Program_119_71 : decode prog_5_method_1_code 71 = .ok (.new 9, 3) := by decide +kernel
theorem d_Program_119_74 : decode prog_5_method_1_code 74 = .ok (.dup, 1) := by decide +kernel
theorem d_Program_119_75 : decode prog_5_method_1_code 75 = .ok (.bipush 100, 2) := by decide +kernel
theorem d_Program_119_77 : decode prog_5_method_1_code 77 = .ok (.invokespecial 11, 3) := by decide +kernel
theorem d_Program_119_80 : decode prog_5_method_1_code 80 = .ok (.putfield 32, 3) := by decide +kernel
theorem d_Program_119_83 : decode prog_5_method_1_code 83 = .ok (.aload_n 0, 1) := by decide +kernel
theorem d_Program_119_84 : decode prog_5_method_1_code 84 = .ok (.new 9, 3) := by decide +kernel
theorem d_Program_119_87 : decode prog_5_method_1_code 87 = .ok (.dup, 1) := by decide +kernel
theorem d_Program_119_88 : decode prog_5_method_1_code 88 = .ok (.bipush 74, 2) := by decide +kernel
theorem d_Program_119_90 : decode prog_5_method_1_code 90 = .ok (.invokespecial 11, 3) := by decide +kernel
theorem d_Program_119_93 : decode prog_5_method_1_code 93 = .ok (.putfield 35, 3) := by decide +kernel
theorem d_Program_119_96 : decode prog_5_method_1_code 96 = .ok (.aload_n 0, 1) := by decide +kernel
theorem d_Program_119_97 : decode prog_5_method_1_code 97 = .ok (.new 9, 3) := by decide +kernel
theorem d_Program_119_100 : decode prog_5_method_1_code 100 = .ok (.dup, 1) := by decide +kernel
theorem d_Program_119_101 : decode prog_5_method_1_code 101 = .ok (.bipush 74, 2) := by decide +kernel
theorem d_Program_119_103 : decode prog_5_method_1_code 103 = .ok (.invokespecial 11, 3) := by decide +kernel
theorem d_Program_119_106 : decode prog_5_method_1_code 106 = .ok (.putfield 38, 3) := by decide +kernel
theorem d_Program_119_109 : decode prog_5_method_1_code 109 = .ok (.aload_n 0, 1) := by decide +kernel
theorem d_Program_119_110 : decode prog_5_method_1_code 110 = .ok (.new 9, 3) := by decide +kernel
theorem d_Program_119_113 : decode prog_5_method_1_code 113 = .ok (.dup, 1) := by decide +kernel
theorem d_Program_119_114 : decode prog_5_method_1_code 114 = .ok (.bipush 6, 2) := by decide +kernel
theorem d_Program_119_116 : decode prog_5_method_1_code 116 = .ok (.invokespecial 11, 3) := by decide +kernel
theorem d_Program_119_119 : decode prog_5_method_1_code 119 = .ok (.putfield 41, 3) := by decide +kernel
theorem d_Program_119_122 : decode prog_5_method_1_code 122 = .ok (.aload_n 0, 1) := by decide +kernel
theorem d_Program_119_123 : decode prog_5_method_1_code 123 = .ok (.new 9, 3) := by decide +kernel
theorem d_Program_119_126 : decode prog_5_method_1_code 126 = .ok (.dup, 1) := by decide +kernel
theorem d_Program_119_127 : decode prog_5_method_1_code 127 = .ok (.bipush 24, 2) := by decide +kernel
theorem d_Program_119_129 : decode prog_5_method_1_code 129 = .ok (.invokespecial 11, 3) := by decide +kernel
theorem d_Program_119_132 : decode prog_5_method_1_code 132 = .ok (.putfield 44, 3) := by decide +kernel
theorem d_Program_119_135 : decode prog_5_method_1_code 135 = .ok (.aload_n 0, 1) := by decide +kernel
theorem d_Program_119_136 : decode prog_5_method_1_code 136 = .ok (.new 9, 3) := by decide +kernel
theorem d_Program_119_139 : decode prog_5_method_1_code 139 = .ok (.dup, 1) := by decide +kernel
theorem d_Program_119_140 : decode prog_5_method_1_code 140 = .ok (.bipush 24, 2) := by decide +kernel
theorem d_Program_119_142 : decode prog_5_method_1_code 142 = .ok (.invokespecial 11, 3) := by decide +kernel
theorem d_Program_119_145 : decode prog_5_method_1_code 145 = .ok (.putfield 47, 3) := by decide +kernel
theorem d_Program_119_148 : decode prog_5_method_1_code 148 = .ok (.aload_n 0, 1) := by decide +kernel
theorem d_Program_119_149 : decode prog_5_method_1_code 149 = .ok (.new 9, 3) := by decide +kernel
theorem d_Program_119_152 : decode prog_5_method_1_code 152 = .ok (.dup, 1) := by decide +kernel
theorem d_Program_119_153 : decode prog_5_method_1_code 153 = .ok (.bipush 100, 2) := by decide +kernel
theorem d_Program_119_155 : decode prog_5_method_1_code 155 = .ok (.invokespecial 11, 3) := by decide +kernel
theorem d_Program_119_158 : decode prog_5_method_1_code 158 = .ok (.putfield 50, 3) := by decide +kernel
theorem d_Program_119_161 : decode prog_5_method_1_code 161 = .ok (.aload_n 0, 1) := by decide +kernel
theorem d_Program_119_162 : decode prog_5_method_1_code 162 = .ok (.new 9, 3) := by decide +kernel
theorem d_Program_119_165 : decode prog_5_method_1_code 165 = .ok (.dup, 1) := by decide +kernel
theorem d_Program_119_166 : decode prog_5_method_1_code 166 = .ok (.bipush 100, 2) := by decide +kernel
theorem d_Program_119_168 : decode prog_5_method_1_code 168 = .ok (.invokespecial 11, 3) := by decide +kernel
theorem d_Program_119_171 : decode prog_5_method_1_code 171 = .ok (.putfield 53, 3) := by decide +kernel
theorem d_Program_119_174 : decode prog_5_method_1_code 174 = .ok (.aload_n 0, 1) := by decide +kernel
theorem d_Program_119_175 : decode prog_5_method_1_code 175 = .ok (.iconst 0, 1) := by decide +kernel
theorem d_Program_119_176 : decode prog_5_method_1_code 176 = .ok (.putfield 56, 3) := by decide +kernel
theorem d_Program_119_179 : decode prog_5_method_1_code 179 = .ok (.aload_n 0, 1) := by decide +kernel
theorem d_Program_119_180 : decode prog_5_method_1_code 180 = .ok (.iconst 0, 1) := by decide +kernel
theorem d_Program_119_181 : decode prog_5_method_1_code 181 = .ok (.putfield 60, 3) := by decide +kernel
theorem d_Program_119_184 : decode prog_5_method_1_code 184 = .ok (.aload_n 0, 1) := by decide +kernel
theorem d_Program_119_185 : decode prog_5_method_1_code 185 = .ok (.iconst 0, 1) := by decide +kernel
theorem d_Program_119_186 : decode prog_5_method_1_code 186 = .ok (.putfield 63, 3) := by decide +kernel
theorem d_Program_119_189 : decode prog_5_method_1_code 189 = .ok (.aload_n 0, 1) := by decide +kernel
theorem d_Program_119_190 : decode prog_5_method_1_code 190 = .ok (.iconst (-1), 1) := by decide +kernel
theorem d_Program_119_191 : decode prog_5_method_1_code 191 = .ok (.putfield 66, 3) := by decide +kernel
theorem d_Program_119_194 : decode prog_5_method_1_code 194 = .ok (.return_, 1) := by decide +kernel
def fm_new_Program_119 (w : fa_W) : fa_W :=
  fa_let (fa_nw 120 w) fun w1 =>
  fa_let (fa_nw 121 (fa_st w1 120 1 0)) fun w2 =>
  fa_let (fa_nw 122 w2) fun w3 =>
  fa_let (fa_nw 123 (fa_st w3 122 1 0)) fun w4 =>
  fa_let (fa_nw 124 w4) fun w5 =>
  fa_let (fa_nw 125 (fa_st w5 124 1 0)) fun w6 =>
  fa_let (fa_nw 126 w6) fun w7 =>
  fa_let (fa_nw 127 (fa_st w7 126 1 0)) fun w8 =>
  fa_let (fa_nw 128 w8) fun w9 =>
  fa_let (fa_nw 129 (fa_st w9 128 1 0)) fun w10 =>
  fa_let (fa_nw 130 w10) fun w11 =>
  fa_let (fa_nw 131 (fa_st w11 130 1 0)) fun w12 =>
  fa_let (fa_nw 132 w12) fun w13 =>
  fa_let (fa_nw 133 (fa_st w13 132 1 0)) fun w14 =>
  fa_let (fa_nw 134 w14) fun w15 =>
  fa_let (fa_nw 135 (fa_st w15 134 1 0)) fun w16 =>
  fa_let (fa_nw 136 w16) fun w17 =>
  fa_let (fa_nw 137 (fa_st w17 136 1 0)) fun w18 =>
  fa_let (fa_nw 138 w18) fun w19 =>
  fa_let (fa_nw 139 (fa_st w19 138 1 0)) fun w20 =>
  fa_let (fa_nw 140 w20) fun w21 =>
  fa_let (fa_nw 141 (fa_st w21 140 1 0)) fun w22 =>
  fa_let (fa_nw 142 w22) fun w23 =>
  fa_let (fa_nw 143 (fa_st w23 142 1 0)) fun w24 =>
  fa_let (fa_nw 144 w24) fun w25 =>
  fa_let (fa_nw 145 (fa_st w25 144 1 0)) fun w26 =>
  fa_let (fa_st w26 119 13 0) fun w27 =>
  fa_let (fa_st w27 119 14 0) fun w28 =>
  fa_let (fa_st w28 119 15 0) fun w29 =>
  fa_let (fa_st w29 119 16 (-1)) fun w30 =>
  w30
set_option maxHeartbeats 4000000 in
set_option maxRecDepth 100000 in
theorem n_Program_119 {l : Launch} {D : va_G} {b : Nat} {aC : Nat → ClassId} {H0 : Heap} (w r : fa_W) (hM : fm_new_Program_119 w = r) : fa_NC l D b aC H0 120 119 146 145 y_Program_init prog_5_method_1_code 1 3 26 1228 [.ref (b + 119)] w r := by
  refine fa_nenter (lv := [(0, .ref (b + 119))]) (by decide +kernel) (Nat.le_of_ble_eq_true rfl) rfl (fun hh hle hsz hnm X => ?_)
  unfold fm_new_Program_119 at hM
  refine g_aload_n X 0 rfl d_Program_119_0 ?_
  refine g_objInit X wd_62 wd_32 wd_33 (Nat.le_trans (Nat.le_of_ble_eq_true rfl) hle) (Nat.le_of_ble_eq_true rfl) d_Program_119_1 ?_
  refine g_aload_n X 0 rfl d_Program_119_4 ?_
  refine g_new X (N1 := 121) (c1 := 1) (s1 := 2) (by omega) ck_6 fh_120 (by decide +kernel) (by decide +kernel) wd_63 wd_35 wd_2 rfl rfl rfl (Nat.le_of_ble_eq_true rfl) (Nat.le_of_ble_eq_true rfl) d_Program_119_5 (fun w1 ew1 => ?_)
  have hM := fa_let_to hM ew1
  refine g_dup X rfl d_Program_119_8 ?_
  refine g_bipush X (by decide) d_Program_119_9 ?_
  obtain ⟨w2, ew2⟩ : ∃ q, fa_nw 121 (fa_st w1 120 1 0) = q := ⟨_, rfl⟩
  have hM := fa_let_to hM ew2.symm
  refine g_callN X (c1 := 2) (s1 := 102) (by omega) mi_Row_init (n_Row_e 120 121 119 100 100 fh_120 (Nat.le_of_ble_eq_true rfl) fhs_121 (by decide +kernel) (by decide +kernel) (by decide +kernel) (by decide +kernel) (by decide) w1 _ ew2) wd_64 rfl (Nat.le_trans (Nat.le_of_ble_eq_true rfl) hle) (st := [.ref (b + 120), .ref (b + 119)]) (Nat.le_of_ble_eq_true rfl) rfl d_Program_119_11 rfl rfl (Nat.le_of_ble_eq_true rfl) (Nat.le_of_ble_eq_true rfl) ?_
  refine g_putR X hnm ck_4 fh_119 (Nat.le_of_ble_eq_true rfl) 0 (by decide) wd_65 rfl rfl (by decide +kernel) (fa_ctR (t := 120) rfl (by decide +kernel) (by decide +kernel)) rfl rfl d_Program_119_14 ?_
  refine g_aload_n X 0 rfl d_Program_119_17 ?_
  refine g_new X (N1 := 123) (c1 := 3) (s1 := 104) (by omega) ck_6 fh_122 (by decide +kernel) (by decide +kernel) wd_63 wd_35 wd_2 rfl rfl rfl (Nat.le_of_ble_eq_true rfl) (Nat.le_of_ble_eq_true rfl) d_Program_119_18 (fun w3 ew3 => ?_)
  have hM := fa_let_to hM ew3
  refine g_dup X rfl d_Program_119_21 ?_
  refine g_bipush X (by decide) d_Program_119_22 ?_
  obtain ⟨w4, ew4⟩ : ∃ q, fa_nw 123 (fa_st w3 122 1 0) = q := ⟨_, rfl⟩
  have hM := fa_let_to hM ew4.symm
  refine g_callN X (c1 := 4) (s1 := 204) (by omega) mi_Row_init (n_Row_e 122 123 121 100 100 fh_122 (Nat.le_of_ble_eq_true rfl) fhs_123 (by decide +kernel) (by decide +kernel) (by decide +kernel) (by decide +kernel) (by decide) w3 _ ew4) wd_64 rfl (Nat.le_trans (Nat.le_of_ble_eq_true rfl) hle) (st := [.ref (b + 122), .ref (b + 119)]) (Nat.le_of_ble_eq_true rfl) rfl d_Program_119_24 rfl rfl (Nat.le_of_ble_eq_true rfl) (Nat.le_of_ble_eq_true rfl) ?_
  refine g_putR X hnm ck_4 fh_119 (Nat.le_of_ble_eq_true rfl) 1 (by decide) wd_66 rfl rfl (by decide +kernel) (fa_ctR (t := 122) rfl (by decide +kernel) (by decide +kernel)) rfl rfl d_Program_119_27 ?_
  refine g_aload_n X 0 rfl d_Program_119_30 ?_
  refine g_new X (N1 := 125) (c1 := 5) (s1 := 206) (by omega) ck_6 fh_124 (by decide +kernel) (by decide +kernel) wd_63 wd_35 wd_2 rfl rfl rfl (Nat.le_of_ble_eq_true rfl) (Nat.le_of_ble_eq_true rfl) d_Program_119_31 (fun w5 ew5 => ?_)
  have hM := fa_let_to hM ew5
  refine g_dup X rfl d_Program_119_34 ?_
  refine g_bipush X (by decide) d_Program_119_35 ?_
  obtain ⟨w6, ew6⟩ : ∃ q, fa_nw 125 (fa_st w5 124 1 0) = q := ⟨_, rfl⟩
  have hM := fa_let_to hM ew6.symm
  refine g_callN X (c1 := 6) (s1 := 306) (by omega) mi_Row_init (n_Row_e 124 125 123 100 100 fh_124 (Nat.le_of_ble_eq_true rfl) fhs_125 (by decide +kernel) (by decide +kernel) (by decide +kernel) (by decide +kernel) (by decide) w5 _ ew6) wd_64 rfl (Nat.le_trans (Nat.le_of_ble_eq_true rfl) hle) (st := [.ref (b + 124), .ref (b + 119)]) (Nat.le_of_ble_eq_true rfl) rfl d_Program_119_37 rfl rfl (Nat.le_of_ble_eq_true rfl) (Nat.le_of_ble_eq_true rfl) ?_
  refine g_putR X hnm ck_4 fh_119 (Nat.le_of_ble_eq_true rfl) 2 (by decide) wd_67 rfl rfl (by decide +kernel) (fa_ctR (t := 124) rfl (by decide +kernel) (by decide +kernel)) rfl rfl d_Program_119_40 ?_
  refine g_aload_n X 0 rfl d_Program_119_43 ?_
  refine g_new X (N1 := 127) (c1 := 7) (s1 := 308) (by omega) ck_6 fh_126 (by decide +kernel) (by decide +kernel) wd_63 wd_35 wd_2 rfl rfl rfl (Nat.le_of_ble_eq_true rfl) (Nat.le_of_ble_eq_true rfl) d_Program_119_44 (fun w7 ew7 => ?_)
  have hM := fa_let_to hM ew7
  refine g_dup X rfl d_Program_119_47 ?_
  refine g_bipush X (by decide) d_Program_119_48 ?_
  obtain ⟨w8, ew8⟩ : ∃ q, fa_nw 127 (fa_st w7 126 1 0) = q := ⟨_, rfl⟩
  have hM := fa_let_to hM ew8.symm
  refine g_callN X (c1 := 8) (s1 := 408) (by omega) mi_Row_init (n_Row_e 126 127 125 100 100 fh_126 (Nat.le_of_ble_eq_true rfl) fhs_127 (by decide +kernel) (by decide +kernel) (by decide +kernel) (by decide +kernel) (by decide) w7 _ ew8) wd_64 rfl (Nat.le_trans (Nat.le_of_ble_eq_true rfl) hle) (st := [.ref (b + 126), .ref (b + 119)]) (Nat.le_of_ble_eq_true rfl) rfl d_Program_119_50 rfl rfl (Nat.le_of_ble_eq_true rfl) (Nat.le_of_ble_eq_true rfl) ?_
  refine g_putR X hnm ck_4 fh_119 (Nat.le_of_ble_eq_true rfl) 3 (by decide) wd_68 rfl rfl (by decide +kernel) (fa_ctR (t := 126) rfl (by decide +kernel) (by decide +kernel)) rfl rfl d_Program_119_53 ?_
  refine g_aload_n X 0 rfl d_Program_119_56 ?_
  refine g_new X (N1 := 129) (c1 := 9) (s1 := 410) (by omega) ck_6 fh_128 (by decide +kernel) (by decide +kernel) wd_63 wd_35 wd_2 rfl rfl rfl (Nat.le_of_ble_eq_true rfl) (Nat.le_of_ble_eq_true rfl) d_Program_119_57 (fun w9 ew9 => ?_)
  have hM := fa_let_to hM ew9
  refine g_dup X rfl d_Program_119_60 ?_
  refine g_sipush X (by decide) d_Program_119_61 ?_
  obtain ⟨w10, ew10⟩ : ∃ q, fa_nw 129 (fa_st w9 128 1 0) = q := ⟨_, rfl⟩
  have hM := fa_let_to hM ew10.symm
  refine g_callN X (c1 := 10) (s1 := 710) (by omega) mi_Row_init (n_Row_e 128 129 127 300 300 fh_128 (Nat.le_of_ble_eq_true rfl) fhs_129 (by decide +kernel) (by decide +kernel) (by decide +kernel) (by decide +kernel) (by decide) w9 _ ew10) wd_64 rfl (Nat.le_trans (Nat.le_of_ble_eq_true rfl) hle) (st := [.ref (b + 128), .ref (b + 119)]) (Nat.le_of_ble_eq_true rfl) rfl d_Program_119_64 rfl rfl (Nat.le_of_ble_eq_true rfl) (Nat.le_of_ble_eq_true rfl) ?_
  refine g_putR X hnm ck_4 fh_119 (Nat.le_of_ble_eq_true rfl) 4 (by decide) wd_69 rfl rfl (by decide +kernel) (fa_ctR (t := 128) rfl (by decide +kernel) (by decide +kernel)) rfl rfl d_Program_119_67 ?_
  refine g_aload_n X 0 rfl d_Program_119_70 ?_
  refine g_new X (N1 := 131) (c1 := 11) (s1 := 712) (by omega) ck_6 fh_130 (by decide +kernel) (by decide +kernel) wd_63 wd_35 wd_2 rfl rfl rfl (Nat.le_of_ble_eq_true rfl) (Nat.le_of_ble_eq_true rfl) d_Program_119_71 (fun w11 ew11 => ?_)
  have hM := fa_let_to hM ew11
  refine g_dup X rfl d_Program_119_74 ?_
  refine g_bipush X (by decide) d_Program_119_75 ?_
  obtain ⟨w12, ew12⟩ : ∃ q, fa_nw 131 (fa_st w11 130 1 0) = q := ⟨_, rfl⟩
  have hM := fa_let_to hM ew12.symm
  refine g_callN X (c1 := 12) (s1 := 812) (by omega) mi_Row_init (n_Row_e 130 131 129 100 100 fh_130 (Nat.le_of_ble_eq_true rfl) fhs_131 (by decide +kernel) (by decide +kernel) (by decide +kernel) (by decide +kernel) (by decide) w11 _ ew12) wd_64 rfl (Nat.le_trans (Nat.le_of_ble_eq_true rfl) hle) (st := [.ref (b + 130), .ref (b + 119)]) (Nat.le_of_ble_eq_true rfl) rfl d_Program_119_77 rfl rfl (Nat.le_of_ble_eq_true rfl) (Nat.le_of_ble_eq_true rfl) ?_
  refine g_putR X hnm ck_4 fh_119 (Nat.le_of_ble_eq_true rfl) 5 (by decide) wd_70 rfl rfl (by decide +kernel) (fa_ctR (t := 130) rfl (by decide +kernel) (by decide +kernel)) rfl rfl d_Program_119_80 ?_
  refine g_aload_n X 0 rfl d_Program_119_83 ?_
  refine g_new X (N1 := 133) (c1 := 13) (s1 := 814) (by omega) ck_6 fh_132 (by decide +kernel) (by decide +kernel) wd_63 wd_35 wd_2 rfl rfl rfl (Nat.le_of_ble_eq_true rfl) (Nat.le_of_ble_eq_true rfl) d_Program_119_84 (fun w13 ew13 => ?_)
  have hM := fa_let_to hM ew13
  refine g_dup X rfl d_Program_119_87 ?_
  refine g_bipush X (by decide) d_Program_119_88 ?_
  obtain ⟨w14, ew14⟩ : ∃ q, fa_nw 133 (fa_st w13 132 1 0) = q := ⟨_, rfl⟩
  have hM := fa_let_to hM ew14.symm
  refine g_callN X (c1 := 14) (s1 := 888) (by omega) mi_Row_init (n_Row_e 132 133 131 74 74 fh_132 (Nat.le_of_ble_eq_true rfl) fhs_133 (by decide +kernel) (by decide +kernel) (by decide +kernel) (by decide +kernel) (by decide) w13 _ ew14) wd_64 rfl (Nat.le_trans (Nat.le_of_ble_eq_true rfl) hle) (st := [.ref (b + 132), .ref (b + 119)]) (Nat.le_of_ble_eq_true rfl) rfl d_Program_119_90 rfl rfl (Nat.le_of_ble_eq_true rfl) (Nat.le_of_ble_eq_true rfl) ?_
  refine g_putR X hnm ck_4 fh_119 (Nat.le_of_ble_eq_true rfl) 6 (by decide) wd_74 rfl rfl (by decide +kernel) (fa_ctR (t := 132) rfl (by decide +kernel) (by decide +kernel)) rfl rfl d_Program_119_93 ?_
  refine g_aload_n X 0 rfl d_Program_119_96 ?_
  refine g_new X (N1 := 135) (c1 := 15) (s1 := 890) (by omega) ck_6 fh_134 (by decide +kernel) (by decide +kernel) wd_63 wd_35 wd_2 rfl rfl rfl (Nat.le_of_ble_eq_true rfl) (Nat.le_of_ble_eq_true rfl) d_Program_119_97 (fun w15 ew15 => ?_)
  have hM := fa_let_to hM ew15
  refine g_dup X rfl d_Program_119_100 ?_
  refine g_bipush X (by decide) d_Program_119_101 ?_
  obtain ⟨w16, ew16⟩ : ∃ q, fa_nw 135 (fa_st w15 134 1 0) = q := ⟨_, rfl⟩
  have hM := fa_let_to hM ew16.symm
  refine g_callN X (c1 := 16) (s1 := 964) (by omega) mi_Row_init (n_Row_e 134 135 133 74 74 fh_134 (Nat.le_of_ble_eq_true rfl) fhs_135 (by decide +kernel) (by decide +kernel) (by decide +kernel) (by decide +kernel) (by decide) w15 _ ew16) wd_64 rfl (Nat.le_trans (Nat.le_of_ble_eq_true rfl) hle) (st := [.ref (b + 134), .ref (b + 119)]) (Nat.le_of_ble_eq_true rfl) rfl d_Program_119_103 rfl rfl (Nat.le_of_ble_eq_true rfl) (Nat.le_of_ble_eq_true rfl) ?_
  refine g_putR X hnm ck_4 fh_119 (Nat.le_of_ble_eq_true rfl) 7 (by decide) wd_78 rfl rfl (by decide +kernel) (fa_ctR (t := 134) rfl (by decide +kernel) (by decide +kernel)) rfl rfl d_Program_119_106 ?_
  refine g_aload_n X 0 rfl d_Program_119_109 ?_
  refine g_new X (N1 := 137) (c1 := 17) (s1 := 966) (by omega) ck_6 fh_136 (by decide +kernel) (by decide +kernel) wd_63 wd_35 wd_2 rfl rfl rfl (Nat.le_of_ble_eq_true rfl) (Nat.le_of_ble_eq_true rfl) d_Program_119_110 (fun w17 ew17 => ?_)
  have hM := fa_let_to hM ew17
  refine g_dup X rfl d_Program_119_113 ?_
  refine g_bipush X (by decide) d_Program_119_114 ?_
  obtain ⟨w18, ew18⟩ : ∃ q, fa_nw 137 (fa_st w17 136 1 0) = q := ⟨_, rfl⟩
  have hM := fa_let_to hM ew18.symm
  refine g_callN X (c1 := 18) (s1 := 972) (by omega) mi_Row_init (n_Row_e 136 137 135 6 6 fh_136 (Nat.le_of_ble_eq_true rfl) fhs_137 (by decide +kernel) (by decide +kernel) (by decide +kernel) (by decide +kernel) (by decide) w17 _ ew18) wd_64 rfl (Nat.le_trans (Nat.le_of_ble_eq_true rfl) hle) (st := [.ref (b + 136), .ref (b + 119)]) (Nat.le_of_ble_eq_true rfl) rfl d_Program_119_116 rfl rfl (Nat.le_of_ble_eq_true rfl) (Nat.le_of_ble_eq_true rfl) ?_
  refine g_putR X hnm ck_4 fh_119 (Nat.le_of_ble_eq_true rfl) 8 (by decide) wd_79 rfl rfl (by decide +kernel) (fa_ctR (t := 136) rfl (by decide +kernel) (by decide +kernel)) rfl rfl d_Program_119_119 ?_
  refine g_aload_n X 0 rfl d_Program_119_122 ?_
  refine g_new X (N1 := 139) (c1 := 19) (s1 := 974) (by omega) ck_6 fh_138 (by decide +kernel) (by decide +kernel) wd_63 wd_35 wd_2 rfl rfl rfl (Nat.le_of_ble_eq_true rfl) (Nat.le_of_ble_eq_true rfl) d_Program_119_123 (fun w19 ew19 => ?_)
  have hM := fa_let_to hM ew19
  refine g_dup X rfl d_Program_119_126 ?_
  refine g_bipush X (by decide) d_Program_119_127 ?_
  obtain ⟨w20, ew20⟩ : ∃ q, fa_nw 139 (fa_st w19 138 1 0) = q := ⟨_, rfl⟩
  have hM := fa_let_to hM ew20.symm
  refine g_callN X (c1 := 20) (s1 := 998) (by omega) mi_Row_init (n_Row_e 138 139 137 24 24 fh_138 (Nat.le_of_ble_eq_true rfl) fhs_139 (by decide +kernel) (by decide +kernel) (by decide +kernel) (by decide +kernel) (by decide) w19 _ ew20) wd_64 rfl (Nat.le_trans (Nat.le_of_ble_eq_true rfl) hle) (st := [.ref (b + 138), .ref (b + 119)]) (Nat.le_of_ble_eq_true rfl) rfl d_Program_119_129 rfl rfl (Nat.le_of_ble_eq_true rfl) (Nat.le_of_ble_eq_true rfl) ?_
  refine g_putR X hnm ck_4 fh_119 (Nat.le_of_ble_eq_true rfl) 9 (by decide) wd_82 rfl rfl (by decide +kernel) (fa_ctR (t := 138) rfl (by decide +kernel) (by decide +kernel)) rfl rfl d_Program_119_132 ?_
  refine g_aload_n X 0 rfl d_Program_119_135 ?_
  refine g_new X (N1 := 141) (c1 := 21) (s1 := 1000) (by omega) ck_6 fh_140 (by decide +kernel) (by decide +kernel) wd_63 wd_35 wd_2 rfl rfl rfl (Nat.le_of_ble_eq_true rfl) (Nat.le_of_ble_eq_true rfl) d_Program_119_136 (fun w21 ew21 => ?_)
  have hM := fa_let_to hM ew21
  refine g_dup X rfl d_Program_119_139 ?_
  refine g_bipush X (by decide) d_Program_119_140 ?_
  obtain ⟨w22, ew22⟩ : ∃ q, fa_nw 141 (fa_st w21 140 1 0) = q := ⟨_, rfl⟩
  have hM := fa_let_to hM ew22.symm
  refine g_callN X (c1 := 22) (s1 := 1024) (by omega) mi_Row_init (n_Row_e 140 141 139 24 24 fh_140 (Nat.le_of_ble_eq_true rfl) fhs_141 (by decide +kernel) (by decide +kernel) (by decide +kernel) (by decide +kernel) (by decide) w21 _ ew22) wd_64 rfl (Nat.le_trans (Nat.le_of_ble_eq_true rfl) hle) (st := [.ref (b + 140), .ref (b + 119)]) (Nat.le_of_ble_eq_true rfl) rfl d_Program_119_142 rfl rfl (Nat.le_of_ble_eq_true rfl) (Nat.le_of_ble_eq_true rfl) ?_
  refine g_putR X hnm ck_4 fh_119 (Nat.le_of_ble_eq_true rfl) 10 (by decide) wd_88 rfl rfl (by decide +kernel) (fa_ctR (t := 140) rfl (by decide +kernel) (by decide +kernel)) rfl rfl d_Program_119_145 ?_
  refine g_aload_n X 0 rfl d_Program_119_148 ?_
  refine g_new X (N1 := 143) (c1 := 23) (s1 := 1026) (by omega) ck_6 fh_142 (by decide +kernel) (by decide +kernel) wd_63 wd_35 wd_2 rfl rfl rfl (Nat.le_of_ble_eq_true rfl) (Nat.le_of_ble_eq_true rfl) d_Program_119_149 (fun w23 ew23 => ?_)
  have hM := fa_let_to hM ew23
  refine g_dup X rfl d_Program_119_152 ?_
  refine g_bipush X (by decide) d_Program_119_153 ?_
  obtain ⟨w24, ew24⟩ : ∃ q, fa_nw 143 (fa_st w23 142 1 0) = q := ⟨_, rfl⟩
  have hM := fa_let_to hM ew24.symm
  refine g_callN X (c1 := 24) (s1 := 1126) (by omega) mi_Row_init (n_Row_e 142 143 141 100 100 fh_142 (Nat.le_of_ble_eq_true rfl) fhs_143 (by decide +kernel) (by decide +kernel) (by decide +kernel) (by decide +kernel) (by decide) w23 _ ew24) wd_64 rfl (Nat.le_trans (Nat.le_of_ble_eq_true rfl) hle) (st := [.ref (b + 142), .ref (b + 119)]) (Nat.le_of_ble_eq_true rfl) rfl d_Program_119_155 rfl rfl (Nat.le_of_ble_eq_true rfl) (Nat.le_of_ble_eq_true rfl) ?_
  refine g_putR X hnm ck_4 fh_119 (Nat.le_of_ble_eq_true rfl) 11 (by decide) wd_89 rfl rfl (by decide +kernel) (fa_ctR (t := 142) rfl (by decide +kernel) (by decide +kernel)) rfl rfl d_Program_119_158 ?_
  refine g_aload_n X 0 rfl d_Program_119_161 ?_
  refine g_new X (N1 := 145) (c1 := 25) (s1 := 1128) (by omega) ck_6 fh_144 (by decide +kernel) (by decide +kernel) wd_63 wd_35 wd_2 rfl rfl rfl (Nat.le_of_ble_eq_true rfl) (Nat.le_of_ble_eq_true rfl) d_Program_119_162 (fun w25 ew25 => ?_)
  have hM := fa_let_to hM ew25
  refine g_dup X rfl d_Program_119_165 ?_
  refine g_bipush X (by decide) d_Program_119_166 ?_
  obtain ⟨w26, ew26⟩ : ∃ q, fa_nw 145 (fa_st w25 144 1 0) = q := ⟨_, rfl⟩
  have hM := fa_let_to hM ew26.symm
  refine g_callN X (c1 := 26) (s1 := 1228) (by omega) mi_Row_init (n_Row_e 144 145 143 100 100 fh_144 (Nat.le_of_ble_eq_true rfl) fhs_145 (by decide +kernel) (by decide +kernel) (by decide +kernel) (by decide +kernel) (by decide) w25 _ ew26) wd_64 rfl (Nat.le_trans (Nat.le_of_ble_eq_true rfl) hle) (st := [.ref (b + 144), .ref (b + 119)]) (Nat.le_of_ble_eq_true rfl) rfl d_Program_119_168 rfl rfl (Nat.le_of_ble_eq_true rfl) (Nat.le_of_ble_eq_true rfl) ?_
  refine g_putR X hnm ck_4 fh_119 (Nat.le_of_ble_eq_true rfl) 12 (by decide) wd_90 rfl rfl (by decide +kernel) (fa_ctR (t := 144) rfl (by decide +kernel) (by decide +kernel)) rfl rfl d_Program_119_171 ?_
  refine g_aload_n X 0 rfl d_Program_119_174 ?_
  refine g_iconst X d_Program_119_175 ?_
  refine g_put X ck_4 fh_119 (Nat.le_of_ble_eq_true rfl) 13 (z := 0) (by decide) wd_91 rfl (fa_fvI' rfl) rfl rfl rfl d_Program_119_176 (fun w27 ew27 => ?_)
  have hM := fa_let_to hM ew27
  refine g_aload_n X 0 rfl d_Program_119_179 ?_
  refine g_iconst X d_Program_119_180 ?_
  refine g_put X ck_4 fh_119 (Nat.le_of_ble_eq_true rfl) 14 (z := 0) (by decide) wd_96 rfl (fa_fvI' rfl) rfl rfl rfl d_Program_119_181 (fun w28 ew28 => ?_)
  have hM := fa_let_to hM ew28
  refine g_aload_n X 0 rfl d_Program_119_184 ?_
  refine g_iconst X d_Program_119_185 ?_
  refine g_put X ck_4 fh_119 (Nat.le_of_ble_eq_true rfl) 15 (z := 0) (by decide) wd_102 rfl (fa_fvI' rfl) rfl rfl rfl d_Program_119_186 (fun w29 ew29 => ?_)
  have hM := fa_let_to hM ew29
  refine g_aload_n X 0 rfl d_Program_119_189 ?_
  refine g_iconst X d_Program_119_190 ?_
  refine g_put X ck_4 fh_119 (Nat.le_of_ble_eq_true rfl) 16 (z := (-1)) (by decide) wd_107 rfl (fa_fvI' rfl) rfl rfl rfl d_Program_119_191 (fun w30 ew30 => ?_)
  have hM := fa_let_to hM ew30
  subst hM
  exact g_cvret X d_Program_119_194
theorem d_Typing_146_0 : decode prog_9_method_1_code 0 = .ok (.aload_n 0, 1) := by decide +kernel
theorem d_Typing_146_1 : decode prog_9_method_1_code 1 = .ok (.invokespecial 3, 3) := by decide +kernel
theorem d_Typing_146_4 : decode prog_9_method_1_code 4 = .ok (.aload_n 0, 1) := by decide +kernel
theorem d_Typing_146_5 : decode prog_9_method_1_code 5 = .ok (.new 9, 3) := by decide +kernel
theorem d_Typing_146_8 : decode prog_9_method_1_code 8 = .ok (.dup, 1) := by decide +kernel
theorem d_Typing_146_9 : decode prog_9_method_1_code 9 = .ok (.sipush 400, 3) := by decide +kernel
theorem d_Typing_146_12 : decode prog_9_method_1_code 12 = .ok (.invokespecial 11, 3) := by decide +kernel
theorem d_Typing_146_15 : decode prog_9_method_1_code 15 = .ok (.putfield 14, 3) := by decide +kernel
theorem d_Typing_146_18 : decode prog_9_method_1_code 18 = .ok (.aload_n 0, 1) := by decide +kernel
theorem d_Typing_146_19 : decode prog_9_method_1_code 19 = .ok (.new 9, 3) := by decide +kernel
theorem d_Typing_146_22 : decode prog_9_method_1_code 22 = .ok (.dup, 1) := by decide +kernel
theorem d_Typing_146_23 : decode prog_9_method_1_code 23 = .ok (.sipush 400, 3) := by decide +kernel
theorem d_Typing_146_26 : decode prog_9_method_1_code 26 = .ok (.invokespecial 11, 3) := by decide +kernel
theorem d_Typing_146_29 : decode prog_9_method_1_code 29 = .ok (.putfield 20, 3) := by decide +kernel
theorem d_Typing_146_32 : decode prog_9_method_1_code 32 = .ok (.aload_n 0, 1) := by decide +kernel
theorem d_Typing_146_33 : decode prog_9_method_1_code 33 = .ok (.new 9, 3) := by decide +kernel
theorem d_Typing_146_36 : decode prog_9_method_1_code 36 = .ok (.dup, 1) := by decide +kernel
theorem d_Typing_146_37 : decode prog_9_method_1_code 37 = .ok (.sipush 400, 3) := by decide +kernel
theorem d_Typing_146_40 : decode prog_9_method_1_code 40 = .ok (.invokespecial 11, 3) := by decide +kernel
theorem d_Typing_146_43 : decode prog_9_method_1_code 43 = .ok (.putfield 23, 3) := by decide +kernel
theorem d_Typing_146_46 : decode prog_9_method_1_code 46 = .ok (.aload_n 0, 1) := by decide +kernel
theorem d_Typing_146_47 : decode prog_9_method_1_code 47 = .ok (.new 9, 3) := by decide +kernel
theorem d_Typing_146_50 : decode prog_9_method_1_code 50 = .ok (.dup, 1) := by decide +kernel
theorem d_Typing_146_51 : decode prog_9_method_1_code 51 = .ok (.sipush 400, 3) := by decide +kernel
theorem d_Typing_146_54 : decode prog_9_method_1_code 54 = .ok (.invokespecial 11, 3) := by decide +kernel
theorem d_Typing_146_57 : decode prog_9_method_1_code 57 = .ok (.putfield 26, 3) := by decide +kernel
theorem d_Typing_146_60 : decode prog_9_method_1_code 60 = .ok (.aload_n 0, 1) := by decide +kernel
theorem d_Typing_146_61 : decode prog_9_method_1_code 61 = .ok (.new 9, 3) := by decide +kernel
theorem d_Typing_146_64 : decode prog_9_method_1_code 64 = .ok (.dup, 1) := by decide +kernel
theorem d_Typing_146_65 : decode prog_9_method_1_code 65 = .ok (.bipush 100, 2) := by decide +kernel
theorem d_Typing_146_67 : decode prog_9_method_1_code 67 = .ok (.invokespecial 11, 3) := by decide +kernel
theorem d_Typing_146_70 : decode prog_9_method_1_code 70 = .ok (.putfield 29, 3) := by decide +kernel
theorem d_Typing_146_73 : decode prog_9_method_1_code 73 = .ok (.aload_n 0, 1) := by decide +kernel
theorem d_Typing_146_74 : decode prog_9_method_1_code 74 = .ok (.new 9, 3) := by decide +kernel
theorem d_Typing_146_77 : decode prog_9_method_1_code 77 = .ok (.dup, 1) := by decide +kernel
theorem d_Typing_146_78 : decode prog_9_method_1_code 78 = .ok (.bipush 74, 2) := by decide +kernel
theorem d_Typing_146_80 : decode prog_9_method_1_code 80 = .ok (.invokespecial 11, 3) := by decide +kernel
theorem d_Typing_146_83 : decode prog_9_method_1_code 83 = .ok (.putfield 32, 3) := by decide +kernel
theorem d_Typing_146_86 : decode prog_9_method_1_code 86 = .ok (.aload_n 0, 1) := by decide +kernel
theorem d_Typing_146_87 : decode prog_9_method_1_code 87 = .ok (.new 9, 3) := by decide +kernel
theorem d_Typing_146_90 : decode prog_9_method_1_code 90 = .ok (.dup, 1) := by decide +kernel
theorem d_Typing_146_91 : decode prog_9_method_1_code 91 = .ok (.bipush 24, 2) := by decide +kernel
theorem d_Typing_146_93 : decode prog_9_method_1_code 93 = .ok (.invokespecial 11, 3) := by decide +kernel
theorem d_Typing_146_96 : decode prog_9_method_1_code 96 = .ok (.putfield 35, 3) := by decide +kernel
theorem d_Typing_146_99 : decode prog_9_method_1_code 99 = .ok (.aload_n 0, 1) := by decide +kernel
theorem d_Typing_146_100 : decode prog_9_method_1_code 100 = .ok (.new 9, 3) := by decide +kernel
theorem d_Typing_146_103 : decode prog_9_method_1_code 103 = .ok (.dup, 1) := by decide +kernel
theorem d_Typing_146_104 : decode prog_9_method_1_code 104 = .ok (.sipush 400, 3) := by decide +kernel
theorem d_Typing_146_107 : decode prog_9_method_1_code 107 = .ok (.invokespecial 11, 3) := by decide +kernel
theorem d_Typing_146_110 : decode prog_9_method_1_code 110 = .ok (.putfield 38, 3) := by decide +kernel
theorem d_Typing_146_113 : decode prog_9_method_1_code 113 = .ok (.aload_n 0, 1) := by decide +kernel
theorem d_Typing_146_114 : decode prog_9_method_1_code 114 = .ok (.iconst 0, 1) := by decide +kernel
theorem d_Typing_146_115 : decode prog_9_method_1_code 115 = .ok (.putfield 41, 3) := by decide +kernel
theorem d_Typing_146_118 : decode prog_9_method_1_code 118 = .ok (.return_, 1) := by decide +kernel
def fm_new_Typing_146 (w : fa_W) : fa_W :=
  fa_let (fa_nw 147 w) fun w1 =>
  fa_let (fa_nw 148 (fa_st w1 147 1 0)) fun w2 =>
  fa_let (fa_nw 149 w2) fun w3 =>
  fa_let (fa_nw 150 (fa_st w3 149 1 0)) fun w4 =>
  fa_let (fa_nw 151 w4) fun w5 =>
  fa_let (fa_nw 152 (fa_st w5 151 1 0)) fun w6 =>
  fa_let (fa_nw 153 w6) fun w7 =>
  fa_let (fa_nw 154 (fa_st w7 153 1 0)) fun w8 =>
  fa_let (fa_nw 155 w8) fun w9 =>
  fa_let (fa_nw 156 (fa_st w9 155 1 0)) fun w10 =>
  fa_let (fa_nw 157 w10) fun w11 =>
  fa_let (fa_nw 158 (fa_st w11 157 1 0)) fun w12 =>
  fa_let (fa_nw 159 w12) fun w13 =>
  fa_let (fa_nw 160 (fa_st w13 159 1 0)) fun w14 =>
  fa_let (fa_nw 161 w14) fun w15 =>
  fa_let (fa_nw 162 (fa_st w15 161 1 0)) fun w16 =>
  fa_let (fa_st w16 146 8 (fa_bi false)) fun w17 =>
  w17
set_option maxHeartbeats 4000000 in
set_option maxRecDepth 100000 in
theorem n_Typing_146 {l : Launch} {D : va_G} {b : Nat} {aC : Nat → ClassId} {H0 : Heap} (w r : fa_W) (hM : fm_new_Typing_146 w = r) : fa_NC l D b aC H0 147 146 163 162 y_Typing_init prog_9_method_1_code 1 3 16 2214 [.ref (b + 146)] w r := by
  refine fa_nenter (lv := [(0, .ref (b + 146))]) (by decide +kernel) (Nat.le_of_ble_eq_true rfl) rfl (fun hh hle hsz hnm X => ?_)
  unfold fm_new_Typing_146 at hM
  refine g_aload_n X 0 rfl d_Typing_146_0 ?_
  refine g_objInit X wd_290 wd_32 wd_33 (Nat.le_trans (Nat.le_of_ble_eq_true rfl) hle) (Nat.le_of_ble_eq_true rfl) d_Typing_146_1 ?_
  refine g_aload_n X 0 rfl d_Typing_146_4 ?_
  refine g_new X (N1 := 148) (c1 := 1) (s1 := 2) (by omega) ck_6 fh_147 (by decide +kernel) (by decide +kernel) wd_291 wd_35 wd_2 rfl rfl rfl (Nat.le_of_ble_eq_true rfl) (Nat.le_of_ble_eq_true rfl) d_Typing_146_5 (fun w1 ew1 => ?_)
  have hM := fa_let_to hM ew1
  refine g_dup X rfl d_Typing_146_8 ?_
  refine g_sipush X (by decide) d_Typing_146_9 ?_
  obtain ⟨w2, ew2⟩ : ∃ q, fa_nw 148 (fa_st w1 147 1 0) = q := ⟨_, rfl⟩
  have hM := fa_let_to hM ew2.symm
  refine g_callN X (c1 := 2) (s1 := 402) (by omega) mi_Row_init (n_Row_e 147 148 146 400 400 fh_147 (Nat.le_of_ble_eq_true rfl) fhs_148 (by decide +kernel) (by decide +kernel) (by decide +kernel) (by decide +kernel) (by decide) w1 _ ew2) wd_292 rfl (Nat.le_trans (Nat.le_of_ble_eq_true rfl) hle) (st := [.ref (b + 147), .ref (b + 146)]) (Nat.le_of_ble_eq_true rfl) rfl d_Typing_146_12 rfl rfl (Nat.le_of_ble_eq_true rfl) (Nat.le_of_ble_eq_true rfl) ?_
  refine g_putR X hnm ck_8 fh_146 (Nat.le_of_ble_eq_true rfl) 0 (by decide) wd_293 rfl rfl (by decide +kernel) (fa_ctR (t := 147) rfl (by decide +kernel) (by decide +kernel)) rfl rfl d_Typing_146_15 ?_
  refine g_aload_n X 0 rfl d_Typing_146_18 ?_
  refine g_new X (N1 := 150) (c1 := 3) (s1 := 404) (by omega) ck_6 fh_149 (by decide +kernel) (by decide +kernel) wd_291 wd_35 wd_2 rfl rfl rfl (Nat.le_of_ble_eq_true rfl) (Nat.le_of_ble_eq_true rfl) d_Typing_146_19 (fun w3 ew3 => ?_)
  have hM := fa_let_to hM ew3
  refine g_dup X rfl d_Typing_146_22 ?_
  refine g_sipush X (by decide) d_Typing_146_23 ?_
  obtain ⟨w4, ew4⟩ : ∃ q, fa_nw 150 (fa_st w3 149 1 0) = q := ⟨_, rfl⟩
  have hM := fa_let_to hM ew4.symm
  refine g_callN X (c1 := 4) (s1 := 804) (by omega) mi_Row_init (n_Row_e 149 150 148 400 400 fh_149 (Nat.le_of_ble_eq_true rfl) fhs_150 (by decide +kernel) (by decide +kernel) (by decide +kernel) (by decide +kernel) (by decide) w3 _ ew4) wd_292 rfl (Nat.le_trans (Nat.le_of_ble_eq_true rfl) hle) (st := [.ref (b + 149), .ref (b + 146)]) (Nat.le_of_ble_eq_true rfl) rfl d_Typing_146_26 rfl rfl (Nat.le_of_ble_eq_true rfl) (Nat.le_of_ble_eq_true rfl) ?_
  refine g_putR X hnm ck_8 fh_146 (Nat.le_of_ble_eq_true rfl) 1 (by decide) wd_294 rfl rfl (by decide +kernel) (fa_ctR (t := 149) rfl (by decide +kernel) (by decide +kernel)) rfl rfl d_Typing_146_29 ?_
  refine g_aload_n X 0 rfl d_Typing_146_32 ?_
  refine g_new X (N1 := 152) (c1 := 5) (s1 := 806) (by omega) ck_6 fh_151 (by decide +kernel) (by decide +kernel) wd_291 wd_35 wd_2 rfl rfl rfl (Nat.le_of_ble_eq_true rfl) (Nat.le_of_ble_eq_true rfl) d_Typing_146_33 (fun w5 ew5 => ?_)
  have hM := fa_let_to hM ew5
  refine g_dup X rfl d_Typing_146_36 ?_
  refine g_sipush X (by decide) d_Typing_146_37 ?_
  obtain ⟨w6, ew6⟩ : ∃ q, fa_nw 152 (fa_st w5 151 1 0) = q := ⟨_, rfl⟩
  have hM := fa_let_to hM ew6.symm
  refine g_callN X (c1 := 6) (s1 := 1206) (by omega) mi_Row_init (n_Row_e 151 152 150 400 400 fh_151 (Nat.le_of_ble_eq_true rfl) fhs_152 (by decide +kernel) (by decide +kernel) (by decide +kernel) (by decide +kernel) (by decide) w5 _ ew6) wd_292 rfl (Nat.le_trans (Nat.le_of_ble_eq_true rfl) hle) (st := [.ref (b + 151), .ref (b + 146)]) (Nat.le_of_ble_eq_true rfl) rfl d_Typing_146_40 rfl rfl (Nat.le_of_ble_eq_true rfl) (Nat.le_of_ble_eq_true rfl) ?_
  refine g_putR X hnm ck_8 fh_146 (Nat.le_of_ble_eq_true rfl) 2 (by decide) wd_295 rfl rfl (by decide +kernel) (fa_ctR (t := 151) rfl (by decide +kernel) (by decide +kernel)) rfl rfl d_Typing_146_43 ?_
  refine g_aload_n X 0 rfl d_Typing_146_46 ?_
  refine g_new X (N1 := 154) (c1 := 7) (s1 := 1208) (by omega) ck_6 fh_153 (by decide +kernel) (by decide +kernel) wd_291 wd_35 wd_2 rfl rfl rfl (Nat.le_of_ble_eq_true rfl) (Nat.le_of_ble_eq_true rfl) d_Typing_146_47 (fun w7 ew7 => ?_)
  have hM := fa_let_to hM ew7
  refine g_dup X rfl d_Typing_146_50 ?_
  refine g_sipush X (by decide) d_Typing_146_51 ?_
  obtain ⟨w8, ew8⟩ : ∃ q, fa_nw 154 (fa_st w7 153 1 0) = q := ⟨_, rfl⟩
  have hM := fa_let_to hM ew8.symm
  refine g_callN X (c1 := 8) (s1 := 1608) (by omega) mi_Row_init (n_Row_e 153 154 152 400 400 fh_153 (Nat.le_of_ble_eq_true rfl) fhs_154 (by decide +kernel) (by decide +kernel) (by decide +kernel) (by decide +kernel) (by decide) w7 _ ew8) wd_292 rfl (Nat.le_trans (Nat.le_of_ble_eq_true rfl) hle) (st := [.ref (b + 153), .ref (b + 146)]) (Nat.le_of_ble_eq_true rfl) rfl d_Typing_146_54 rfl rfl (Nat.le_of_ble_eq_true rfl) (Nat.le_of_ble_eq_true rfl) ?_
  refine g_putR X hnm ck_8 fh_146 (Nat.le_of_ble_eq_true rfl) 3 (by decide) wd_296 rfl rfl (by decide +kernel) (fa_ctR (t := 153) rfl (by decide +kernel) (by decide +kernel)) rfl rfl d_Typing_146_57 ?_
  refine g_aload_n X 0 rfl d_Typing_146_60 ?_
  refine g_new X (N1 := 156) (c1 := 9) (s1 := 1610) (by omega) ck_6 fh_155 (by decide +kernel) (by decide +kernel) wd_291 wd_35 wd_2 rfl rfl rfl (Nat.le_of_ble_eq_true rfl) (Nat.le_of_ble_eq_true rfl) d_Typing_146_61 (fun w9 ew9 => ?_)
  have hM := fa_let_to hM ew9
  refine g_dup X rfl d_Typing_146_64 ?_
  refine g_bipush X (by decide) d_Typing_146_65 ?_
  obtain ⟨w10, ew10⟩ : ∃ q, fa_nw 156 (fa_st w9 155 1 0) = q := ⟨_, rfl⟩
  have hM := fa_let_to hM ew10.symm
  refine g_callN X (c1 := 10) (s1 := 1710) (by omega) mi_Row_init (n_Row_e 155 156 154 100 100 fh_155 (Nat.le_of_ble_eq_true rfl) fhs_156 (by decide +kernel) (by decide +kernel) (by decide +kernel) (by decide +kernel) (by decide) w9 _ ew10) wd_292 rfl (Nat.le_trans (Nat.le_of_ble_eq_true rfl) hle) (st := [.ref (b + 155), .ref (b + 146)]) (Nat.le_of_ble_eq_true rfl) rfl d_Typing_146_67 rfl rfl (Nat.le_of_ble_eq_true rfl) (Nat.le_of_ble_eq_true rfl) ?_
  refine g_putR X hnm ck_8 fh_146 (Nat.le_of_ble_eq_true rfl) 4 (by decide) wd_297 rfl rfl (by decide +kernel) (fa_ctR (t := 155) rfl (by decide +kernel) (by decide +kernel)) rfl rfl d_Typing_146_70 ?_
  refine g_aload_n X 0 rfl d_Typing_146_73 ?_
  refine g_new X (N1 := 158) (c1 := 11) (s1 := 1712) (by omega) ck_6 fh_157 (by decide +kernel) (by decide +kernel) wd_291 wd_35 wd_2 rfl rfl rfl (Nat.le_of_ble_eq_true rfl) (Nat.le_of_ble_eq_true rfl) d_Typing_146_74 (fun w11 ew11 => ?_)
  have hM := fa_let_to hM ew11
  refine g_dup X rfl d_Typing_146_77 ?_
  refine g_bipush X (by decide) d_Typing_146_78 ?_
  obtain ⟨w12, ew12⟩ : ∃ q, fa_nw 158 (fa_st w11 157 1 0) = q := ⟨_, rfl⟩
  have hM := fa_let_to hM ew12.symm
  refine g_callN X (c1 := 12) (s1 := 1786) (by omega) mi_Row_init (n_Row_e 157 158 156 74 74 fh_157 (Nat.le_of_ble_eq_true rfl) fhs_158 (by decide +kernel) (by decide +kernel) (by decide +kernel) (by decide +kernel) (by decide) w11 _ ew12) wd_292 rfl (Nat.le_trans (Nat.le_of_ble_eq_true rfl) hle) (st := [.ref (b + 157), .ref (b + 146)]) (Nat.le_of_ble_eq_true rfl) rfl d_Typing_146_80 rfl rfl (Nat.le_of_ble_eq_true rfl) (Nat.le_of_ble_eq_true rfl) ?_
  refine g_putR X hnm ck_8 fh_146 (Nat.le_of_ble_eq_true rfl) 5 (by decide) wd_300 rfl rfl (by decide +kernel) (fa_ctR (t := 157) rfl (by decide +kernel) (by decide +kernel)) rfl rfl d_Typing_146_83 ?_
  refine g_aload_n X 0 rfl d_Typing_146_86 ?_
  refine g_new X (N1 := 160) (c1 := 13) (s1 := 1788) (by omega) ck_6 fh_159 (by decide +kernel) (by decide +kernel) wd_291 wd_35 wd_2 rfl rfl rfl (Nat.le_of_ble_eq_true rfl) (Nat.le_of_ble_eq_true rfl) d_Typing_146_87 (fun w13 ew13 => ?_)
  have hM := fa_let_to hM ew13
  refine g_dup X rfl d_Typing_146_90 ?_
  refine g_bipush X (by decide) d_Typing_146_91 ?_
  obtain ⟨w14, ew14⟩ : ∃ q, fa_nw 160 (fa_st w13 159 1 0) = q := ⟨_, rfl⟩
  have hM := fa_let_to hM ew14.symm
  refine g_callN X (c1 := 14) (s1 := 1812) (by omega) mi_Row_init (n_Row_e 159 160 158 24 24 fh_159 (Nat.le_of_ble_eq_true rfl) fhs_160 (by decide +kernel) (by decide +kernel) (by decide +kernel) (by decide +kernel) (by decide) w13 _ ew14) wd_292 rfl (Nat.le_trans (Nat.le_of_ble_eq_true rfl) hle) (st := [.ref (b + 159), .ref (b + 146)]) (Nat.le_of_ble_eq_true rfl) rfl d_Typing_146_93 rfl rfl (Nat.le_of_ble_eq_true rfl) (Nat.le_of_ble_eq_true rfl) ?_
  refine g_putR X hnm ck_8 fh_146 (Nat.le_of_ble_eq_true rfl) 6 (by decide) wd_301 rfl rfl (by decide +kernel) (fa_ctR (t := 159) rfl (by decide +kernel) (by decide +kernel)) rfl rfl d_Typing_146_96 ?_
  refine g_aload_n X 0 rfl d_Typing_146_99 ?_
  refine g_new X (N1 := 162) (c1 := 15) (s1 := 1814) (by omega) ck_6 fh_161 (by decide +kernel) (by decide +kernel) wd_291 wd_35 wd_2 rfl rfl rfl (Nat.le_of_ble_eq_true rfl) (Nat.le_of_ble_eq_true rfl) d_Typing_146_100 (fun w15 ew15 => ?_)
  have hM := fa_let_to hM ew15
  refine g_dup X rfl d_Typing_146_103 ?_
  refine g_sipush X (by decide) d_Typing_146_104 ?_
  obtain ⟨w16, ew16⟩ : ∃ q, fa_nw 162 (fa_st w15 161 1 0) = q := ⟨_, rfl⟩
  have hM := fa_let_to hM ew16.symm
  refine g_callN X (c1 := 16) (s1 := 2214) (by omega) mi_Row_init (n_Row_e 161 162 160 400 400 fh_161 (Nat.le_of_ble_eq_true rfl) fhs_162 (by decide +kernel) (by decide +kernel) (by decide +kernel) (by decide +kernel) (by decide) w15 _ ew16) wd_292 rfl (Nat.le_trans (Nat.le_of_ble_eq_true rfl) hle) (st := [.ref (b + 161), .ref (b + 146)]) (Nat.le_of_ble_eq_true rfl) rfl d_Typing_146_107 rfl rfl (Nat.le_of_ble_eq_true rfl) (Nat.le_of_ble_eq_true rfl) ?_
  refine g_putR X hnm ck_8 fh_146 (Nat.le_of_ble_eq_true rfl) 7 (by decide) wd_303 rfl rfl (by decide +kernel) (fa_ctR (t := 161) rfl (by decide +kernel) (by decide +kernel)) rfl rfl d_Typing_146_110 ?_
  refine g_aload_n X 0 rfl d_Typing_146_113 ?_
  refine g_iconst X d_Typing_146_114 ?_
  refine g_put X ck_8 fh_146 (Nat.le_of_ble_eq_true rfl) 8 (z := (fa_bi false)) (by decide) wd_304 rfl (fa_fvB' rfl) rfl (fa_nb false).1 (fa_nb false).2 d_Typing_146_115 (fun w17 ew17 => ?_)
  have hM := fa_let_to hM ew17
  subst hM
  exact g_cvret X d_Typing_146_118
theorem d_Flow_163_0 : decode prog_2_method_1_code 0 = .ok (.aload_n 0, 1) := by decide +kernel
theorem d_Flow_163_1 : decode prog_2_method_1_code 1 = .ok (.invokespecial 3, 3) := by decide +kernel
theorem d_Flow_163_4 : decode prog_2_method_1_code 4 = .ok (.aload_n 0, 1) := by decide +kernel
theorem d_Flow_163_5 : decode prog_2_method_1_code 5 = .ok (.new 9, 3) := by decide +kernel
theorem d_Flow_163_8 : decode prog_2_method_1_code 8 = .ok (.dup, 1) := by decide +kernel
theorem d_Flow_163_9 : decode prog_2_method_1_code 9 = .ok (.bipush 100, 2) := by decide +kernel
theorem d_Flow_163_11 : decode prog_2_method_1_code 11 = .ok (.invokespecial 11, 3) := by decide +kernel
theorem d_Flow_163_14 : decode prog_2_method_1_code 14 = .ok (.putfield 14, 3) := by decide +kernel
theorem d_Flow_163_17 : decode prog_2_method_1_code 17 = .ok (.aload_n 0, 1) := by decide +kernel
theorem d_Flow_163_18 : decode prog_2_method_1_code 18 = .ok (.new 9, 3) := by decide +kernel
theorem d_Flow_163_21 : decode prog_2_method_1_code 21 = .ok (.dup, 1) := by decide +kernel
theorem d_Flow_163_22 : decode prog_2_method_1_code 22 = .ok (.bipush 74, 2) := by decide +kernel
theorem d_Flow_163_24 : decode prog_2_method_1_code 24 = .ok (.invokespecial 11, 3) := by decide +kernel
theorem d_Flow_163_27 : decode prog_2_method_1_code 27 = .ok (.putfield 20, 3) := by decide +kernel
theorem d_Flow_163_30 : decode prog_2_method_1_code 30 = .ok (.aload_n 0, 1) := by decide +kernel
theorem d_Flow_163_31 : decode prog_2_method_1_code 31 = .ok (.new 9, 3) := by decide +kernel
theorem d_Flow_163_34 : decode prog_2_method_1_code 34 = .ok (.dup, 1) := by decide +kernel
theorem d_Flow_163_35 : decode prog_2_method_1_code 35 = .ok (.bipush 24, 2) := by decide +kernel
theorem d_Flow_163_37 : decode prog_2_method_1_code 37 = .ok (.invokespecial 11, 3) := by decide +kernel
theorem d_Flow_163_40 : decode prog_2_method_1_code 40 = .ok (.putfield 23, 3) := by decide +kernel
theorem d_Flow_163_43 : decode prog_2_method_1_code 43 = .ok (.aload_n 0, 1) := by decide +kernel
theorem d_Flow_163_44 : decode prog_2_method_1_code 44 = .ok (.new 9, 3) := by decide +kernel
theorem d_Flow_163_47 : decode prog_2_method_1_code 47 = .ok (.dup, 1) := by decide +kernel
theorem d_Flow_163_48 : decode prog_2_method_1_code 48 = .ok (.bipush 24, 2) := by decide +kernel
theorem d_Flow_163_50 : decode prog_2_method_1_code 50 = .ok (.invokespecial 11, 3) := by decide +kernel
theorem d_Flow_163_53 : decode prog_2_method_1_code 53 = .ok (.putfield 26, 3) := by decide +kernel
theorem d_Flow_163_56 : decode prog_2_method_1_code 56 = .ok (.aload_n 0, 1) := by decide +kernel
theorem d_Flow_163_57 : decode prog_2_method_1_code 57 = .ok (.new 9, 3) := by decide +kernel
theorem d_Flow_163_60 : decode prog_2_method_1_code 60 = .ok (.dup, 1) := by decide +kernel
theorem d_Flow_163_61 : decode prog_2_method_1_code 61 = .ok (.bipush 24, 2) := by decide +kernel
theorem d_Flow_163_63 : decode prog_2_method_1_code 63 = .ok (.invokespecial 11, 3) := by decide +kernel
theorem d_Flow_163_66 : decode prog_2_method_1_code 66 = .ok (.putfield 29, 3) := by decide +kernel
theorem d_Flow_163_69 : decode prog_2_method_1_code 69 = .ok (.aload_n 0, 1) := by decide +kernel
theorem d_Flow_163_70 : decode prog_2_method_1_code 70 = .ok (.iconst 0, 1) := by decide +kernel
theorem d_Flow_163_71 : decode prog_2_method_1_code 71 = .ok (.putfield 32, 3) := by decide +kernel
theorem d_Flow_163_74 : decode prog_2_method_1_code 74 = .ok (.aload_n 0, 1) := by decide +kernel
theorem d_Flow_163_75 : decode prog_2_method_1_code 75 = .ok (.iconst 0, 1) := by decide +kernel
theorem d_Flow_163_76 : decode prog_2_method_1_code 76 = .ok (.putfield 36, 3) := by decide +kernel
theorem d_Flow_163_79 : decode prog_2_method_1_code 79 = .ok (.aload_n 0, 1) := by decide +kernel
theorem d_Flow_163_80 : decode prog_2_method_1_code 80 = .ok (.iconst 0, 1) := by decide +kernel
theorem d_Flow_163_81 : decode prog_2_method_1_code 81 = .ok (.putfield 39, 3) := by decide +kernel
theorem d_Flow_163_84 : decode prog_2_method_1_code 84 = .ok (.return_, 1) := by decide +kernel
def fm_new_Flow_163 (w : fa_W) : fa_W :=
  fa_let (fa_nw 164 w) fun w1 =>
  fa_let (fa_nw 165 (fa_st w1 164 1 0)) fun w2 =>
  fa_let (fa_nw 166 w2) fun w3 =>
  fa_let (fa_nw 167 (fa_st w3 166 1 0)) fun w4 =>
  fa_let (fa_nw 168 w4) fun w5 =>
  fa_let (fa_nw 169 (fa_st w5 168 1 0)) fun w6 =>
  fa_let (fa_nw 170 w6) fun w7 =>
  fa_let (fa_nw 171 (fa_st w7 170 1 0)) fun w8 =>
  fa_let (fa_nw 172 w8) fun w9 =>
  fa_let (fa_nw 173 (fa_st w9 172 1 0)) fun w10 =>
  fa_let (fa_st w10 163 5 0) fun w11 =>
  fa_let (fa_st w11 163 6 0) fun w12 =>
  fa_let (fa_st w12 163 7 (fa_bi false)) fun w13 =>
  w13
set_option maxHeartbeats 4000000 in
set_option maxRecDepth 100000 in
theorem n_Flow_163 {l : Launch} {D : va_G} {b : Nat} {aC : Nat → ClassId} {H0 : Heap} (w r : fa_W) (hM : fm_new_Flow_163 w = r) : fa_NC l D b aC H0 164 163 174 173 y_Flow_init prog_2_method_1_code 1 3 10 256 [.ref (b + 163)] w r := by
  refine fa_nenter (lv := [(0, .ref (b + 163))]) (by decide +kernel) (Nat.le_of_ble_eq_true rfl) rfl (fun hh hle hsz hnm X => ?_)
  unfold fm_new_Flow_163 at hM
  refine g_aload_n X 0 rfl d_Flow_163_0 ?_
  refine g_objInit X wd_329 wd_32 wd_33 (Nat.le_trans (Nat.le_of_ble_eq_true rfl) hle) (Nat.le_of_ble_eq_true rfl) d_Flow_163_1 ?_
  refine g_aload_n X 0 rfl d_Flow_163_4 ?_
  refine g_new X (N1 := 165) (c1 := 1) (s1 := 2) (by omega) ck_6 fh_164 (by decide +kernel) (by decide +kernel) wd_330 wd_35 wd_2 rfl rfl rfl (Nat.le_of_ble_eq_true rfl) (Nat.le_of_ble_eq_true rfl) d_Flow_163_5 (fun w1 ew1 => ?_)
  have hM := fa_let_to hM ew1
  refine g_dup X rfl d_Flow_163_8 ?_
  refine g_bipush X (by decide) d_Flow_163_9 ?_
  obtain ⟨w2, ew2⟩ : ∃ q, fa_nw 165 (fa_st w1 164 1 0) = q := ⟨_, rfl⟩
  have hM := fa_let_to hM ew2.symm
  refine g_callN X (c1 := 2) (s1 := 102) (by omega) mi_Row_init (n_Row_e 164 165 163 100 100 fh_164 (Nat.le_of_ble_eq_true rfl) fhs_165 (by decide +kernel) (by decide +kernel) (by decide +kernel) (by decide +kernel) (by decide) w1 _ ew2) wd_331 rfl (Nat.le_trans (Nat.le_of_ble_eq_true rfl) hle) (st := [.ref (b + 164), .ref (b + 163)]) (Nat.le_of_ble_eq_true rfl) rfl d_Flow_163_11 rfl rfl (Nat.le_of_ble_eq_true rfl) (Nat.le_of_ble_eq_true rfl) ?_
  refine g_putR X hnm ck_1 fh_163 (Nat.le_of_ble_eq_true rfl) 0 (by decide) wd_332 rfl rfl (by decide +kernel) (fa_ctR (t := 164) rfl (by decide +kernel) (by decide +kernel)) rfl rfl d_Flow_163_14 ?_
  refine g_aload_n X 0 rfl d_Flow_163_17 ?_
  refine g_new X (N1 := 167) (c1 := 3) (s1 := 104) (by omega) ck_6 fh_166 (by decide +kernel) (by decide +kernel) wd_330 wd_35 wd_2 rfl rfl rfl (Nat.le_of_ble_eq_true rfl) (Nat.le_of_ble_eq_true rfl) d_Flow_163_18 (fun w3 ew3 => ?_)
  have hM := fa_let_to hM ew3
  refine g_dup X rfl d_Flow_163_21 ?_
  refine g_bipush X (by decide) d_Flow_163_22 ?_
  obtain ⟨w4, ew4⟩ : ∃ q, fa_nw 167 (fa_st w3 166 1 0) = q := ⟨_, rfl⟩
  have hM := fa_let_to hM ew4.symm
  refine g_callN X (c1 := 4) (s1 := 178) (by omega) mi_Row_init (n_Row_e 166 167 165 74 74 fh_166 (Nat.le_of_ble_eq_true rfl) fhs_167 (by decide +kernel) (by decide +kernel) (by decide +kernel) (by decide +kernel) (by decide) w3 _ ew4) wd_331 rfl (Nat.le_trans (Nat.le_of_ble_eq_true rfl) hle) (st := [.ref (b + 166), .ref (b + 163)]) (Nat.le_of_ble_eq_true rfl) rfl d_Flow_163_24 rfl rfl (Nat.le_of_ble_eq_true rfl) (Nat.le_of_ble_eq_true rfl) ?_
  refine g_putR X hnm ck_1 fh_163 (Nat.le_of_ble_eq_true rfl) 1 (by decide) wd_334 rfl rfl (by decide +kernel) (fa_ctR (t := 166) rfl (by decide +kernel) (by decide +kernel)) rfl rfl d_Flow_163_27 ?_
  refine g_aload_n X 0 rfl d_Flow_163_30 ?_
  refine g_new X (N1 := 169) (c1 := 5) (s1 := 180) (by omega) ck_6 fh_168 (by decide +kernel) (by decide +kernel) wd_330 wd_35 wd_2 rfl rfl rfl (Nat.le_of_ble_eq_true rfl) (Nat.le_of_ble_eq_true rfl) d_Flow_163_31 (fun w5 ew5 => ?_)
  have hM := fa_let_to hM ew5
  refine g_dup X rfl d_Flow_163_34 ?_
  refine g_bipush X (by decide) d_Flow_163_35 ?_
  obtain ⟨w6, ew6⟩ : ∃ q, fa_nw 169 (fa_st w5 168 1 0) = q := ⟨_, rfl⟩
  have hM := fa_let_to hM ew6.symm
  refine g_callN X (c1 := 6) (s1 := 204) (by omega) mi_Row_init (n_Row_e 168 169 167 24 24 fh_168 (Nat.le_of_ble_eq_true rfl) fhs_169 (by decide +kernel) (by decide +kernel) (by decide +kernel) (by decide +kernel) (by decide) w5 _ ew6) wd_331 rfl (Nat.le_trans (Nat.le_of_ble_eq_true rfl) hle) (st := [.ref (b + 168), .ref (b + 163)]) (Nat.le_of_ble_eq_true rfl) rfl d_Flow_163_37 rfl rfl (Nat.le_of_ble_eq_true rfl) (Nat.le_of_ble_eq_true rfl) ?_
  refine g_putR X hnm ck_1 fh_163 (Nat.le_of_ble_eq_true rfl) 2 (by decide) wd_336 rfl rfl (by decide +kernel) (fa_ctR (t := 168) rfl (by decide +kernel) (by decide +kernel)) rfl rfl d_Flow_163_40 ?_
  refine g_aload_n X 0 rfl d_Flow_163_43 ?_
  refine g_new X (N1 := 171) (c1 := 7) (s1 := 206) (by omega) ck_6 fh_170 (by decide +kernel) (by decide +kernel) wd_330 wd_35 wd_2 rfl rfl rfl (Nat.le_of_ble_eq_true rfl) (Nat.le_of_ble_eq_true rfl) d_Flow_163_44 (fun w7 ew7 => ?_)
  have hM := fa_let_to hM ew7
  refine g_dup X rfl d_Flow_163_47 ?_
  refine g_bipush X (by decide) d_Flow_163_48 ?_
  obtain ⟨w8, ew8⟩ : ∃ q, fa_nw 171 (fa_st w7 170 1 0) = q := ⟨_, rfl⟩
  have hM := fa_let_to hM ew8.symm
  refine g_callN X (c1 := 8) (s1 := 230) (by omega) mi_Row_init (n_Row_e 170 171 169 24 24 fh_170 (Nat.le_of_ble_eq_true rfl) fhs_171 (by decide +kernel) (by decide +kernel) (by decide +kernel) (by decide +kernel) (by decide) w7 _ ew8) wd_331 rfl (Nat.le_trans (Nat.le_of_ble_eq_true rfl) hle) (st := [.ref (b + 170), .ref (b + 163)]) (Nat.le_of_ble_eq_true rfl) rfl d_Flow_163_50 rfl rfl (Nat.le_of_ble_eq_true rfl) (Nat.le_of_ble_eq_true rfl) ?_
  refine g_putR X hnm ck_1 fh_163 (Nat.le_of_ble_eq_true rfl) 3 (by decide) wd_338 rfl rfl (by decide +kernel) (fa_ctR (t := 170) rfl (by decide +kernel) (by decide +kernel)) rfl rfl d_Flow_163_53 ?_
  refine g_aload_n X 0 rfl d_Flow_163_56 ?_
  refine g_new X (N1 := 173) (c1 := 9) (s1 := 232) (by omega) ck_6 fh_172 (by decide +kernel) (by decide +kernel) wd_330 wd_35 wd_2 rfl rfl rfl (Nat.le_of_ble_eq_true rfl) (Nat.le_of_ble_eq_true rfl) d_Flow_163_57 (fun w9 ew9 => ?_)
  have hM := fa_let_to hM ew9
  refine g_dup X rfl d_Flow_163_60 ?_
  refine g_bipush X (by decide) d_Flow_163_61 ?_
  obtain ⟨w10, ew10⟩ : ∃ q, fa_nw 173 (fa_st w9 172 1 0) = q := ⟨_, rfl⟩
  have hM := fa_let_to hM ew10.symm
  refine g_callN X (c1 := 10) (s1 := 256) (by omega) mi_Row_init (n_Row_e 172 173 171 24 24 fh_172 (Nat.le_of_ble_eq_true rfl) fhs_173 (by decide +kernel) (by decide +kernel) (by decide +kernel) (by decide +kernel) (by decide) w9 _ ew10) wd_331 rfl (Nat.le_trans (Nat.le_of_ble_eq_true rfl) hle) (st := [.ref (b + 172), .ref (b + 163)]) (Nat.le_of_ble_eq_true rfl) rfl d_Flow_163_63 rfl rfl (Nat.le_of_ble_eq_true rfl) (Nat.le_of_ble_eq_true rfl) ?_
  refine g_putR X hnm ck_1 fh_163 (Nat.le_of_ble_eq_true rfl) 4 (by decide) wd_339 rfl rfl (by decide +kernel) (fa_ctR (t := 172) rfl (by decide +kernel) (by decide +kernel)) rfl rfl d_Flow_163_66 ?_
  refine g_aload_n X 0 rfl d_Flow_163_69 ?_
  refine g_iconst X d_Flow_163_70 ?_
  refine g_put X ck_1 fh_163 (Nat.le_of_ble_eq_true rfl) 5 (z := 0) (by decide) wd_341 rfl (fa_fvI' rfl) rfl rfl rfl d_Flow_163_71 (fun w11 ew11 => ?_)
  have hM := fa_let_to hM ew11
  refine g_aload_n X 0 rfl d_Flow_163_74 ?_
  refine g_iconst X d_Flow_163_75 ?_
  refine g_put X ck_1 fh_163 (Nat.le_of_ble_eq_true rfl) 6 (z := 0) (by decide) wd_344 rfl (fa_fvI' rfl) rfl rfl rfl d_Flow_163_76 (fun w12 ew12 => ?_)
  have hM := fa_let_to hM ew12
  refine g_aload_n X 0 rfl d_Flow_163_79 ?_
  refine g_iconst X d_Flow_163_80 ?_
  refine g_put X ck_1 fh_163 (Nat.le_of_ble_eq_true rfl) 7 (z := (fa_bi false)) (by decide) wd_348 rfl (fa_fvB' rfl) rfl (fa_nb false).1 (fa_nb false).2 d_Flow_163_81 (fun w13 ew13 => ?_)
  have hM := fa_let_to hM ew13
  subst hM
  exact g_cvret X d_Flow_163_84
theorem d_Groups_174_0 : decode prog_3_method_1_code 0 = .ok (.aload_n 0, 1) := by decide +kernel
theorem d_Groups_174_1 : decode prog_3_method_1_code 1 = .ok (.invokespecial 3, 3) := by decide +kernel
theorem d_Groups_174_4 : decode prog_3_method_1_code 4 = .ok (.aload_n 0, 1) := by decide +kernel
theorem d_Groups_174_5 : decode prog_3_method_1_code 5 = .ok (.new 9, 3) := by decide +kernel
theorem d_Groups_174_8 : decode prog_3_method_1_code 8 = .ok (.dup, 1) := by decide +kernel
theorem d_Groups_174_9 : decode prog_3_method_1_code 9 = .ok (.bipush 72, 2) := by decide +kernel
theorem d_Groups_174_11 : decode prog_3_method_1_code 11 = .ok (.invokespecial 11, 3) := by decide +kernel
theorem d_Groups_174_14 : decode prog_3_method_1_code 14 = .ok (.putfield 14, 3) := by decide +kernel
theorem d_Groups_174_17 : decode prog_3_method_1_code 17 = .ok (.aload_n 0, 1) := by decide +kernel
theorem d_Groups_174_18 : decode prog_3_method_1_code 18 = .ok (.new 9, 3) := by decide +kernel
theorem d_Groups_174_21 : decode prog_3_method_1_code 21 = .ok (.dup, 1) := by decide +kernel
theorem d_Groups_174_22 : decode prog_3_method_1_code 22 = .ok (.iconst 3, 1) := by decide +kernel
theorem d_Groups_174_23 : decode prog_3_method_1_code 23 = .ok (.invokespecial 11, 3) := by decide +kernel
theorem d_Groups_174_26 : decode prog_3_method_1_code 26 = .ok (.putfield 20, 3) := by decide +kernel
theorem d_Groups_174_29 : decode prog_3_method_1_code 29 = .ok (.aload_n 0, 1) := by decide +kernel
theorem d_Groups_174_30 : decode prog_3_method_1_code 30 = .ok (.new 9, 3) := by decide +kernel
theorem d_Groups_174_33 : decode prog_3_method_1_code 33 = .ok (.dup, 1) := by decide +kernel
theorem d_Groups_174_34 : decode prog_3_method_1_code 34 = .ok (.bipush 24, 2) := by decide +kernel
theorem d_Groups_174_36 : decode prog_3_method_1_code 36 = .ok (.invokespecial 11, 3) := by decide +kernel
theorem d_Groups_174_39 : decode prog_3_method_1_code 39 = .ok (.putfield 23, 3) := by decide +kernel
theorem d_Groups_174_42 : decode prog_3_method_1_code 42 = .ok (.return_, 1) := by decide +kernel
def fm_new_Groups_174 (w : fa_W) : fa_W :=
  fa_let (fa_nw 175 w) fun w1 =>
  fa_let (fa_nw 176 (fa_st w1 175 1 0)) fun w2 =>
  fa_let (fa_nw 177 w2) fun w3 =>
  fa_let (fa_nw 178 (fa_st w3 177 1 0)) fun w4 =>
  fa_let (fa_nw 179 w4) fun w5 =>
  fa_let (fa_nw 180 (fa_st w5 179 1 0)) fun w6 =>
  w6
set_option maxHeartbeats 4000000 in
set_option maxRecDepth 100000 in
theorem n_Groups_174 {l : Launch} {D : va_G} {b : Nat} {aC : Nat → ClassId} {H0 : Heap} (w r : fa_W) (hM : fm_new_Groups_174 w = r) : fa_NC l D b aC H0 175 174 181 180 y_Groups_init prog_3_method_1_code 1 3 6 105 [.ref (b + 174)] w r := by
  refine fa_nenter (lv := [(0, .ref (b + 174))]) (by decide +kernel) (Nat.le_of_ble_eq_true rfl) rfl (fun hh hle hsz hnm X => ?_)
  unfold fm_new_Groups_174 at hM
  refine g_aload_n X 0 rfl d_Groups_174_0 ?_
  refine g_objInit X wd_371 wd_32 wd_33 (Nat.le_trans (Nat.le_of_ble_eq_true rfl) hle) (Nat.le_of_ble_eq_true rfl) d_Groups_174_1 ?_
  refine g_aload_n X 0 rfl d_Groups_174_4 ?_
  refine g_new X (N1 := 176) (c1 := 1) (s1 := 2) (by omega) ck_6 fh_175 (by decide +kernel) (by decide +kernel) wd_372 wd_35 wd_2 rfl rfl rfl (Nat.le_of_ble_eq_true rfl) (Nat.le_of_ble_eq_true rfl) d_Groups_174_5 (fun w1 ew1 => ?_)
  have hM := fa_let_to hM ew1
  refine g_dup X rfl d_Groups_174_8 ?_
  refine g_bipush X (by decide) d_Groups_174_9 ?_
  obtain ⟨w2, ew2⟩ : ∃ q, fa_nw 176 (fa_st w1 175 1 0) = q := ⟨_, rfl⟩
  have hM := fa_let_to hM ew2.symm
  refine g_callN X (c1 := 2) (s1 := 74) (by omega) mi_Row_init (n_Row_e 175 176 174 72 72 fh_175 (Nat.le_of_ble_eq_true rfl) fhs_176 (by decide +kernel) (by decide +kernel) (by decide +kernel) (by decide +kernel) (by decide) w1 _ ew2) wd_373 rfl (Nat.le_trans (Nat.le_of_ble_eq_true rfl) hle) (st := [.ref (b + 175), .ref (b + 174)]) (Nat.le_of_ble_eq_true rfl) rfl d_Groups_174_11 rfl rfl (Nat.le_of_ble_eq_true rfl) (Nat.le_of_ble_eq_true rfl) ?_
  refine g_putR X hnm ck_2 fh_174 (Nat.le_of_ble_eq_true rfl) 0 (by decide) wd_374 rfl rfl (by decide +kernel) (fa_ctR (t := 175) rfl (by decide +kernel) (by decide +kernel)) rfl rfl d_Groups_174_14 ?_
  refine g_aload_n X 0 rfl d_Groups_174_17 ?_
  refine g_new X (N1 := 178) (c1 := 3) (s1 := 76) (by omega) ck_6 fh_177 (by decide +kernel) (by decide +kernel) wd_372 wd_35 wd_2 rfl rfl rfl (Nat.le_of_ble_eq_true rfl) (Nat.le_of_ble_eq_true rfl) d_Groups_174_18 (fun w3 ew3 => ?_)
  have hM := fa_let_to hM ew3
  refine g_dup X rfl d_Groups_174_21 ?_
  refine g_iconst X d_Groups_174_22 ?_
  obtain ⟨w4, ew4⟩ : ∃ q, fa_nw 178 (fa_st w3 177 1 0) = q := ⟨_, rfl⟩
  have hM := fa_let_to hM ew4.symm
  refine g_callN X (c1 := 4) (s1 := 79) (by omega) mi_Row_init (n_Row_e 177 178 176 3 3 fh_177 (Nat.le_of_ble_eq_true rfl) fhs_178 (by decide +kernel) (by decide +kernel) (by decide +kernel) (by decide +kernel) (by decide) w3 _ ew4) wd_373 rfl (Nat.le_trans (Nat.le_of_ble_eq_true rfl) hle) (st := [.ref (b + 177), .ref (b + 174)]) (Nat.le_of_ble_eq_true rfl) rfl d_Groups_174_23 rfl rfl (Nat.le_of_ble_eq_true rfl) (Nat.le_of_ble_eq_true rfl) ?_
  refine g_putR X hnm ck_2 fh_174 (Nat.le_of_ble_eq_true rfl) 1 (by decide) wd_375 rfl rfl (by decide +kernel) (fa_ctR (t := 177) rfl (by decide +kernel) (by decide +kernel)) rfl rfl d_Groups_174_26 ?_
  refine g_aload_n X 0 rfl d_Groups_174_29 ?_
  refine g_new X (N1 := 180) (c1 := 5) (s1 := 81) (by omega) ck_6 fh_179 (by decide +kernel) (by decide +kernel) wd_372 wd_35 wd_2 rfl rfl rfl (Nat.le_of_ble_eq_true rfl) (Nat.le_of_ble_eq_true rfl) d_Groups_174_30 (fun w5 ew5 => ?_)
  have hM := fa_let_to hM ew5
  refine g_dup X rfl d_Groups_174_33 ?_
  refine g_bipush X (by decide) d_Groups_174_34 ?_
  obtain ⟨w6, ew6⟩ : ∃ q, fa_nw 180 (fa_st w5 179 1 0) = q := ⟨_, rfl⟩
  have hM := fa_let_to hM ew6.symm
  refine g_callN X (c1 := 6) (s1 := 105) (by omega) mi_Row_init (n_Row_e 179 180 178 24 24 fh_179 (Nat.le_of_ble_eq_true rfl) fhs_180 (by decide +kernel) (by decide +kernel) (by decide +kernel) (by decide +kernel) (by decide) w5 _ ew6) wd_373 rfl (Nat.le_trans (Nat.le_of_ble_eq_true rfl) hle) (st := [.ref (b + 179), .ref (b + 174)]) (Nat.le_of_ble_eq_true rfl) rfl d_Groups_174_36 rfl rfl (Nat.le_of_ble_eq_true rfl) (Nat.le_of_ble_eq_true rfl) ?_
  refine g_putR X hnm ck_2 fh_174 (Nat.le_of_ble_eq_true rfl) 2 (by decide) wd_376 rfl rfl (by decide +kernel) (fa_ctR (t := 179) rfl (by decide +kernel) (by decide +kernel)) rfl rfl d_Groups_174_39 ?_
  subst hM
  exact g_cvret X d_Groups_174_42
theorem d_Scene_118_0 : decode prog_8_method_1_code 0 = .ok (.aload_n 0, 1) := by decide +kernel
theorem d_Scene_118_1 : decode prog_8_method_1_code 1 = .ok (.invokespecial 1, 3) := by decide +kernel
theorem d_Scene_118_4 : decode prog_8_method_1_code 4 = .ok (.aload_n 0, 1) := by decide +kernel
theorem d_Scene_118_5 : decode prog_8_method_1_code 5 = .ok (.new 7, 3) := by decide +kernel
theorem d_Scene_118_8 : decode prog_8_method_1_code 8 = .ok (.dup, 1) := by decide +kernel
theorem d_Scene_118_9 : decode prog_8_method_1_code 9 = .ok (.invokespecial 9, 3) := by decide +kernel
theorem d_Scene_118_12 : decode prog_8_method_1_code 12 = .ok (.putfield 10, 3) := by decide +kernel
theorem d_Scene_118_15 : decode prog_8_method_1_code 15 = .ok (.aload_n 0, 1) := by decide +kernel
theorem d_Scene_118_16 : decode prog_8_method_1_code 16 = .ok (.new 16, 3) := by decide +kernel
theorem d_Scene_118_19 : decode prog_8_method_1_code 19 = .ok (.dup, 1) := by decide +kernel
theorem d_Scene_118_20 : decode prog_8_method_1_code 20 = .ok (.invokespecial 18, 3) := by decide +kernel
theorem d_Scene_118_23 : decode prog_8_method_1_code 23 = .ok (.putfield 19, 3) := by decide +kernel
theorem d_Scene_118_26 : decode prog_8_method_1_code 26 = .ok (.aload_n 0, 1) := by decide +kernel
theorem d_Scene_118_27 : decode prog_8_method_1_code 27 = .ok (.new 23, 3) := by decide +kernel
theorem d_Scene_118_30 : decode prog_8_method_1_code 30 = .ok (.dup, 1) := by decide +kernel
theorem d_Scene_118_31 : decode prog_8_method_1_code 31 = .ok (.invokespecial 25, 3) := by decide +kernel
theorem d_Scene_118_34 : decode prog_8_method_1_code 34 = .ok (.putfield 26, 3) := by decide +kernel
theorem d_Scene_118_37 : decode prog_8_method_1_code 37 = .ok (.aload_n 0, 1) := by decide +kernel
theorem d_Scene_118_38 : decode prog_8_method_1_code 38 = .ok (.new 30, 3) := by decide +kernel
theorem d_Scene_118_41 : decode prog_8_method_1_code 41 = .ok (.dup, 1) := by decide +kernel
theorem d_Scene_118_42 : decode prog_8_method_1_code 42 = .ok (.invokespecial 32, 3) := by decide +kernel
theorem d_Scene_118_45 : decode prog_8_method_1_code 45 = .ok (.putfield 33, 3) := by decide +kernel
theorem d_Scene_118_48 : decode prog_8_method_1_code 48 = .ok (.return_, 1) := by decide +kernel
def fm_new_Scene_118 (w : fa_W) : fa_W :=
  fa_let (fa_nw 119 w) fun w1 =>
  fa_let (fm_new_Program_119 w1) fun w2 =>
  fa_let (fa_nw 146 w2) fun w3 =>
  fa_let (fm_new_Typing_146 w3) fun w4 =>
  fa_let (fa_nw 163 w4) fun w5 =>
  fa_let (fm_new_Flow_163 w5) fun w6 =>
  fa_let (fa_nw 174 w6) fun w7 =>
  fa_let (fm_new_Groups_174 w7) fun w8 =>
  w8
set_option maxHeartbeats 4000000 in
set_option maxRecDepth 100000 in
theorem n_Scene_118 {l : Launch} {D : va_G} {b : Nat} {aC : Nat → ClassId} {H0 : Heap} (w r : fa_W) (hM : fm_new_Scene_118 w = r) : fa_NC l D b aC H0 119 119 181 181 y_Scene_init prog_8_method_1_code 1 4 62 3840 [.ref (b + 118)] w r := by
  refine fa_nenter (lv := [(0, .ref (b + 118))]) (by decide +kernel) (Nat.le_of_ble_eq_true rfl) rfl (fun hh hle hsz hnm X => ?_)
  unfold fm_new_Scene_118 at hM
  refine g_aload_n X 0 rfl d_Scene_118_0 ?_
  refine g_objInit X wd_282 wd_32 wd_33 (Nat.le_trans (Nat.le_of_ble_eq_true rfl) hle) (Nat.le_of_ble_eq_true rfl) d_Scene_118_1 ?_
  refine g_aload_n X 0 rfl d_Scene_118_4 ?_
  refine g_new X (N1 := 120) (c1 := 1) (s1 := 17) (by omega) ck_4 fh_119 (by decide +kernel) (by decide +kernel) wd_283 wd_58 wd_5 rfl rfl rfl (Nat.le_of_ble_eq_true rfl) (Nat.le_of_ble_eq_true rfl) d_Scene_118_5 (fun w1 ew1 => ?_)
  have hM := fa_let_to hM ew1
  refine g_dup X rfl d_Scene_118_8 ?_
  obtain ⟨w2, ew2⟩ : ∃ q, fm_new_Program_119 w1 = q := ⟨_, rfl⟩
  have hM := fa_let_to hM ew2.symm
  refine g_callNN X (c1 := 27) (s1 := 1245) (by omega) mi_Program_init (n_Program_119 w1 _ ew2) wd_284 rfl (Nat.le_trans (Nat.le_of_ble_eq_true rfl) hle) (st := [.ref (b + 119), .ref (b + 118)]) (Nat.le_of_ble_eq_true rfl) rfl d_Scene_118_9 rfl rfl (Nat.le_of_ble_eq_true rfl) (Nat.le_of_ble_eq_true rfl) ?_
  refine g_putR X hnm ck_7 fh_118 (Nat.le_of_ble_eq_true rfl) 0 (by decide) wd_384 rfl rfl (by decide +kernel) (fa_ctR (t := 119) rfl (by decide +kernel) (by decide +kernel)) rfl rfl d_Scene_118_12 ?_
  refine g_aload_n X 0 rfl d_Scene_118_15 ?_
  refine g_new X (N1 := 147) (c1 := 28) (s1 := 1254) (by omega) ck_8 fh_146 (by decide +kernel) (by decide +kernel) wd_285 wd_286 wd_9 rfl rfl rfl (Nat.le_of_ble_eq_true rfl) (Nat.le_of_ble_eq_true rfl) d_Scene_118_16 (fun w3 ew3 => ?_)
  have hM := fa_let_to hM ew3
  refine g_dup X rfl d_Scene_118_19 ?_
  obtain ⟨w4, ew4⟩ : ∃ q, fm_new_Typing_146 w3 = q := ⟨_, rfl⟩
  have hM := fa_let_to hM ew4.symm
  refine g_callNN X (c1 := 44) (s1 := 3468) (by omega) mi_Typing_init (n_Typing_146 w3 _ ew4) wd_287 rfl (Nat.le_trans (Nat.le_of_ble_eq_true rfl) hle) (st := [.ref (b + 146), .ref (b + 118)]) (Nat.le_of_ble_eq_true rfl) rfl d_Scene_118_20 rfl rfl (Nat.le_of_ble_eq_true rfl) (Nat.le_of_ble_eq_true rfl) ?_
  refine g_putR X hnm ck_7 fh_118 (Nat.le_of_ble_eq_true rfl) 1 (by decide) wd_388 rfl rfl (by decide +kernel) (fa_ctR (t := 146) rfl (by decide +kernel) (by decide +kernel)) rfl rfl d_Scene_118_23 ?_
  refine g_aload_n X 0 rfl d_Scene_118_26 ?_
  refine g_new X (N1 := 164) (c1 := 45) (s1 := 3476) (by omega) ck_1 fh_163 (by decide +kernel) (by decide +kernel) wd_324 wd_325 wd_10 rfl rfl rfl (Nat.le_of_ble_eq_true rfl) (Nat.le_of_ble_eq_true rfl) d_Scene_118_27 (fun w5 ew5 => ?_)
  have hM := fa_let_to hM ew5
  refine g_dup X rfl d_Scene_118_30 ?_
  obtain ⟨w6, ew6⟩ : ∃ q, fm_new_Flow_163 w5 = q := ⟨_, rfl⟩
  have hM := fa_let_to hM ew6.symm
  refine g_callNN X (c1 := 55) (s1 := 3732) (by omega) mi_Flow_init (n_Flow_163 w5 _ ew6) wd_326 rfl (Nat.le_trans (Nat.le_of_ble_eq_true rfl) hle) (st := [.ref (b + 163), .ref (b + 118)]) (Nat.le_of_ble_eq_true rfl) rfl d_Scene_118_31 rfl rfl (Nat.le_of_ble_eq_true rfl) (Nat.le_of_ble_eq_true rfl) ?_
  refine g_putR X hnm ck_7 fh_118 (Nat.le_of_ble_eq_true rfl) 2 (by decide) wd_391 rfl rfl (by decide +kernel) (fa_ctR (t := 163) rfl (by decide +kernel) (by decide +kernel)) rfl rfl d_Scene_118_34 ?_
  refine g_aload_n X 0 rfl d_Scene_118_37 ?_
  refine g_new X (N1 := 175) (c1 := 56) (s1 := 3735) (by omega) ck_2 fh_174 (by decide +kernel) (by decide +kernel) wd_366 wd_367 wd_11 rfl rfl rfl (Nat.le_of_ble_eq_true rfl) (Nat.le_of_ble_eq_true rfl) d_Scene_118_38 (fun w7 ew7 => ?_)
  have hM := fa_let_to hM ew7
  refine g_dup X rfl d_Scene_118_41 ?_
  obtain ⟨w8, ew8⟩ : ∃ q, fm_new_Groups_174 w7 = q := ⟨_, rfl⟩
  have hM := fa_let_to hM ew8.symm
  refine g_callNN X (c1 := 62) (s1 := 3840) (by omega) mi_Groups_init (n_Groups_174 w7 _ ew8) wd_368 rfl (Nat.le_trans (Nat.le_of_ble_eq_true rfl) hle) (st := [.ref (b + 174), .ref (b + 118)]) (Nat.le_of_ble_eq_true rfl) rfl d_Scene_118_42 rfl rfl (Nat.le_of_ble_eq_true rfl) (Nat.le_of_ble_eq_true rfl) ?_
  refine g_putR X hnm ck_7 fh_118 (Nat.le_of_ble_eq_true rfl) 3 (by decide) wd_395 rfl rfl (by decide +kernel) (fa_ctR (t := 174) rfl (by decide +kernel) (by decide +kernel)) rfl rfl d_Scene_118_45 ?_
  subst hM
  exact g_cvret X d_Scene_118_48
theorem d_Face_0_0 : decode prog_1_method_1_code 0 = .ok (.aload_n 0, 1) := by decide +kernel
theorem d_Face_0_1 : decode prog_1_method_1_code 1 = .ok (.invokespecial 3, 3) := by decide +kernel
theorem d_Face_0_4 : decode prog_1_method_1_code 4 = .ok (.aload_n 0, 1) := by decide +kernel
theorem d_Face_0_5 : decode prog_1_method_1_code 5 = .ok (.new 9, 3) := by decide +kernel
theorem d_Face_0_8 : decode prog_1_method_1_code 8 = .ok (.dup, 1) := by decide +kernel
theorem d_Face_0_9 : decode prog_1_method_1_code 9 = .ok (.sipush 400, 3) := by decide +kernel
theorem d_Face_0_12 : decode prog_1_method_1_code 12 = .ok (.invokespecial 11, 3) := by decide +kernel
theorem d_Face_0_15 : decode prog_1_method_1_code 15 = .ok (.putfield 14, 3) := by decide +kernel
theorem d_Face_0_18 : decode prog_1_method_1_code 18 = .ok (.aload_n 0, 1) := by decide +kernel
theorem d_Face_0_19 : decode prog_1_method_1_code 19 = .ok (.new 9, 3) := by decide +kernel
theorem d_Face_0_22 : decode prog_1_method_1_code 22 = .ok (.dup, 1) := by decide +kernel
theorem d_Face_0_23 : decode prog_1_method_1_code 23 = .ok (.sipush 7000, 3) := by decide +kernel
theorem d_Face_0_26 : decode prog_1_method_1_code 26 = .ok (.invokespecial 11, 3) := by decide +kernel
theorem d_Face_0_29 : decode prog_1_method_1_code 29 = .ok (.putfield 18, 3) := by decide +kernel
theorem d_Face_0_32 : decode prog_1_method_1_code 32 = .ok (.aload_n 0, 1) := by decide +kernel
theorem d_Face_0_33 : decode prog_1_method_1_code 33 = .ok (.new 9, 3) := by decide +kernel
theorem d_Face_0_36 : decode prog_1_method_1_code 36 = .ok (.dup, 1) := by decide +kernel
theorem d_Face_0_37 : decode prog_1_method_1_code 37 = .ok (.bipush 74, 2) := by decide +kernel
theorem d_Face_0_39 : decode prog_1_method_1_code 39 = .ok (.invokespecial 11, 3) := by decide +kernel
theorem d_Face_0_42 : decode prog_1_method_1_code 42 = .ok (.putfield 21, 3) := by decide +kernel
theorem d_Face_0_45 : decode prog_1_method_1_code 45 = .ok (.aload_n 0, 1) := by decide +kernel
theorem d_Face_0_46 : decode prog_1_method_1_code 46 = .ok (.new 24, 3) := by decide +kernel
theorem d_Face_0_49 : decode prog_1_method_1_code 49 = .ok (.dup, 1) := by decide +kernel
theorem d_Face_0_50 : decode prog_1_method_1_code 50 = .ok (.aload_n 0, 1) := by decide +kernel
theorem d_Face_0_51 : decode prog_1_method_1_code 51 = .ok (.getfield 14, 3) := by decide +kernel
theorem d_Face_0_54 : decode prog_1_method_1_code 54 = .ok (.invokespecial 26, 3) := by decide +kernel
theorem d_Face_0_57 : decode prog_1_method_1_code 57 = .ok (.putfield 29, 3) := by decide +kernel
theorem d_Face_0_60 : decode prog_1_method_1_code 60 = .ok (.aload_n 0, 1) := by decide +kernel
theorem d_Face_0_61 : decode prog_1_method_1_code 61 = .ok (.new 33, 3) := by decide +kernel
theorem d_Face_0_64 : decode prog_1_method_1_code 64 = .ok (.dup, 1) := by decide +kernel
theorem d_Face_0_65 : decode prog_1_method_1_code 65 = .ok (.aload_n 0, 1) := by decide +kernel
theorem d_Face_0_66 : decode prog_1_method_1_code 66 = .ok (.getfield 18, 3) := by decide +kernel
theorem d_Face_0_69 : decode prog_1_method_1_code 69 = .ok (.invokespecial 35, 3) := by decide +kernel
theorem d_Face_0_72 : decode prog_1_method_1_code 72 = .ok (.putfield 36, 3) := by decide +kernel
theorem d_Face_0_75 : decode prog_1_method_1_code 75 = .ok (.aload_n 0, 1) := by decide +kernel
theorem d_Face_0_76 : decode prog_1_method_1_code 76 = .ok (.new 40, 3) := by decide +kernel
theorem d_Face_0_79 : decode prog_1_method_1_code 79 = .ok (.dup, 1) := by decide +kernel
theorem d_Face_0_80 : decode prog_1_method_1_code 80 = .ok (.invokespecial 42, 3) := by decide +kernel
theorem d_Face_0_83 : decode prog_1_method_1_code 83 = .ok (.putfield 43, 3) := by decide +kernel
theorem d_Face_0_86 : decode prog_1_method_1_code 86 = .ok (.aload_n 0, 1) := by decide +kernel
theorem d_Face_0_87 : decode prog_1_method_1_code 87 = .ok (.new 47, 3) := by decide +kernel
theorem d_Face_0_90 : decode prog_1_method_1_code 90 = .ok (.dup, 1) := by decide +kernel
theorem d_Face_0_91 : decode prog_1_method_1_code 91 = .ok (.invokespecial 49, 3) := by decide +kernel
theorem d_Face_0_94 : decode prog_1_method_1_code 94 = .ok (.putfield 50, 3) := by decide +kernel
theorem d_Face_0_97 : decode prog_1_method_1_code 97 = .ok (.aload_n 0, 1) := by decide +kernel
theorem d_Face_0_98 : decode prog_1_method_1_code 98 = .ok (.new 47, 3) := by decide +kernel
theorem d_Face_0_101 : decode prog_1_method_1_code 101 = .ok (.dup, 1) := by decide +kernel
theorem d_Face_0_102 : decode prog_1_method_1_code 102 = .ok (.invokespecial 49, 3) := by decide +kernel
theorem d_Face_0_105 : decode prog_1_method_1_code 105 = .ok (.putfield 54, 3) := by decide +kernel
theorem d_Face_0_108 : decode prog_1_method_1_code 108 = .ok (.aload_n 0, 1) := by decide +kernel
theorem d_Face_0_109 : decode prog_1_method_1_code 109 = .ok (.iconst (-1), 1) := by decide +kernel
theorem d_Face_0_110 : decode prog_1_method_1_code 110 = .ok (.putfield 57, 3) := by decide +kernel
theorem d_Face_0_113 : decode prog_1_method_1_code 113 = .ok (.aload_n 0, 1) := by decide +kernel
theorem d_Face_0_114 : decode prog_1_method_1_code 114 = .ok (.getfield 50, 3) := by decide +kernel
theorem d_Face_0_117 : decode prog_1_method_1_code 117 = .ok (.getfield 61, 3) := by decide +kernel
theorem d_Face_0_120 : decode prog_1_method_1_code 120 = .ok (.invokevirtual 65, 3) := by decide +kernel
theorem d_Face_0_123 : decode prog_1_method_1_code 123 = .ok (.aload_n 0, 1) := by decide +kernel
theorem d_Face_0_124 : decode prog_1_method_1_code 124 = .ok (.getfield 50, 3) := by decide +kernel
theorem d_Face_0_127 : decode prog_1_method_1_code 127 = .ok (.invokevirtual 70, 3) := by decide +kernel
theorem d_Face_0_130 : decode prog_1_method_1_code 130 = .ok (.pop, 1) := by decide +kernel
theorem d_Face_0_131 : decode prog_1_method_1_code 131 = .ok (.return_, 1) := by decide +kernel
def fm_new_Face_0 (w : fa_W) : Option fa_W :=
  fa_let (fa_nw 1 w) fun w1 =>
  fa_let (fa_nw 2 (fa_st w1 1 1 0)) fun w2 =>
  fa_let (fa_nw 3 w2) fun w3 =>
  fa_let (fa_nw 4 (fa_st w3 3 1 0)) fun w4 =>
  fa_let (fa_nw 5 w4) fun w5 =>
  fa_let (fa_nw 6 (fa_st w5 5 1 0)) fun w6 =>
  fa_let (fa_nw 7 w6) fun w7 =>
  fa_let (fm_new_Reader_7 w7) fun w8 =>
  fa_let (fa_nw 37 w8) fun w9 =>
  fa_let (fm_new_Writer_37 w9) fun w10 =>
  fa_let (fa_nw 44 w10) fun w11 =>
  fa_let (fm_new_Machine_44 w11) fun w12 =>
  fa_let (fa_nw 55 w12) fun w13 =>
  fa_let (fm_new_Scene_55 w13) fun w14 =>
  fa_let (fa_st w14 0 6 0) fun w15 =>
  fa_let (fa_nw 118 w15) fun w16 =>
  fa_let (fm_new_Scene_118 w16) fun w17 =>
  fa_let (fa_st w17 0 7 1) fun w18 =>
  fa_let (fa_st w18 0 8 (-1)) fun w19 =>
  if w19 0 6 = 0 then
  fa_let (fm_Program_makeDead 56 w19) fun w22 =>
  if w22 0 6 = 0 then
  fa_bd (fm_Scene_settle 55 w22) fun v26 w25 =>
  some w25 else none else none
set_option maxHeartbeats 4000000 in
set_option maxRecDepth 100000 in
theorem n_Face_0 {l : Launch} {D : va_G} {b : Nat} {aC : Nat → ClassId} {H0 : Heap} (w r : fa_W) (hM : fm_new_Face_0 w = some r) : fa_NC l D b aC H0 1 0 181 182 y_Face_init prog_1_method_1_code 1 6 180 36234 [.ref (b + 0)] w r := by
  refine fa_nenter (lv := [(0, .ref (b + 0))]) (by decide +kernel) (Nat.le_of_ble_eq_true rfl) rfl (fun hh hle hsz hnm X => ?_)
  unfold fm_new_Face_0 at hM
  refine g_aload_n X 0 rfl d_Face_0_0 ?_
  refine g_objInit X wd_31 wd_32 wd_33 (Nat.le_trans (Nat.le_of_ble_eq_true rfl) hle) (Nat.le_of_ble_eq_true rfl) d_Face_0_1 ?_
  refine g_aload_n X 0 rfl d_Face_0_4 ?_
  refine g_new X (N1 := 2) (c1 := 1) (s1 := 2) (by omega) ck_6 fh_1 (by decide +kernel) (by decide +kernel) wd_34 wd_35 wd_2 rfl rfl rfl (Nat.le_of_ble_eq_true rfl) (Nat.le_of_ble_eq_true rfl) d_Face_0_5 (fun w1 ew1 => ?_)
  have hM := fa_let_to hM ew1
  refine g_dup X rfl d_Face_0_8 ?_
  refine g_sipush X (by decide) d_Face_0_9 ?_
  obtain ⟨w2, ew2⟩ : ∃ q, fa_nw 2 (fa_st w1 1 1 0) = q := ⟨_, rfl⟩
  have hM := fa_let_to hM ew2.symm
  refine g_callN X (c1 := 2) (s1 := 402) (by omega) mi_Row_init (n_Row_e 1 2 0 400 400 fh_1 (Nat.le_of_ble_eq_true rfl) fhs_2 (by decide +kernel) (by decide +kernel) (by decide +kernel) (by decide +kernel) (by decide) w1 _ ew2) wd_36 rfl (Nat.le_trans (Nat.le_of_ble_eq_true rfl) hle) (st := [.ref (b + 1), .ref (b + 0)]) (Nat.le_of_ble_eq_true rfl) rfl d_Face_0_12 rfl rfl (Nat.le_of_ble_eq_true rfl) (Nat.le_of_ble_eq_true rfl) ?_
  refine g_putR X hnm ck_0 fh_0 (Nat.le_of_ble_eq_true rfl) 0 (by decide) wd_627 rfl rfl (by decide +kernel) (fa_ctR (t := 1) rfl (by decide +kernel) (by decide +kernel)) rfl rfl d_Face_0_15 ?_
  refine g_aload_n X 0 rfl d_Face_0_18 ?_
  refine g_new X (N1 := 4) (c1 := 3) (s1 := 404) (by omega) ck_6 fh_3 (by decide +kernel) (by decide +kernel) wd_34 wd_35 wd_2 rfl rfl rfl (Nat.le_of_ble_eq_true rfl) (Nat.le_of_ble_eq_true rfl) d_Face_0_19 (fun w3 ew3 => ?_)
  have hM := fa_let_to hM ew3
  refine g_dup X rfl d_Face_0_22 ?_
  refine g_sipush X (by decide) d_Face_0_23 ?_
  obtain ⟨w4, ew4⟩ : ∃ q, fa_nw 4 (fa_st w3 3 1 0) = q := ⟨_, rfl⟩
  have hM := fa_let_to hM ew4.symm
  refine g_callN X (c1 := 4) (s1 := 7404) (by omega) mi_Row_init (n_Row_e 3 4 2 7000 7000 fh_3 (Nat.le_of_ble_eq_true rfl) fhs_4 (by decide +kernel) (by decide +kernel) (by decide +kernel) (by decide +kernel) (by decide) w3 _ ew4) wd_36 rfl (Nat.le_trans (Nat.le_of_ble_eq_true rfl) hle) (st := [.ref (b + 3), .ref (b + 0)]) (Nat.le_of_ble_eq_true rfl) rfl d_Face_0_26 rfl rfl (Nat.le_of_ble_eq_true rfl) (Nat.le_of_ble_eq_true rfl) ?_
  refine g_putR X hnm ck_0 fh_0 (Nat.le_of_ble_eq_true rfl) 1 (by decide) wd_628 rfl rfl (by decide +kernel) (fa_ctR (t := 3) rfl (by decide +kernel) (by decide +kernel)) rfl rfl d_Face_0_29 ?_
  refine g_aload_n X 0 rfl d_Face_0_32 ?_
  refine g_new X (N1 := 6) (c1 := 5) (s1 := 7406) (by omega) ck_6 fh_5 (by decide +kernel) (by decide +kernel) wd_34 wd_35 wd_2 rfl rfl rfl (Nat.le_of_ble_eq_true rfl) (Nat.le_of_ble_eq_true rfl) d_Face_0_33 (fun w5 ew5 => ?_)
  have hM := fa_let_to hM ew5
  refine g_dup X rfl d_Face_0_36 ?_
  refine g_bipush X (by decide) d_Face_0_37 ?_
  obtain ⟨w6, ew6⟩ : ∃ q, fa_nw 6 (fa_st w5 5 1 0) = q := ⟨_, rfl⟩
  have hM := fa_let_to hM ew6.symm
  refine g_callN X (c1 := 6) (s1 := 7480) (by omega) mi_Row_init (n_Row_e 5 6 4 74 74 fh_5 (Nat.le_of_ble_eq_true rfl) fhs_6 (by decide +kernel) (by decide +kernel) (by decide +kernel) (by decide +kernel) (by decide) w5 _ ew6) wd_36 rfl (Nat.le_trans (Nat.le_of_ble_eq_true rfl) hle) (st := [.ref (b + 5), .ref (b + 0)]) (Nat.le_of_ble_eq_true rfl) rfl d_Face_0_39 rfl rfl (Nat.le_of_ble_eq_true rfl) (Nat.le_of_ble_eq_true rfl) ?_
  refine g_putR X hnm ck_0 fh_0 (Nat.le_of_ble_eq_true rfl) 2 (by decide) wd_629 rfl rfl (by decide +kernel) (fa_ctR (t := 5) rfl (by decide +kernel) (by decide +kernel)) rfl rfl d_Face_0_42 ?_
  refine g_aload_n X 0 rfl d_Face_0_45 ?_
  refine g_new X (N1 := 8) (c1 := 7) (s1 := 7493) (by omega) ck_5 fh_7 (by decide +kernel) (by decide +kernel) wd_51 wd_52 wd_4 rfl rfl rfl (Nat.le_of_ble_eq_true rfl) (Nat.le_of_ble_eq_true rfl) d_Face_0_46 (fun w7 ew7 => ?_)
  have hM := fa_let_to hM ew7
  refine g_dup X rfl d_Face_0_49 ?_
  refine g_aload_n X 0 rfl d_Face_0_50 ?_
  refine g_get X ck_0 fh_0 (Nat.le_of_ble_eq_true rfl) 0 (by decide) wd_627 rfl (v := .ref (b + 1)) (fa_ctR (t := 1) rfl (by decide +kernel) (by decide +kernel)) d_Face_0_51 ?_
  obtain ⟨w8, ew8⟩ : ∃ q, fm_new_Reader_7 w7 = q := ⟨_, rfl⟩
  have hM := fa_let_to hM ew8.symm
  refine g_callN X (c1 := 36) (s1 := 8761) (by omega) mi_Reader_init (n_Reader_7 w7 _ ew8) wd_53 rfl (Nat.le_trans (Nat.le_of_ble_eq_true rfl) hle) (st := [.ref (b + 7), .ref (b + 0)]) (Nat.le_of_ble_eq_true rfl) rfl d_Face_0_54 rfl rfl (Nat.le_of_ble_eq_true rfl) (Nat.le_of_ble_eq_true rfl) ?_
  refine g_putR X hnm ck_0 fh_0 (Nat.le_of_ble_eq_true rfl) 3 (by decide) wd_630 rfl rfl (by decide +kernel) (fa_ctR (t := 7) rfl (by decide +kernel) (by decide +kernel)) rfl rfl d_Face_0_57 ?_
  refine g_aload_n X 0 rfl d_Face_0_60 ?_
  refine g_new X (N1 := 38) (c1 := 37) (s1 := 8766) (by omega) ck_9 fh_37 (by decide +kernel) (by decide +kernel) wd_191 wd_192 wd_6 rfl rfl rfl (Nat.le_of_ble_eq_true rfl) (Nat.le_of_ble_eq_true rfl) d_Face_0_61 (fun w9 ew9 => ?_)
  have hM := fa_let_to hM ew9
  refine g_dup X rfl d_Face_0_64 ?_
  refine g_aload_n X 0 rfl d_Face_0_65 ?_
  refine g_get X ck_0 fh_0 (Nat.le_of_ble_eq_true rfl) 1 (by decide) wd_628 rfl (v := .ref (b + 3)) (fa_ctR (t := 3) rfl (by decide +kernel) (by decide +kernel)) d_Face_0_66 ?_
  obtain ⟨w10, ew10⟩ : ∃ q, fm_new_Writer_37 w9 = q := ⟨_, rfl⟩
  have hM := fa_let_to hM ew10.symm
  refine g_callN X (c1 := 43) (s1 := 10346) (by omega) mi_Writer_init (n_Writer_37 w9 _ ew10) wd_193 rfl (Nat.le_trans (Nat.le_of_ble_eq_true rfl) hle) (st := [.ref (b + 37), .ref (b + 0)]) (Nat.le_of_ble_eq_true rfl) rfl d_Face_0_69 rfl rfl (Nat.le_of_ble_eq_true rfl) (Nat.le_of_ble_eq_true rfl) ?_
  refine g_putR X hnm ck_0 fh_0 (Nat.le_of_ble_eq_true rfl) 4 (by decide) wd_631 rfl rfl (by decide +kernel) (fa_ctR (t := 37) rfl (by decide +kernel) (by decide +kernel)) rfl rfl d_Face_0_72 ?_
  refine g_aload_n X 0 rfl d_Face_0_75 ?_
  refine g_new X (N1 := 45) (c1 := 44) (s1 := 10358) (by omega) ck_3 fh_44 (by decide +kernel) (by decide +kernel) wd_215 wd_216 wd_7 rfl rfl rfl (Nat.le_of_ble_eq_true rfl) (Nat.le_of_ble_eq_true rfl) d_Face_0_76 (fun w11 ew11 => ?_)
  have hM := fa_let_to hM ew11
  refine g_dup X rfl d_Face_0_79 ?_
  obtain ⟨w12, ew12⟩ : ∃ q, fm_new_Machine_44 w11 = q := ⟨_, rfl⟩
  have hM := fa_let_to hM ew12.symm
  refine g_callN X (c1 := 54) (s1 := 28546) (by omega) mi_Machine_init (n_Machine_44 w11 _ ew12) wd_217 rfl (Nat.le_trans (Nat.le_of_ble_eq_true rfl) hle) (st := [.ref (b + 44), .ref (b + 0)]) (Nat.le_of_ble_eq_true rfl) rfl d_Face_0_80 rfl rfl (Nat.le_of_ble_eq_true rfl) (Nat.le_of_ble_eq_true rfl) ?_
  refine g_putR X hnm ck_0 fh_0 (Nat.le_of_ble_eq_true rfl) 5 (by decide) wd_632 rfl rfl (by decide +kernel) (fa_ctR (t := 44) rfl (by decide +kernel) (by decide +kernel)) rfl rfl d_Face_0_83 ?_
  refine g_aload_n X 0 rfl d_Face_0_86 ?_
  refine g_new X (N1 := 56) (c1 := 55) (s1 := 28550) (by omega) ck_7 fh_55 (by decide +kernel) (by decide +kernel) wd_277 wd_278 wd_8 rfl rfl rfl (Nat.le_of_ble_eq_true rfl) (Nat.le_of_ble_eq_true rfl) d_Face_0_87 (fun w13 ew13 => ?_)
  have hM := fa_let_to hM ew13
  refine g_dup X rfl d_Face_0_90 ?_
  obtain ⟨w14, ew14⟩ : ∃ q, fm_new_Scene_55 w13 = q := ⟨_, rfl⟩
  have hM := fa_let_to hM ew14.symm
  refine g_callNN X (c1 := 117) (s1 := 32390) (by omega) mi_Scene_init (n_Scene_55 w13 _ ew14) wd_279 rfl (Nat.le_trans (Nat.le_of_ble_eq_true rfl) hle) (st := [.ref (b + 55), .ref (b + 0)]) (Nat.le_of_ble_eq_true rfl) rfl d_Face_0_91 rfl rfl (Nat.le_of_ble_eq_true rfl) (Nat.le_of_ble_eq_true rfl) ?_
  refine g_putS X hnm ck_0 fh_0 (Nat.le_of_ble_eq_true rfl) 6 (by decide) wd_633 rfl rfl (by decide +kernel) rfl (by decide +kernel) 0 (a := 55) (by decide) rfl rfl d_Face_0_94 (fun w15 ew15 => ?_)
  have hM := fa_let_to hM ew15
  refine g_aload_n X 0 rfl d_Face_0_97 ?_
  refine g_new X (N1 := 119) (c1 := 118) (s1 := 32394) (by omega) ck_7 fh_118 (by decide +kernel) (by decide +kernel) wd_277 wd_278 wd_8 rfl rfl rfl (Nat.le_of_ble_eq_true rfl) (Nat.le_of_ble_eq_true rfl) d_Face_0_98 (fun w16 ew16 => ?_)
  have hM := fa_let_to hM ew16
  refine g_dup X rfl d_Face_0_101 ?_
  obtain ⟨w17, ew17⟩ : ∃ q, fm_new_Scene_118 w16 = q := ⟨_, rfl⟩
  have hM := fa_let_to hM ew17.symm
  refine g_callNN X (c1 := 180) (s1 := 36234) (by omega) mi_Scene_init (n_Scene_118 w16 _ ew17) wd_279 rfl (Nat.le_trans (Nat.le_of_ble_eq_true rfl) hle) (st := [.ref (b + 118), .ref (b + 0)]) (Nat.le_of_ble_eq_true rfl) rfl d_Face_0_102 rfl rfl (Nat.le_of_ble_eq_true rfl) (Nat.le_of_ble_eq_true rfl) ?_
  refine g_putS X hnm ck_0 fh_0 (Nat.le_of_ble_eq_true rfl) 7 (by decide) wd_634 rfl rfl (by decide +kernel) rfl (by decide +kernel) 1 (a := 118) (by decide) rfl rfl d_Face_0_105 (fun w18 ew18 => ?_)
  have hM := fa_let_to hM ew18
  refine g_aload_n X 0 rfl d_Face_0_108 ?_
  refine g_iconst X d_Face_0_109 ?_
  refine g_put X ck_0 fh_0 (Nat.le_of_ble_eq_true rfl) 8 (z := (-1)) (by decide) wd_635 rfl (fa_fvI' rfl) rfl rfl rfl d_Face_0_110 (fun w19 ew19 => ?_)
  have hM := fa_let_to hM ew19
  refine g_aload_n X 0 rfl d_Face_0_113 ?_
  obtain ⟨hq20, hM⟩ := fa_ynz hM
  refine g_get X ck_0 fh_0 (Nat.le_of_ble_eq_true rfl) 6 (by decide) wd_633 rfl (v := .ref (b + 55)) (by rw [fa_fvS rfl (by decide +kernel), hq20]; rfl) d_Face_0_114 ?_
  refine g_getN X ck_7 fh_55 (Nat.le_of_ble_eq_true rfl) 0 (by decide) wd_385 rfl (v := .ref (b + 56)) (fa_ctR (t := 56) rfl (by decide +kernel) (by decide +kernel)) d_Face_0_117 ?_
  obtain ⟨w22, e21⟩ : ∃ q, fm_Program_makeDead 56 w19 = q := ⟨_, rfl⟩
  have hM := fa_let_to hM e21.symm
  refine g_callV X ck_4 fh_56 (Nat.le_of_ble_eq_true rfl) rfl mi_Program_makeDead (c_Program_makeDead (Nat.le_of_ble_eq_true rfl) (Nat.le_of_ble_eq_true rfl) 56 fh_56 w19 _ e21) wd_408 rfl (Nat.le_trans (Nat.le_of_ble_eq_true rfl) hle) (ov := none) (st := []) (Nat.le_of_ble_eq_true rfl) rfl d_Face_0_120 (Nat.le_of_ble_eq_true rfl) (Nat.le_of_ble_eq_true rfl) ?_
  refine g_aload_n X 0 rfl d_Face_0_123 ?_
  obtain ⟨hq23, hM⟩ := fa_ynz hM
  refine g_get X ck_0 fh_0 (Nat.le_of_ble_eq_true rfl) 6 (by decide) wd_633 rfl (v := .ref (b + 55)) (by rw [fa_fvS rfl (by decide +kernel), hq23]; rfl) d_Face_0_124 ?_
  obtain ⟨v26, w25, e24, hM⟩ := fa_obd hM
  refine g_callV X ck_7 fh_55 (Nat.le_of_ble_eq_true rfl) rfl mi_Scene_settle (c_Scene_settle (Nat.le_of_ble_eq_true rfl) (Nat.le_of_ble_eq_true rfl) 55 fh_55 w22 _ e24) wd_435 rfl (Nat.le_trans (Nat.le_of_ble_eq_true rfl) hle) (ov := some (.int (fa_I (fa_bi v26)))) (st := []) (Nat.le_of_ble_eq_true rfl) rfl d_Face_0_127 (Nat.le_of_ble_eq_true rfl) (Nat.le_of_ble_eq_true rfl) ?_
  refine g_pop X rfl d_Face_0_130 ?_
  cases hM
  exact g_cvret X d_Face_0_131
theorem d_Mod_181_0 : decode prog_12_method_67_code 0 = .ok (.aload_n 0, 1) := by decide +kernel
theorem d_Mod_181_1 : decode prog_12_method_67_code 1 = .ok (.invokespecial 411, 3) := by decide +kernel
theorem d_Mod_181_4 : decode prog_12_method_67_code 4 = .ok (.aload_n 0, 1) := by decide +kernel
theorem d_Mod_181_5 : decode prog_12_method_67_code 5 = .ok (.sipush 400, 3) := by decide +kernel
theorem d_Mod_181_8 : decode prog_12_method_67_code 8 = .ok (.newarray .byte, 2) := by decide +kernel
theorem d_Mod_181_10 : decode prog_12_method_67_code 10 = .ok (.putfield 14, 3) := by decide +kernel
theorem d_Mod_181_13 : decode prog_12_method_67_code 13 = .ok (.aload_n 0, 1) := by decide +kernel
theorem d_Mod_181_14 : decode prog_12_method_67_code 14 = .ok (.iconst 5, 1) := by decide +kernel
theorem d_Mod_181_15 : decode prog_12_method_67_code 15 = .ok (.newarray .int, 2) := by decide +kernel
theorem d_Mod_181_17 : decode prog_12_method_67_code 17 = .ok (.putfield 10, 3) := by decide +kernel
theorem d_Mod_181_20 : decode prog_12_method_67_code 20 = .ok (.aload_n 0, 1) := by decide +kernel
theorem d_Mod_181_21 : decode prog_12_method_67_code 21 = .ok (.bipush 101, 2) := by decide +kernel
theorem d_Mod_181_23 : decode prog_12_method_67_code 23 = .ok (.newarray .int, 2) := by decide +kernel
theorem d_Mod_181_25 : decode prog_12_method_67_code 25 = .ok (.putfield 88, 3) := by decide +kernel
theorem d_Mod_181_28 : decode prog_12_method_67_code 28 = .ok (.aload_n 0, 1) := by decide +kernel
theorem d_Mod_181_29 : decode prog_12_method_67_code 29 = .ok (.bipush 101, 2) := by decide +kernel
theorem d_Mod_181_31 : decode prog_12_method_67_code 31 = .ok (.newarray .int, 2) := by decide +kernel
theorem d_Mod_181_33 : decode prog_12_method_67_code 33 = .ok (.putfield 94, 3) := by decide +kernel
theorem d_Mod_181_36 : decode prog_12_method_67_code 36 = .ok (.aload_n 0, 1) := by decide +kernel
theorem d_Mod_181_37 : decode prog_12_method_67_code 37 = .ok (.bipush 101, 2) := by decide +kernel
theorem d_Mod_181_39 : decode prog_12_method_67_code 39 = .ok (.newarray .int, 2) := by decide +kernel
theorem d_Mod_181_41 : decode prog_12_method_67_code 41 = .ok (.putfield 97, 3) := by decide +kernel
theorem d_Mod_181_44 : decode prog_12_method_67_code 44 = .ok (.aload_n 0, 1) := by decide +kernel
theorem d_Mod_181_45 : decode prog_12_method_67_code 45 = .ok (.bipush 101, 2) := by decide +kernel
theorem d_Mod_181_47 : decode prog_12_method_67_code 47 = .ok (.newarray .int, 2) := by decide +kernel
theorem d_Mod_181_49 : decode prog_12_method_67_code 49 = .ok (.putfield 100, 3) := by decide +kernel
theorem d_Mod_181_52 : decode prog_12_method_67_code 52 = .ok (.aload_n 0, 1) := by decide +kernel
theorem d_Mod_181_53 : decode prog_12_method_67_code 53 = .ok (.bipush 101, 2) := by decide +kernel
theorem d_Mod_181_55 : decode prog_12_method_67_code 55 = .ok (.newarray .int, 2) := by decide +kernel
theorem d_Mod_181_57 : decode prog_12_method_67_code 57 = .ok (.putfield 103, 3) := by decide +kernel
theorem d_Mod_181_60 : decode prog_12_method_67_code 60 = .ok (.aload_n 0, 1) := by decide +kernel
theorem d_Mod_181_61 : decode prog_12_method_67_code 61 = .ok (.bipush 24, 2) := by decide +kernel
theorem d_Mod_181_63 : decode prog_12_method_67_code 63 = .ok (.newarray .int, 2) := by decide +kernel
theorem d_Mod_181_65 : decode prog_12_method_67_code 65 = .ok (.putfield 166, 3) := by decide +kernel
theorem d_Mod_181_68 : decode prog_12_method_67_code 68 = .ok (.aload_n 0, 1) := by decide +kernel
theorem d_Mod_181_69 : decode prog_12_method_67_code 69 = .ok (.bipush 6, 2) := by decide +kernel
theorem d_Mod_181_71 : decode prog_12_method_67_code 71 = .ok (.newarray .int, 2) := by decide +kernel
theorem d_Mod_181_73 : decode prog_12_method_67_code 73 = .ok (.putfield 212, 3) := by decide +kernel
theorem d_Mod_181_76 : decode prog_12_method_67_code 76 = .ok (.aload_n 0, 1) := by decide +kernel
theorem d_Mod_181_77 : decode prog_12_method_67_code 77 = .ok (.bipush 24, 2) := by decide +kernel
theorem d_Mod_181_79 : decode prog_12_method_67_code 79 = .ok (.newarray .int, 2) := by decide +kernel
theorem d_Mod_181_81 : decode prog_12_method_67_code 81 = .ok (.putfield 156, 3) := by decide +kernel
theorem d_Mod_181_84 : decode prog_12_method_67_code 84 = .ok (.aload_n 0, 1) := by decide +kernel
theorem d_Mod_181_85 : decode prog_12_method_67_code 85 = .ok (.bipush 124, 2) := by decide +kernel
theorem d_Mod_181_87 : decode prog_12_method_67_code 87 = .ok (.newarray .int, 2) := by decide +kernel
theorem d_Mod_181_89 : decode prog_12_method_67_code 89 = .ok (.putfield 116, 3) := by decide +kernel
theorem d_Mod_181_92 : decode prog_12_method_67_code 92 = .ok (.aload_n 0, 1) := by decide +kernel
theorem d_Mod_181_93 : decode prog_12_method_67_code 93 = .ok (.bipush 124, 2) := by decide +kernel
theorem d_Mod_181_95 : decode prog_12_method_67_code 95 = .ok (.newarray .int, 2) := by decide +kernel
theorem d_Mod_181_97 : decode prog_12_method_67_code 97 = .ok (.putfield 119, 3) := by decide +kernel
theorem d_Mod_181_100 : decode prog_12_method_67_code 100 = .ok (.aload_n 0, 1) := by decide +kernel
theorem d_Mod_181_101 : decode prog_12_method_67_code 101 = .ok (.bipush 101, 2) := by decide +kernel
theorem d_Mod_181_103 : decode prog_12_method_67_code 103 = .ok (.newarray .int, 2) := by decide +kernel
theorem d_Mod_181_105 : decode prog_12_method_67_code 105 = .ok (.putfield 203, 3) := by decide +kernel
theorem d_Mod_181_108 : decode prog_12_method_67_code 108 = .ok (.aload_n 0, 1) := by decide +kernel
theorem d_Mod_181_109 : decode prog_12_method_67_code 109 = .ok (.bipush 101, 2) := by decide +kernel
theorem d_Mod_181_111 : decode prog_12_method_67_code 111 = .ok (.newarray .int, 2) := by decide +kernel
theorem d_Mod_181_113 : decode prog_12_method_67_code 113 = .ok (.putfield 200, 3) := by decide +kernel
theorem d_Mod_181_116 : decode prog_12_method_67_code 116 = .ok (.aload_n 0, 1) := by decide +kernel
theorem d_Mod_181_117 : decode prog_12_method_67_code 117 = .ok (.ldc_w 416, 3) := by decide +kernel
theorem d_Mod_181_120 : decode prog_12_method_67_code 120 = .ok (.newarray .byte, 2) := by decide +kernel
theorem d_Mod_181_122 : decode prog_12_method_67_code 122 = .ok (.putfield 24, 3) := by decide +kernel
theorem d_Mod_181_125 : decode prog_12_method_67_code 125 = .ok (.aload_n 0, 1) := by decide +kernel
theorem d_Mod_181_126 : decode prog_12_method_67_code 126 = .ok (.ldc_w 416, 3) := by decide +kernel
theorem d_Mod_181_129 : decode prog_12_method_67_code 129 = .ok (.newarray .byte, 2) := by decide +kernel
theorem d_Mod_181_131 : decode prog_12_method_67_code 131 = .ok (.putfield 417, 3) := by decide +kernel
theorem d_Mod_181_134 : decode prog_12_method_67_code 134 = .ok (.aload_n 0, 1) := by decide +kernel
theorem d_Mod_181_135 : decode prog_12_method_67_code 135 = .ok (.bipush 124, 2) := by decide +kernel
theorem d_Mod_181_137 : decode prog_12_method_67_code 137 = .ok (.newarray .int, 2) := by decide +kernel
theorem d_Mod_181_139 : decode prog_12_method_67_code 139 = .ok (.putfield 122, 3) := by decide +kernel
theorem d_Mod_181_142 : decode prog_12_method_67_code 142 = .ok (.aload_n 0, 1) := by decide +kernel
theorem d_Mod_181_143 : decode prog_12_method_67_code 143 = .ok (.sipush 1200, 3) := by decide +kernel
theorem d_Mod_181_146 : decode prog_12_method_67_code 146 = .ok (.newarray .int, 2) := by decide +kernel
theorem d_Mod_181_148 : decode prog_12_method_67_code 148 = .ok (.putfield 233, 3) := by decide +kernel
theorem d_Mod_181_151 : decode prog_12_method_67_code 151 = .ok (.aload_n 0, 1) := by decide +kernel
theorem d_Mod_181_152 : decode prog_12_method_67_code 152 = .ok (.sipush 1200, 3) := by decide +kernel
theorem d_Mod_181_155 : decode prog_12_method_67_code 155 = .ok (.newarray .int, 2) := by decide +kernel
theorem d_Mod_181_157 : decode prog_12_method_67_code 157 = .ok (.putfield 239, 3) := by decide +kernel
theorem d_Mod_181_160 : decode prog_12_method_67_code 160 = .ok (.aload_n 0, 1) := by decide +kernel
theorem d_Mod_181_161 : decode prog_12_method_67_code 161 = .ok (.sipush 1200, 3) := by decide +kernel
theorem d_Mod_181_164 : decode prog_12_method_67_code 164 = .ok (.newarray .int, 2) := by decide +kernel
theorem d_Mod_181_166 : decode prog_12_method_67_code 166 = .ok (.putfield 242, 3) := by decide +kernel
theorem d_Mod_181_169 : decode prog_12_method_67_code 169 = .ok (.aload_n 0, 1) := by decide +kernel
theorem d_Mod_181_170 : decode prog_12_method_67_code 170 = .ok (.sipush 1200, 3) := by decide +kernel
theorem d_Mod_181_173 : decode prog_12_method_67_code 173 = .ok (.newarray .int, 2) := by decide +kernel
theorem d_Mod_181_175 : decode prog_12_method_67_code 175 = .ok (.putfield 245, 3) := by decide +kernel
theorem d_Mod_181_178 : decode prog_12_method_67_code 178 = .ok (.aload_n 0, 1) := by decide +kernel
theorem d_Mod_181_179 : decode prog_12_method_67_code 179 = .ok (.bipush 101, 2) := by decide +kernel
theorem d_Mod_181_181 : decode prog_12_method_67_code 181 = .ok (.newarray .int, 2) := by decide +kernel
theorem d_Mod_181_183 : decode prog_12_method_67_code 183 = .ok (.putfield 261, 3) := by decide +kernel
theorem d_Mod_181_186 : decode prog_12_method_67_code 186 = .ok (.aload_n 0, 1) := by decide +kernel
theorem d_Mod_181_187 : decode prog_12_method_67_code 187 = .ok (.bipush 124, 2) := by decide +kernel
theorem d_Mod_181_189 : decode prog_12_method_67_code 189 = .ok (.newarray .int, 2) := by decide +kernel
theorem d_Mod_181_191 : decode prog_12_method_67_code 191 = .ok (.putfield 258, 3) := by decide +kernel
theorem d_Mod_181_194 : decode prog_12_method_67_code 194 = .ok (.aload_n 0, 1) := by decide +kernel
theorem d_Mod_181_195 : decode prog_12_method_67_code 195 = .ok (.sipush 1200, 3) := by decide +kernel
theorem d_Mod_181_198 : decode prog_12_method_67_code 198 = .ok (.newarray .int, 2) := by decide +kernel
theorem d_Mod_181_200 : decode prog_12_method_67_code 200 = .ok (.putfield 282, 3) := by decide +kernel
theorem d_Mod_181_203 : decode prog_12_method_67_code 203 = .ok (.aload_n 0, 1) := by decide +kernel
theorem d_Mod_181_204 : decode prog_12_method_67_code 204 = .ok (.bipush 24, 2) := by decide +kernel
theorem d_Mod_181_206 : decode prog_12_method_67_code 206 = .ok (.newarray .int, 2) := by decide +kernel
theorem d_Mod_181_208 : decode prog_12_method_67_code 208 = .ok (.putfield 273, 3) := by decide +kernel
theorem d_Mod_181_211 : decode prog_12_method_67_code 211 = .ok (.aload_n 0, 1) := by decide +kernel
theorem d_Mod_181_212 : decode prog_12_method_67_code 212 = .ok (.bipush 124, 2) := by decide +kernel
theorem d_Mod_181_214 : decode prog_12_method_67_code 214 = .ok (.newarray .int, 2) := by decide +kernel
theorem d_Mod_181_216 : decode prog_12_method_67_code 216 = .ok (.putfield 297, 3) := by decide +kernel
theorem d_Mod_181_219 : decode prog_12_method_67_code 219 = .ok (.aload_n 0, 1) := by decide +kernel
theorem d_Mod_181_220 : decode prog_12_method_67_code 220 = .ok (.bipush 24, 2) := by decide +kernel
theorem d_Mod_181_222 : decode prog_12_method_67_code 222 = .ok (.newarray .int, 2) := by decide +kernel
theorem d_Mod_181_224 : decode prog_12_method_67_code 224 = .ok (.putfield 329, 3) := by decide +kernel
theorem d_Mod_181_227 : decode prog_12_method_67_code 227 = .ok (.aload_n 0, 1) := by decide +kernel
theorem d_Mod_181_228 : decode prog_12_method_67_code 228 = .ok (.bipush 101, 2) := by decide +kernel
theorem d_Mod_181_230 : decode prog_12_method_67_code 230 = .ok (.newarray .int, 2) := by decide +kernel
theorem d_Mod_181_232 : decode prog_12_method_67_code 232 = .ok (.putfield 317, 3) := by decide +kernel
theorem d_Mod_181_235 : decode prog_12_method_67_code 235 = .ok (.aload_n 0, 1) := by decide +kernel
theorem d_Mod_181_236 : decode prog_12_method_67_code 236 = .ok (.bipush 101, 2) := by decide +kernel
theorem d_Mod_181_238 : decode prog_12_method_67_code 238 = .ok (.newarray .int, 2) := by decide +kernel
theorem d_Mod_181_240 : decode prog_12_method_67_code 240 = .ok (.putfield 320, 3) := by decide +kernel
theorem d_Mod_181_243 : decode prog_12_method_67_code 243 = .ok (.aload_n 0, 1) := by decide +kernel
theorem d_Mod_181_244 : decode prog_12_method_67_code 244 = .ok (.bipush 101, 2) := by decide +kernel
theorem d_Mod_181_246 : decode prog_12_method_67_code 246 = .ok (.newarray .int, 2) := by decide +kernel
theorem d_Mod_181_248 : decode prog_12_method_67_code 248 = .ok (.putfield 332, 3) := by decide +kernel
theorem d_Mod_181_251 : decode prog_12_method_67_code 251 = .ok (.aload_n 0, 1) := by decide +kernel
theorem d_Mod_181_252 : decode prog_12_method_67_code 252 = .ok (.bipush 101, 2) := by decide +kernel
theorem d_Mod_181_254 : decode prog_12_method_67_code 254 = .ok (.newarray .boolean, 2) := by decide +kernel
theorem d_Mod_181_256 : decode prog_12_method_67_code 256 = .ok (.putfield 313, 3) := by decide +kernel
theorem d_Mod_181_259 : decode prog_12_method_67_code 259 = .ok (.aload_n 0, 1) := by decide +kernel
theorem d_Mod_181_260 : decode prog_12_method_67_code 260 = .ok (.sipush 2976, 3) := by decide +kernel
theorem d_Mod_181_263 : decode prog_12_method_67_code 263 = .ok (.newarray .int, 2) := by decide +kernel
theorem d_Mod_181_265 : decode prog_12_method_67_code 265 = .ok (.putfield 350, 3) := by decide +kernel
theorem d_Mod_181_268 : decode prog_12_method_67_code 268 = .ok (.aload_n 0, 1) := by decide +kernel
theorem d_Mod_181_269 : decode prog_12_method_67_code 269 = .ok (.bipush 24, 2) := by decide +kernel
theorem d_Mod_181_271 : decode prog_12_method_67_code 271 = .ok (.newarray .int, 2) := by decide +kernel
theorem d_Mod_181_273 : decode prog_12_method_67_code 273 = .ok (.putfield 347, 3) := by decide +kernel
theorem d_Mod_181_276 : decode prog_12_method_67_code 276 = .ok (.aload_n 0, 1) := by decide +kernel
theorem d_Mod_181_277 : decode prog_12_method_67_code 277 = .ok (.bipush 72, 2) := by decide +kernel
theorem d_Mod_181_279 : decode prog_12_method_67_code 279 = .ok (.newarray .int, 2) := by decide +kernel
theorem d_Mod_181_281 : decode prog_12_method_67_code 281 = .ok (.putfield 353, 3) := by decide +kernel
theorem d_Mod_181_284 : decode prog_12_method_67_code 284 = .ok (.aload_n 0, 1) := by decide +kernel
theorem d_Mod_181_285 : decode prog_12_method_67_code 285 = .ok (.iconst 3, 1) := by decide +kernel
theorem d_Mod_181_286 : decode prog_12_method_67_code 286 = .ok (.newarray .int, 2) := by decide +kernel
theorem d_Mod_181_288 : decode prog_12_method_67_code 288 = .ok (.putfield 356, 3) := by decide +kernel
theorem d_Mod_181_291 : decode prog_12_method_67_code 291 = .ok (.aload_n 0, 1) := by decide +kernel
theorem d_Mod_181_292 : decode prog_12_method_67_code 292 = .ok (.bipush 24, 2) := by decide +kernel
theorem d_Mod_181_294 : decode prog_12_method_67_code 294 = .ok (.newarray .int, 2) := by decide +kernel
theorem d_Mod_181_296 : decode prog_12_method_67_code 296 = .ok (.putfield 366, 3) := by decide +kernel
theorem d_Mod_181_299 : decode prog_12_method_67_code 299 = .ok (.aload_n 0, 1) := by decide +kernel
theorem d_Mod_181_300 : decode prog_12_method_67_code 300 = .ok (.bipush 24, 2) := by decide +kernel
theorem d_Mod_181_302 : decode prog_12_method_67_code 302 = .ok (.newarray .int, 2) := by decide +kernel
theorem d_Mod_181_304 : decode prog_12_method_67_code 304 = .ok (.putfield 369, 3) := by decide +kernel
theorem d_Mod_181_307 : decode prog_12_method_67_code 307 = .ok (.aload_n 0, 1) := by decide +kernel
theorem d_Mod_181_308 : decode prog_12_method_67_code 308 = .ok (.bipush 24, 2) := by decide +kernel
theorem d_Mod_181_310 : decode prog_12_method_67_code 310 = .ok (.newarray .int, 2) := by decide +kernel
theorem d_Mod_181_312 : decode prog_12_method_67_code 312 = .ok (.putfield 372, 3) := by decide +kernel
theorem d_Mod_181_315 : decode prog_12_method_67_code 315 = .ok (.aload_n 0, 1) := by decide +kernel
theorem d_Mod_181_316 : decode prog_12_method_67_code 316 = .ok (.bipush 24, 2) := by decide +kernel
theorem d_Mod_181_318 : decode prog_12_method_67_code 318 = .ok (.newarray .int, 2) := by decide +kernel
theorem d_Mod_181_320 : decode prog_12_method_67_code 320 = .ok (.putfield 378, 3) := by decide +kernel
theorem d_Mod_181_323 : decode prog_12_method_67_code 323 = .ok (.aload_n 0, 1) := by decide +kernel
theorem d_Mod_181_324 : decode prog_12_method_67_code 324 = .ok (.sipush 500, 3) := by decide +kernel
theorem d_Mod_181_327 : decode prog_12_method_67_code 327 = .ok (.newarray .int, 2) := by decide +kernel
theorem d_Mod_181_329 : decode prog_12_method_67_code 329 = .ok (.putfield 381, 3) := by decide +kernel
theorem d_Mod_181_332 : decode prog_12_method_67_code 332 = .ok (.aload_n 0, 1) := by decide +kernel
theorem d_Mod_181_333 : decode prog_12_method_67_code 333 = .ok (.sipush 500, 3) := by decide +kernel
theorem d_Mod_181_336 : decode prog_12_method_67_code 336 = .ok (.newarray .int, 2) := by decide +kernel
theorem d_Mod_181_338 : decode prog_12_method_67_code 338 = .ok (.putfield 387, 3) := by decide +kernel
theorem d_Mod_181_341 : decode prog_12_method_67_code 341 = .ok (.aload_n 0, 1) := by decide +kernel
theorem d_Mod_181_342 : decode prog_12_method_67_code 342 = .ok (.bipush 25, 2) := by decide +kernel
theorem d_Mod_181_344 : decode prog_12_method_67_code 344 = .ok (.newarray .int, 2) := by decide +kernel
theorem d_Mod_181_346 : decode prog_12_method_67_code 346 = .ok (.putfield 396, 3) := by decide +kernel
theorem d_Mod_181_349 : decode prog_12_method_67_code 349 = .ok (.aload_n 0, 1) := by decide +kernel
theorem d_Mod_181_350 : decode prog_12_method_67_code 350 = .ok (.iconst (-1), 1) := by decide +kernel
theorem d_Mod_181_351 : decode prog_12_method_67_code 351 = .ok (.putfield 420, 3) := by decide +kernel
theorem d_Mod_181_354 : decode prog_12_method_67_code 354 = .ok (.aload_n 0, 1) := by decide +kernel
theorem d_Mod_181_355 : decode prog_12_method_67_code 355 = .ok (.ldc_w 416, 3) := by decide +kernel
theorem d_Mod_181_358 : decode prog_12_method_67_code 358 = .ok (.newarray .byte, 2) := by decide +kernel
theorem d_Mod_181_360 : decode prog_12_method_67_code 360 = .ok (.putfield 423, 3) := by decide +kernel
theorem d_Mod_181_363 : decode prog_12_method_67_code 363 = .ok (.aload_n 0, 1) := by decide +kernel
theorem d_Mod_181_364 : decode prog_12_method_67_code 364 = .ok (.sipush 1200, 3) := by decide +kernel
theorem d_Mod_181_367 : decode prog_12_method_67_code 367 = .ok (.newarray .int, 2) := by decide +kernel
theorem d_Mod_181_369 : decode prog_12_method_67_code 369 = .ok (.putfield 426, 3) := by decide +kernel
theorem d_Mod_181_372 : decode prog_12_method_67_code 372 = .ok (.aload_n 0, 1) := by decide +kernel
theorem d_Mod_181_373 : decode prog_12_method_67_code 373 = .ok (.ldc_w 429, 3) := by decide +kernel
theorem d_Mod_181_376 : decode prog_12_method_67_code 376 = .ok (.newarray .int, 2) := by decide +kernel
theorem d_Mod_181_378 : decode prog_12_method_67_code 378 = .ok (.putfield 430, 3) := by decide +kernel
theorem d_Mod_181_381 : decode prog_12_method_67_code 381 = .ok (.aload_n 0, 1) := by decide +kernel
theorem d_Mod_181_382 : decode prog_12_method_67_code 382 = .ok (.ldc_w 429, 3) := by decide +kernel
theorem d_Mod_181_385 : decode prog_12_method_67_code 385 = .ok (.newarray .int, 2) := by decide +kernel
theorem d_Mod_181_387 : decode prog_12_method_67_code 387 = .ok (.putfield 433, 3) := by decide +kernel
theorem d_Mod_181_390 : decode prog_12_method_67_code 390 = .ok (.aload_n 0, 1) := by decide +kernel
theorem d_Mod_181_391 : decode prog_12_method_67_code 391 = .ok (.ldc_w 429, 3) := by decide +kernel
theorem d_Mod_181_394 : decode prog_12_method_67_code 394 = .ok (.newarray .int, 2) := by decide +kernel
theorem d_Mod_181_396 : decode prog_12_method_67_code 396 = .ok (.putfield 436, 3) := by decide +kernel
theorem d_Mod_181_399 : decode prog_12_method_67_code 399 = .ok (.aload_n 0, 1) := by decide +kernel
theorem d_Mod_181_400 : decode prog_12_method_67_code 400 = .ok (.sipush 13640, 3) := by decide +kernel
theorem d_Mod_181_403 : decode prog_12_method_67_code 403 = .ok (.newarray .int, 2) := by decide +kernel
theorem d_Mod_181_405 : decode prog_12_method_67_code 405 = .ok (.putfield 439, 3) := by decide +kernel
theorem d_Mod_181_408 : decode prog_12_method_67_code 408 = .ok (.aload_n 0, 1) := by decide +kernel
theorem d_Mod_181_409 : decode prog_12_method_67_code 409 = .ok (.sipush 13640, 3) := by decide +kernel
theorem d_Mod_181_412 : decode prog_12_method_67_code 412 = .ok (.newarray .int, 2) := by decide +kernel
theorem d_Mod_181_414 : decode prog_12_method_67_code 414 = .ok (.putfield 442, 3) := by decide +kernel
theorem d_Mod_181_417 : decode prog_12_method_67_code 417 = .ok (.aload_n 0, 1) := by decide +kernel
theorem d_Mod_181_418 : decode prog_12_method_67_code 418 = .ok (.sipush 13640, 3) := by decide +kernel
theorem d_Mod_181_421 : decode prog_12_method_67_code 421 = .ok (.newarray .int, 2) := by decide +kernel
theorem d_Mod_181_423 : decode prog_12_method_67_code 423 = .ok (.putfield 445, 3) := by decide +kernel
theorem d_Mod_181_426 : decode prog_12_method_67_code 426 = .ok (.aload_n 0, 1) := by decide +kernel
theorem d_Mod_181_427 : decode prog_12_method_67_code 427 = .ok (.bipush 110, 2) := by decide +kernel
theorem d_Mod_181_429 : decode prog_12_method_67_code 429 = .ok (.newarray .int, 2) := by decide +kernel
theorem d_Mod_181_431 : decode prog_12_method_67_code 431 = .ok (.putfield 448, 3) := by decide +kernel
theorem d_Mod_181_434 : decode prog_12_method_67_code 434 = .ok (.aload_n 0, 1) := by decide +kernel
theorem d_Mod_181_435 : decode prog_12_method_67_code 435 = .ok (.bipush 110, 2) := by decide +kernel
theorem d_Mod_181_437 : decode prog_12_method_67_code 437 = .ok (.newarray .int, 2) := by decide +kernel
theorem d_Mod_181_439 : decode prog_12_method_67_code 439 = .ok (.putfield 451, 3) := by decide +kernel
theorem d_Mod_181_442 : decode prog_12_method_67_code 442 = .ok (.aload_n 0, 1) := by decide +kernel
theorem d_Mod_181_443 : decode prog_12_method_67_code 443 = .ok (.bipush 110, 2) := by decide +kernel
theorem d_Mod_181_445 : decode prog_12_method_67_code 445 = .ok (.newarray .int, 2) := by decide +kernel
theorem d_Mod_181_447 : decode prog_12_method_67_code 447 = .ok (.putfield 454, 3) := by decide +kernel
theorem d_Mod_181_450 : decode prog_12_method_67_code 450 = .ok (.aload_n 0, 1) := by decide +kernel
theorem d_Mod_181_451 : decode prog_12_method_67_code 451 = .ok (.bipush 110, 2) := by decide +kernel
theorem d_Mod_181_453 : decode prog_12_method_67_code 453 = .ok (.newarray .int, 2) := by decide +kernel
theorem d_Mod_181_455 : decode prog_12_method_67_code 455 = .ok (.putfield 457, 3) := by decide +kernel
theorem d_Mod_181_458 : decode prog_12_method_67_code 458 = .ok (.aload_n 0, 1) := by decide +kernel
theorem d_Mod_181_459 : decode prog_12_method_67_code 459 = .ok (.bipush 110, 2) := by decide +kernel
theorem d_Mod_181_461 : decode prog_12_method_67_code 461 = .ok (.newarray .int, 2) := by decide +kernel
theorem d_Mod_181_463 : decode prog_12_method_67_code 463 = .ok (.putfield 460, 3) := by decide +kernel
theorem d_Mod_181_466 : decode prog_12_method_67_code 466 = .ok (.aload_n 0, 1) := by decide +kernel
theorem d_Mod_181_467 : decode prog_12_method_67_code 467 = .ok (.getfield 24, 3) := by decide +kernel
theorem d_Mod_181_470 : decode prog_12_method_67_code 470 = .ok (.iconst 0, 1) := by decide +kernel
theorem d_Mod_181_471 : decode prog_12_method_67_code 471 = .ok (.bipush 100, 2) := by decide +kernel
theorem d_Mod_181_473 : decode prog_12_method_67_code 473 = .ok (.bastore, 1) := by decide +kernel
theorem d_Mod_181_474 : decode prog_12_method_67_code 474 = .ok (.aload_n 0, 1) := by decide +kernel
theorem d_Mod_181_475 : decode prog_12_method_67_code 475 = .ok (.getfield 24, 3) := by decide +kernel
theorem d_Mod_181_478 : decode prog_12_method_67_code 478 = .ok (.iconst 1, 1) := by decide +kernel
theorem d_Mod_181_479 : decode prog_12_method_67_code 479 = .ok (.bipush 101, 2) := by decide +kernel
theorem d_Mod_181_481 : decode prog_12_method_67_code 481 = .ok (.bastore, 1) := by decide +kernel
theorem d_Mod_181_482 : decode prog_12_method_67_code 482 = .ok (.aload_n 0, 1) := by decide +kernel
theorem d_Mod_181_483 : decode prog_12_method_67_code 483 = .ok (.getfield 24, 3) := by decide +kernel
theorem d_Mod_181_486 : decode prog_12_method_67_code 486 = .ok (.iconst 2, 1) := by decide +kernel
theorem d_Mod_181_487 : decode prog_12_method_67_code 487 = .ok (.bipush 97, 2) := by decide +kernel
theorem d_Mod_181_489 : decode prog_12_method_67_code 489 = .ok (.bastore, 1) := by decide +kernel
theorem d_Mod_181_490 : decode prog_12_method_67_code 490 = .ok (.aload_n 0, 1) := by decide +kernel
theorem d_Mod_181_491 : decode prog_12_method_67_code 491 = .ok (.getfield 24, 3) := by decide +kernel
theorem d_Mod_181_494 : decode prog_12_method_67_code 494 = .ok (.iconst 3, 1) := by decide +kernel
theorem d_Mod_181_495 : decode prog_12_method_67_code 495 = .ok (.bipush 100, 2) := by decide +kernel
theorem d_Mod_181_497 : decode prog_12_method_67_code 497 = .ok (.bastore, 1) := by decide +kernel
theorem d_Mod_181_498 : decode prog_12_method_67_code 498 = .ok (.aload_n 0, 1) := by decide +kernel
theorem d_Mod_181_499 : decode prog_12_method_67_code 499 = .ok (.iconst 4, 1) := by decide +kernel
theorem d_Mod_181_500 : decode prog_12_method_67_code 500 = .ok (.putfield 21, 3) := by decide +kernel
theorem d_Mod_181_503 : decode prog_12_method_67_code 503 = .ok (.aload_n 0, 1) := by decide +kernel
theorem d_Mod_181_504 : decode prog_12_method_67_code 504 = .ok (.iconst 1, 1) := by decide +kernel
theorem d_Mod_181_505 : decode prog_12_method_67_code 505 = .ok (.invokevirtual 463, 3) := by decide +kernel
theorem d_Mod_181_508 : decode prog_12_method_67_code 508 = .ok (.istore_n 1, 1) := by decide +kernel
theorem d_Mod_181_509 : decode prog_12_method_67_code 509 = .ok (.aload_n 0, 1) := by decide +kernel
theorem d_Mod_181_510 : decode prog_12_method_67_code 510 = .ok (.invokevirtual 467, 3) := by decide +kernel
theorem d_Mod_181_513 : decode prog_12_method_67_code 513 = .ok (.return_, 1) := by decide +kernel
def fm_new_Mod_181 (w : fa_W) : Option fa_W :=
  fa_let (fa_nw 182 w) fun w1 =>
  fa_let (fa_nw 183 w1) fun w2 =>
  fa_let (fa_nw 184 w2) fun w3 =>
  fa_let (fa_nw 185 w3) fun w4 =>
  fa_let (fa_nw 186 w4) fun w5 =>
  fa_let (fa_nw 187 w5) fun w6 =>
  fa_let (fa_nw 188 w6) fun w7 =>
  fa_let (fa_nw 189 w7) fun w8 =>
  fa_let (fa_nw 190 w8) fun w9 =>
  fa_let (fa_nw 191 w9) fun w10 =>
  fa_let (fa_nw 192 w10) fun w11 =>
  fa_let (fa_nw 193 w11) fun w12 =>
  fa_let (fa_nw 194 w12) fun w13 =>
  fa_let (fa_nw 195 w13) fun w14 =>
  fa_let (fa_nw 196 w14) fun w15 =>
  fa_let (fa_nw 197 w15) fun w16 =>
  fa_let (fa_nw 198 w16) fun w17 =>
  fa_let (fa_nw 199 w17) fun w18 =>
  fa_let (fa_nw 200 w18) fun w19 =>
  fa_let (fa_nw 201 w19) fun w20 =>
  fa_let (fa_nw 202 w20) fun w21 =>
  fa_let (fa_nw 203 w21) fun w22 =>
  fa_let (fa_nw 204 w22) fun w23 =>
  fa_let (fa_nw 205 w23) fun w24 =>
  fa_let (fa_nw 206 w24) fun w25 =>
  fa_let (fa_nw 207 w25) fun w26 =>
  fa_let (fa_nw 208 w26) fun w27 =>
  fa_let (fa_nw 209 w27) fun w28 =>
  fa_let (fa_nw 210 w28) fun w29 =>
  fa_let (fa_nw 211 w29) fun w30 =>
  fa_let (fa_nw 212 w30) fun w31 =>
  fa_let (fa_nw 213 w31) fun w32 =>
  fa_let (fa_nw 214 w32) fun w33 =>
  fa_let (fa_nw 215 w33) fun w34 =>
  fa_let (fa_nw 216 w34) fun w35 =>
  fa_let (fa_nw 217 w35) fun w36 =>
  fa_let (fa_nw 218 w36) fun w37 =>
  fa_let (fa_nw 219 w37) fun w38 =>
  fa_let (fa_nw 220 w38) fun w39 =>
  fa_let (fa_nw 221 w39) fun w40 =>
  fa_let (fa_nw 222 w40) fun w41 =>
  fa_let (fa_nw 223 w41) fun w42 =>
  fa_let (fa_st w42 181 69 (-1)) fun w43 =>
  fa_let (fa_nw 224 w43) fun w44 =>
  fa_let (fa_nw 225 w44) fun w45 =>
  fa_let (fa_nw 226 w45) fun w46 =>
  fa_let (fa_nw 227 w46) fun w47 =>
  fa_let (fa_nw 228 w47) fun w48 =>
  fa_let (fa_nw 229 w48) fun w49 =>
  fa_let (fa_nw 230 w49) fun w50 =>
  fa_let (fa_nw 231 w50) fun w51 =>
  fa_let (fa_nw 232 w51) fun w52 =>
  fa_let (fa_nw 233 w52) fun w53 =>
  fa_let (fa_nw 234 w53) fun w54 =>
  fa_let (fa_nw 235 w54) fun w55 =>
  fa_let (fa_nw 236 w55) fun w56 =>
  (fa_ix 0 40000).bind fun j57 =>
  fa_let (fa_st w56 196 j57 (fa_i2b 100)) fun w58 =>
  (fa_ix 1 40000).bind fun j59 =>
  fa_let (fa_st w58 196 j59 (fa_i2b 101)) fun w60 =>
  (fa_ix 2 40000).bind fun j61 =>
  fa_let (fa_st w60 196 j61 (fa_i2b 97)) fun w62 =>
  (fa_ix 3 40000).bind fun j63 =>
  fa_let (fa_st w62 196 j63 (fa_i2b 100)) fun w64 =>
  fa_let (fa_st w64 181 25 4) fun w65 =>
  fa_bd (fm_Mod_readsAll true w65) fun v68 w67 =>
  (fm_Mod_keeps w67).bind fun w70 =>
  some w70
set_option maxHeartbeats 4000000 in
set_option maxRecDepth 100000 in
theorem n_Mod_181 {l : Launch} {D : va_G} {b : Nat} {aC : Nat → ClassId} {H0 : Heap} (w r : fa_W) (hM : fm_new_Mod_181 w = some r) : fa_NC l D b aC H0 182 182 237 237 y_Mod_init prog_12_method_67_code 2 909 55 340205 [.ref (b + 181)] w r := by
  refine fa_nenter (lv := [(0, .ref (b + 181))]) (by decide +kernel) (Nat.le_of_ble_eq_true rfl) rfl (fun hh hle hsz hnm X => ?_)
  unfold fm_new_Mod_181 at hM
  refine g_aload_n X 0 rfl d_Mod_181_0 ?_
  refine g_objInit X wd_1483 wd_32 wd_33 (Nat.le_trans (Nat.le_of_ble_eq_true rfl) hle) (Nat.le_of_ble_eq_true rfl) d_Mod_181_1 ?_
  refine g_aload_n X 0 rfl d_Mod_181_4 ?_
  refine g_sipush X (by decide) d_Mod_181_5 ?_
  refine g_newa_byte X (N1 := 183) (c1 := 1) (s1 := 400) (by omega) fhs_182 (by decide +kernel) wd_892 (by decide +kernel) rfl rfl rfl (Nat.le_of_ble_eq_true rfl) (Nat.le_of_ble_eq_true rfl) d_Mod_181_8 (fun w1 ew1 => ?_)
  have hM := fa_let_to hM ew1
  refine g_putR X hnm ck_10 fh_181 (Nat.le_of_ble_eq_true rfl) 1 (by decide) wd_1743 rfl rfl (by decide +kernel) (fa_ctR (t := 182) rfl (by decide +kernel) (by decide +kernel)) rfl rfl d_Mod_181_10 ?_
  refine g_aload_n X 0 rfl d_Mod_181_13 ?_
  refine g_iconst X d_Mod_181_14 ?_
  refine g_newa_int X (N1 := 184) (c1 := 2) (s1 := 405) (by omega) fhs_183 (by decide +kernel) wd_50 (by decide +kernel) rfl rfl rfl (Nat.le_of_ble_eq_true rfl) (Nat.le_of_ble_eq_true rfl) d_Mod_181_15 (fun w2 ew2 => ?_)
  have hM := fa_let_to hM ew2
  refine g_putR X hnm ck_10 fh_181 (Nat.le_of_ble_eq_true rfl) 3 (by decide) wd_1745 rfl rfl (by decide +kernel) (fa_ctR (t := 183) rfl (by decide +kernel) (by decide +kernel)) rfl rfl d_Mod_181_17 ?_
  refine g_aload_n X 0 rfl d_Mod_181_20 ?_
  refine g_bipush X (by decide) d_Mod_181_21 ?_
  refine g_newa_int X (N1 := 185) (c1 := 3) (s1 := 506) (by omega) fhs_184 (by decide +kernel) wd_50 (by decide +kernel) rfl rfl rfl (Nat.le_of_ble_eq_true rfl) (Nat.le_of_ble_eq_true rfl) d_Mod_181_23 (fun w3 ew3 => ?_)
  have hM := fa_let_to hM ew3
  refine g_putR X hnm ck_10 fh_181 (Nat.le_of_ble_eq_true rfl) 4 (by decide) wd_1746 rfl rfl (by decide +kernel) (fa_ctR (t := 184) rfl (by decide +kernel) (by decide +kernel)) rfl rfl d_Mod_181_25 ?_
  refine g_aload_n X 0 rfl d_Mod_181_28 ?_
  refine g_bipush X (by decide) d_Mod_181_29 ?_
  refine g_newa_int X (N1 := 186) (c1 := 4) (s1 := 607) (by omega) fhs_185 (by decide +kernel) wd_50 (by decide +kernel) rfl rfl rfl (Nat.le_of_ble_eq_true rfl) (Nat.le_of_ble_eq_true rfl) d_Mod_181_31 (fun w4 ew4 => ?_)
  have hM := fa_let_to hM ew4
  refine g_putR X hnm ck_10 fh_181 (Nat.le_of_ble_eq_true rfl) 5 (by decide) wd_1747 rfl rfl (by decide +kernel) (fa_ctR (t := 185) rfl (by decide +kernel) (by decide +kernel)) rfl rfl d_Mod_181_33 ?_
  refine g_aload_n X 0 rfl d_Mod_181_36 ?_
  refine g_bipush X (by decide) d_Mod_181_37 ?_
  refine g_newa_int X (N1 := 187) (c1 := 5) (s1 := 708) (by omega) fhs_186 (by decide +kernel) wd_50 (by decide +kernel) rfl rfl rfl (Nat.le_of_ble_eq_true rfl) (Nat.le_of_ble_eq_true rfl) d_Mod_181_39 (fun w5 ew5 => ?_)
  have hM := fa_let_to hM ew5
  refine g_putR X hnm ck_10 fh_181 (Nat.le_of_ble_eq_true rfl) 6 (by decide) wd_1748 rfl rfl (by decide +kernel) (fa_ctR (t := 186) rfl (by decide +kernel) (by decide +kernel)) rfl rfl d_Mod_181_41 ?_
  refine g_aload_n X 0 rfl d_Mod_181_44 ?_
  refine g_bipush X (by decide) d_Mod_181_45 ?_
  refine g_newa_int X (N1 := 188) (c1 := 6) (s1 := 809) (by omega) fhs_187 (by decide +kernel) wd_50 (by decide +kernel) rfl rfl rfl (Nat.le_of_ble_eq_true rfl) (Nat.le_of_ble_eq_true rfl) d_Mod_181_47 (fun w6 ew6 => ?_)
  have hM := fa_let_to hM ew6
  refine g_putR X hnm ck_10 fh_181 (Nat.le_of_ble_eq_true rfl) 7 (by decide) wd_1749 rfl rfl (by decide +kernel) (fa_ctR (t := 187) rfl (by decide +kernel) (by decide +kernel)) rfl rfl d_Mod_181_49 ?_
  refine g_aload_n X 0 rfl d_Mod_181_52 ?_
  refine g_bipush X (by decide) d_Mod_181_53 ?_
  refine g_newa_int X (N1 := 189) (c1 := 7) (s1 := 910) (by omega) fhs_188 (by decide +kernel) wd_50 (by decide +kernel) rfl rfl rfl (Nat.le_of_ble_eq_true rfl) (Nat.le_of_ble_eq_true rfl) d_Mod_181_55 (fun w7 ew7 => ?_)
  have hM := fa_let_to hM ew7
  refine g_putR X hnm ck_10 fh_181 (Nat.le_of_ble_eq_true rfl) 8 (by decide) wd_1750 rfl rfl (by decide +kernel) (fa_ctR (t := 188) rfl (by decide +kernel) (by decide +kernel)) rfl rfl d_Mod_181_57 ?_
  refine g_aload_n X 0 rfl d_Mod_181_60 ?_
  refine g_bipush X (by decide) d_Mod_181_61 ?_
  refine g_newa_int X (N1 := 190) (c1 := 8) (s1 := 934) (by omega) fhs_189 (by decide +kernel) wd_50 (by decide +kernel) rfl rfl rfl (Nat.le_of_ble_eq_true rfl) (Nat.le_of_ble_eq_true rfl) d_Mod_181_63 (fun w8 ew8 => ?_)
  have hM := fa_let_to hM ew8
  refine g_putR X hnm ck_10 fh_181 (Nat.le_of_ble_eq_true rfl) 9 (by decide) wd_1751 rfl rfl (by decide +kernel) (fa_ctR (t := 189) rfl (by decide +kernel) (by decide +kernel)) rfl rfl d_Mod_181_65 ?_
  refine g_aload_n X 0 rfl d_Mod_181_68 ?_
  refine g_bipush X (by decide) d_Mod_181_69 ?_
  refine g_newa_int X (N1 := 191) (c1 := 9) (s1 := 940) (by omega) fhs_190 (by decide +kernel) wd_50 (by decide +kernel) rfl rfl rfl (Nat.le_of_ble_eq_true rfl) (Nat.le_of_ble_eq_true rfl) d_Mod_181_71 (fun w9 ew9 => ?_)
  have hM := fa_let_to hM ew9
  refine g_putR X hnm ck_10 fh_181 (Nat.le_of_ble_eq_true rfl) 10 (by decide) wd_1752 rfl rfl (by decide +kernel) (fa_ctR (t := 190) rfl (by decide +kernel) (by decide +kernel)) rfl rfl d_Mod_181_73 ?_
  refine g_aload_n X 0 rfl d_Mod_181_76 ?_
  refine g_bipush X (by decide) d_Mod_181_77 ?_
  refine g_newa_int X (N1 := 192) (c1 := 10) (s1 := 964) (by omega) fhs_191 (by decide +kernel) wd_50 (by decide +kernel) rfl rfl rfl (Nat.le_of_ble_eq_true rfl) (Nat.le_of_ble_eq_true rfl) d_Mod_181_79 (fun w10 ew10 => ?_)
  have hM := fa_let_to hM ew10
  refine g_putR X hnm ck_10 fh_181 (Nat.le_of_ble_eq_true rfl) 11 (by decide) wd_1753 rfl rfl (by decide +kernel) (fa_ctR (t := 191) rfl (by decide +kernel) (by decide +kernel)) rfl rfl d_Mod_181_81 ?_
  refine g_aload_n X 0 rfl d_Mod_181_84 ?_
  refine g_bipush X (by decide) d_Mod_181_85 ?_
  refine g_newa_int X (N1 := 193) (c1 := 11) (s1 := 1088) (by omega) fhs_192 (by decide +kernel) wd_50 (by decide +kernel) rfl rfl rfl (Nat.le_of_ble_eq_true rfl) (Nat.le_of_ble_eq_true rfl) d_Mod_181_87 (fun w11 ew11 => ?_)
  have hM := fa_let_to hM ew11
  refine g_putR X hnm ck_10 fh_181 (Nat.le_of_ble_eq_true rfl) 12 (by decide) wd_1754 rfl rfl (by decide +kernel) (fa_ctR (t := 192) rfl (by decide +kernel) (by decide +kernel)) rfl rfl d_Mod_181_89 ?_
  refine g_aload_n X 0 rfl d_Mod_181_92 ?_
  refine g_bipush X (by decide) d_Mod_181_93 ?_
  refine g_newa_int X (N1 := 194) (c1 := 12) (s1 := 1212) (by omega) fhs_193 (by decide +kernel) wd_50 (by decide +kernel) rfl rfl rfl (Nat.le_of_ble_eq_true rfl) (Nat.le_of_ble_eq_true rfl) d_Mod_181_95 (fun w12 ew12 => ?_)
  have hM := fa_let_to hM ew12
  refine g_putR X hnm ck_10 fh_181 (Nat.le_of_ble_eq_true rfl) 13 (by decide) wd_1755 rfl rfl (by decide +kernel) (fa_ctR (t := 193) rfl (by decide +kernel) (by decide +kernel)) rfl rfl d_Mod_181_97 ?_
  refine g_aload_n X 0 rfl d_Mod_181_100 ?_
  refine g_bipush X (by decide) d_Mod_181_101 ?_
  refine g_newa_int X (N1 := 195) (c1 := 13) (s1 := 1313) (by omega) fhs_194 (by decide +kernel) wd_50 (by decide +kernel) rfl rfl rfl (Nat.le_of_ble_eq_true rfl) (Nat.le_of_ble_eq_true rfl) d_Mod_181_103 (fun w13 ew13 => ?_)
  have hM := fa_let_to hM ew13
  refine g_putR X hnm ck_10 fh_181 (Nat.le_of_ble_eq_true rfl) 14 (by decide) wd_1756 rfl rfl (by decide +kernel) (fa_ctR (t := 194) rfl (by decide +kernel) (by decide +kernel)) rfl rfl d_Mod_181_105 ?_
  refine g_aload_n X 0 rfl d_Mod_181_108 ?_
  refine g_bipush X (by decide) d_Mod_181_109 ?_
  refine g_newa_int X (N1 := 196) (c1 := 14) (s1 := 1414) (by omega) fhs_195 (by decide +kernel) wd_50 (by decide +kernel) rfl rfl rfl (Nat.le_of_ble_eq_true rfl) (Nat.le_of_ble_eq_true rfl) d_Mod_181_111 (fun w14 ew14 => ?_)
  have hM := fa_let_to hM ew14
  refine g_putR X hnm ck_10 fh_181 (Nat.le_of_ble_eq_true rfl) 15 (by decide) wd_1757 rfl rfl (by decide +kernel) (fa_ctR (t := 195) rfl (by decide +kernel) (by decide +kernel)) rfl rfl d_Mod_181_113 ?_
  refine g_aload_n X 0 rfl d_Mod_181_116 ?_
  refine g_ldc_w X (n := 40000) wd_1484 (by decide) d_Mod_181_117 ?_
  refine g_newa_byte X (N1 := 197) (c1 := 15) (s1 := 41414) (by omega) fhs_196 (by decide +kernel) wd_892 (by decide +kernel) rfl rfl rfl (Nat.le_of_ble_eq_true rfl) (Nat.le_of_ble_eq_true rfl) d_Mod_181_120 (fun w15 ew15 => ?_)
  have hM := fa_let_to hM ew15
  refine g_putR X hnm ck_10 fh_181 (Nat.le_of_ble_eq_true rfl) 22 (by decide) wd_1764 rfl rfl (by decide +kernel) (fa_ctR (t := 196) rfl (by decide +kernel) (by decide +kernel)) rfl rfl d_Mod_181_122 ?_
  refine g_aload_n X 0 rfl d_Mod_181_125 ?_
  refine g_ldc_w X (n := 40000) wd_1484 (by decide) d_Mod_181_126 ?_
  refine g_newa_byte X (N1 := 198) (c1 := 16) (s1 := 81414) (by omega) fhs_197 (by decide +kernel) wd_892 (by decide +kernel) rfl rfl rfl (Nat.le_of_ble_eq_true rfl) (Nat.le_of_ble_eq_true rfl) d_Mod_181_129 (fun w16 ew16 => ?_)
  have hM := fa_let_to hM ew16
  refine g_putR X hnm ck_10 fh_181 (Nat.le_of_ble_eq_true rfl) 23 (by decide) wd_1765 rfl rfl (by decide +kernel) (fa_ctR (t := 197) rfl (by decide +kernel) (by decide +kernel)) rfl rfl d_Mod_181_131 ?_
  refine g_aload_n X 0 rfl d_Mod_181_134 ?_
  refine g_bipush X (by decide) d_Mod_181_135 ?_
  refine g_newa_int X (N1 := 199) (c1 := 17) (s1 := 81538) (by omega) fhs_198 (by decide +kernel) wd_50 (by decide +kernel) rfl rfl rfl (Nat.le_of_ble_eq_true rfl) (Nat.le_of_ble_eq_true rfl) d_Mod_181_137 (fun w17 ew17 => ?_)
  have hM := fa_let_to hM ew17
  refine g_putR X hnm ck_10 fh_181 (Nat.le_of_ble_eq_true rfl) 32 (by decide) wd_1773 rfl rfl (by decide +kernel) (fa_ctR (t := 198) rfl (by decide +kernel) (by decide +kernel)) rfl rfl d_Mod_181_139 ?_
  refine g_aload_n X 0 rfl d_Mod_181_142 ?_
  refine g_sipush X (by decide) d_Mod_181_143 ?_
  refine g_newa_int X (N1 := 200) (c1 := 18) (s1 := 82738) (by omega) fhs_199 (by decide +kernel) wd_50 (by decide +kernel) rfl rfl rfl (Nat.le_of_ble_eq_true rfl) (Nat.le_of_ble_eq_true rfl) d_Mod_181_146 (fun w18 ew18 => ?_)
  have hM := fa_let_to hM ew18
  refine g_putR X hnm ck_10 fh_181 (Nat.le_of_ble_eq_true rfl) 36 (by decide) wd_1777 rfl rfl (by decide +kernel) (fa_ctR (t := 199) rfl (by decide +kernel) (by decide +kernel)) rfl rfl d_Mod_181_148 ?_
  refine g_aload_n X 0 rfl d_Mod_181_151 ?_
  refine g_sipush X (by decide) d_Mod_181_152 ?_
  refine g_newa_int X (N1 := 201) (c1 := 19) (s1 := 83938) (by omega) fhs_200 (by decide +kernel) wd_50 (by decide +kernel) rfl rfl rfl (Nat.le_of_ble_eq_true rfl) (Nat.le_of_ble_eq_true rfl) d_Mod_181_155 (fun w19 ew19 => ?_)
  have hM := fa_let_to hM ew19
  refine g_putR X hnm ck_10 fh_181 (Nat.le_of_ble_eq_true rfl) 37 (by decide) wd_1778 rfl rfl (by decide +kernel) (fa_ctR (t := 200) rfl (by decide +kernel) (by decide +kernel)) rfl rfl d_Mod_181_157 ?_
  refine g_aload_n X 0 rfl d_Mod_181_160 ?_
  refine g_sipush X (by decide) d_Mod_181_161 ?_
  refine g_newa_int X (N1 := 202) (c1 := 20) (s1 := 85138) (by omega) fhs_201 (by decide +kernel) wd_50 (by decide +kernel) rfl rfl rfl (Nat.le_of_ble_eq_true rfl) (Nat.le_of_ble_eq_true rfl) d_Mod_181_164 (fun w20 ew20 => ?_)
  have hM := fa_let_to hM ew20
  refine g_putR X hnm ck_10 fh_181 (Nat.le_of_ble_eq_true rfl) 38 (by decide) wd_1779 rfl rfl (by decide +kernel) (fa_ctR (t := 201) rfl (by decide +kernel) (by decide +kernel)) rfl rfl d_Mod_181_166 ?_
  refine g_aload_n X 0 rfl d_Mod_181_169 ?_
  refine g_sipush X (by decide) d_Mod_181_170 ?_
  refine g_newa_int X (N1 := 203) (c1 := 21) (s1 := 86338) (by omega) fhs_202 (by decide +kernel) wd_50 (by decide +kernel) rfl rfl rfl (Nat.le_of_ble_eq_true rfl) (Nat.le_of_ble_eq_true rfl) d_Mod_181_173 (fun w21 ew21 => ?_)
  have hM := fa_let_to hM ew21
  refine g_putR X hnm ck_10 fh_181 (Nat.le_of_ble_eq_true rfl) 39 (by decide) wd_1780 rfl rfl (by decide +kernel) (fa_ctR (t := 202) rfl (by decide +kernel) (by decide +kernel)) rfl rfl d_Mod_181_175 ?_
  refine g_aload_n X 0 rfl d_Mod_181_178 ?_
  refine g_bipush X (by decide) d_Mod_181_179 ?_
  refine g_newa_int X (N1 := 204) (c1 := 22) (s1 := 86439) (by omega) fhs_203 (by decide +kernel) wd_50 (by decide +kernel) rfl rfl rfl (Nat.le_of_ble_eq_true rfl) (Nat.le_of_ble_eq_true rfl) d_Mod_181_181 (fun w22 ew22 => ?_)
  have hM := fa_let_to hM ew22
  refine g_putR X hnm ck_10 fh_181 (Nat.le_of_ble_eq_true rfl) 40 (by decide) wd_1781 rfl rfl (by decide +kernel) (fa_ctR (t := 203) rfl (by decide +kernel) (by decide +kernel)) rfl rfl d_Mod_181_183 ?_
  refine g_aload_n X 0 rfl d_Mod_181_186 ?_
  refine g_bipush X (by decide) d_Mod_181_187 ?_
  refine g_newa_int X (N1 := 205) (c1 := 23) (s1 := 86563) (by omega) fhs_204 (by decide +kernel) wd_50 (by decide +kernel) rfl rfl rfl (Nat.le_of_ble_eq_true rfl) (Nat.le_of_ble_eq_true rfl) d_Mod_181_189 (fun w23 ew23 => ?_)
  have hM := fa_let_to hM ew23
  refine g_putR X hnm ck_10 fh_181 (Nat.le_of_ble_eq_true rfl) 41 (by decide) wd_1782 rfl rfl (by decide +kernel) (fa_ctR (t := 204) rfl (by decide +kernel) (by decide +kernel)) rfl rfl d_Mod_181_191 ?_
  refine g_aload_n X 0 rfl d_Mod_181_194 ?_
  refine g_sipush X (by decide) d_Mod_181_195 ?_
  refine g_newa_int X (N1 := 206) (c1 := 24) (s1 := 87763) (by omega) fhs_205 (by decide +kernel) wd_50 (by decide +kernel) rfl rfl rfl (Nat.le_of_ble_eq_true rfl) (Nat.le_of_ble_eq_true rfl) d_Mod_181_198 (fun w24 ew24 => ?_)
  have hM := fa_let_to hM ew24
  refine g_putR X hnm ck_10 fh_181 (Nat.le_of_ble_eq_true rfl) 42 (by decide) wd_1783 rfl rfl (by decide +kernel) (fa_ctR (t := 205) rfl (by decide +kernel) (by decide +kernel)) rfl rfl d_Mod_181_200 ?_
  refine g_aload_n X 0 rfl d_Mod_181_203 ?_
  refine g_bipush X (by decide) d_Mod_181_204 ?_
  refine g_newa_int X (N1 := 207) (c1 := 25) (s1 := 87787) (by omega) fhs_206 (by decide +kernel) wd_50 (by decide +kernel) rfl rfl rfl (Nat.le_of_ble_eq_true rfl) (Nat.le_of_ble_eq_true rfl) d_Mod_181_206 (fun w25 ew25 => ?_)
  have hM := fa_let_to hM ew25
  refine g_putR X hnm ck_10 fh_181 (Nat.le_of_ble_eq_true rfl) 45 (by decide) wd_1786 rfl rfl (by decide +kernel) (fa_ctR (t := 206) rfl (by decide +kernel) (by decide +kernel)) rfl rfl d_Mod_181_208 ?_
  refine g_aload_n X 0 rfl d_Mod_181_211 ?_
  refine g_bipush X (by decide) d_Mod_181_212 ?_
  refine g_newa_int X (N1 := 208) (c1 := 26) (s1 := 87911) (by omega) fhs_207 (by decide +kernel) wd_50 (by decide +kernel) rfl rfl rfl (Nat.le_of_ble_eq_true rfl) (Nat.le_of_ble_eq_true rfl) d_Mod_181_214 (fun w26 ew26 => ?_)
  have hM := fa_let_to hM ew26
  refine g_putR X hnm ck_10 fh_181 (Nat.le_of_ble_eq_true rfl) 46 (by decide) wd_1787 rfl rfl (by decide +kernel) (fa_ctR (t := 207) rfl (by decide +kernel) (by decide +kernel)) rfl rfl d_Mod_181_216 ?_
  refine g_aload_n X 0 rfl d_Mod_181_219 ?_
  refine g_bipush X (by decide) d_Mod_181_220 ?_
  refine g_newa_int X (N1 := 209) (c1 := 27) (s1 := 87935) (by omega) fhs_208 (by decide +kernel) wd_50 (by decide +kernel) rfl rfl rfl (Nat.le_of_ble_eq_true rfl) (Nat.le_of_ble_eq_true rfl) d_Mod_181_222 (fun w27 ew27 => ?_)
  have hM := fa_let_to hM ew27
  refine g_putR X hnm ck_10 fh_181 (Nat.le_of_ble_eq_true rfl) 47 (by decide) wd_1788 rfl rfl (by decide +kernel) (fa_ctR (t := 208) rfl (by decide +kernel) (by decide +kernel)) rfl rfl d_Mod_181_224 ?_
  refine g_aload_n X 0 rfl d_Mod_181_227 ?_
  refine g_bipush X (by decide) d_Mod_181_228 ?_
  refine g_newa_int X (N1 := 210) (c1 := 28) (s1 := 88036) (by omega) fhs_209 (by decide +kernel) wd_50 (by decide +kernel) rfl rfl rfl (Nat.le_of_ble_eq_true rfl) (Nat.le_of_ble_eq_true rfl) d_Mod_181_230 (fun w28 ew28 => ?_)
  have hM := fa_let_to hM ew28
  refine g_putR X hnm ck_10 fh_181 (Nat.le_of_ble_eq_true rfl) 48 (by decide) wd_1789 rfl rfl (by decide +kernel) (fa_ctR (t := 209) rfl (by decide +kernel) (by decide +kernel)) rfl rfl d_Mod_181_232 ?_
  refine g_aload_n X 0 rfl d_Mod_181_235 ?_
  refine g_bipush X (by decide) d_Mod_181_236 ?_
  refine g_newa_int X (N1 := 211) (c1 := 29) (s1 := 88137) (by omega) fhs_210 (by decide +kernel) wd_50 (by decide +kernel) rfl rfl rfl (Nat.le_of_ble_eq_true rfl) (Nat.le_of_ble_eq_true rfl) d_Mod_181_238 (fun w29 ew29 => ?_)
  have hM := fa_let_to hM ew29
  refine g_putR X hnm ck_10 fh_181 (Nat.le_of_ble_eq_true rfl) 49 (by decide) wd_1790 rfl rfl (by decide +kernel) (fa_ctR (t := 210) rfl (by decide +kernel) (by decide +kernel)) rfl rfl d_Mod_181_240 ?_
  refine g_aload_n X 0 rfl d_Mod_181_243 ?_
  refine g_bipush X (by decide) d_Mod_181_244 ?_
  refine g_newa_int X (N1 := 212) (c1 := 30) (s1 := 88238) (by omega) fhs_211 (by decide +kernel) wd_50 (by decide +kernel) rfl rfl rfl (Nat.le_of_ble_eq_true rfl) (Nat.le_of_ble_eq_true rfl) d_Mod_181_246 (fun w30 ew30 => ?_)
  have hM := fa_let_to hM ew30
  refine g_putR X hnm ck_10 fh_181 (Nat.le_of_ble_eq_true rfl) 50 (by decide) wd_1791 rfl rfl (by decide +kernel) (fa_ctR (t := 211) rfl (by decide +kernel) (by decide +kernel)) rfl rfl d_Mod_181_248 ?_
  refine g_aload_n X 0 rfl d_Mod_181_251 ?_
  refine g_bipush X (by decide) d_Mod_181_252 ?_
  refine g_newa_boolean X (N1 := 213) (c1 := 31) (s1 := 88339) (by omega) fhs_212 (by decide +kernel) wd_2024 (by decide +kernel) rfl rfl rfl (Nat.le_of_ble_eq_true rfl) (Nat.le_of_ble_eq_true rfl) d_Mod_181_254 (fun w31 ew31 => ?_)
  have hM := fa_let_to hM ew31
  refine g_putR X hnm ck_10 fh_181 (Nat.le_of_ble_eq_true rfl) 51 (by decide) wd_1792 rfl rfl (by decide +kernel) (fa_ctR (t := 212) rfl (by decide +kernel) (by decide +kernel)) rfl rfl d_Mod_181_256 ?_
  refine g_aload_n X 0 rfl d_Mod_181_259 ?_
  refine g_sipush X (by decide) d_Mod_181_260 ?_
  refine g_newa_int X (N1 := 214) (c1 := 32) (s1 := 91315) (by omega) fhs_213 (by decide +kernel) wd_50 (by decide +kernel) rfl rfl rfl (Nat.le_of_ble_eq_true rfl) (Nat.le_of_ble_eq_true rfl) d_Mod_181_263 (fun w32 ew32 => ?_)
  have hM := fa_let_to hM ew32
  refine g_putR X hnm ck_10 fh_181 (Nat.le_of_ble_eq_true rfl) 56 (by decide) wd_1797 rfl rfl (by decide +kernel) (fa_ctR (t := 213) rfl (by decide +kernel) (by decide +kernel)) rfl rfl d_Mod_181_265 ?_
  refine g_aload_n X 0 rfl d_Mod_181_268 ?_
  refine g_bipush X (by decide) d_Mod_181_269 ?_
  refine g_newa_int X (N1 := 215) (c1 := 33) (s1 := 91339) (by omega) fhs_214 (by decide +kernel) wd_50 (by decide +kernel) rfl rfl rfl (Nat.le_of_ble_eq_true rfl) (Nat.le_of_ble_eq_true rfl) d_Mod_181_271 (fun w33 ew33 => ?_)
  have hM := fa_let_to hM ew33
  refine g_putR X hnm ck_10 fh_181 (Nat.le_of_ble_eq_true rfl) 57 (by decide) wd_1798 rfl rfl (by decide +kernel) (fa_ctR (t := 214) rfl (by decide +kernel) (by decide +kernel)) rfl rfl d_Mod_181_273 ?_
  refine g_aload_n X 0 rfl d_Mod_181_276 ?_
  refine g_bipush X (by decide) d_Mod_181_277 ?_
  refine g_newa_int X (N1 := 216) (c1 := 34) (s1 := 91411) (by omega) fhs_215 (by decide +kernel) wd_50 (by decide +kernel) rfl rfl rfl (Nat.le_of_ble_eq_true rfl) (Nat.le_of_ble_eq_true rfl) d_Mod_181_279 (fun w34 ew34 => ?_)
  have hM := fa_let_to hM ew34
  refine g_putR X hnm ck_10 fh_181 (Nat.le_of_ble_eq_true rfl) 58 (by decide) wd_1799 rfl rfl (by decide +kernel) (fa_ctR (t := 215) rfl (by decide +kernel) (by decide +kernel)) rfl rfl d_Mod_181_281 ?_
  refine g_aload_n X 0 rfl d_Mod_181_284 ?_
  refine g_iconst X d_Mod_181_285 ?_
  refine g_newa_int X (N1 := 217) (c1 := 35) (s1 := 91414) (by omega) fhs_216 (by decide +kernel) wd_50 (by decide +kernel) rfl rfl rfl (Nat.le_of_ble_eq_true rfl) (Nat.le_of_ble_eq_true rfl) d_Mod_181_286 (fun w35 ew35 => ?_)
  have hM := fa_let_to hM ew35
  refine g_putR X hnm ck_10 fh_181 (Nat.le_of_ble_eq_true rfl) 59 (by decide) wd_1800 rfl rfl (by decide +kernel) (fa_ctR (t := 216) rfl (by decide +kernel) (by decide +kernel)) rfl rfl d_Mod_181_288 ?_
  refine g_aload_n X 0 rfl d_Mod_181_291 ?_
  refine g_bipush X (by decide) d_Mod_181_292 ?_
  refine g_newa_int X (N1 := 218) (c1 := 36) (s1 := 91438) (by omega) fhs_217 (by decide +kernel) wd_50 (by decide +kernel) rfl rfl rfl (Nat.le_of_ble_eq_true rfl) (Nat.le_of_ble_eq_true rfl) d_Mod_181_294 (fun w36 ew36 => ?_)
  have hM := fa_let_to hM ew36
  refine g_putR X hnm ck_10 fh_181 (Nat.le_of_ble_eq_true rfl) 60 (by decide) wd_1801 rfl rfl (by decide +kernel) (fa_ctR (t := 217) rfl (by decide +kernel) (by decide +kernel)) rfl rfl d_Mod_181_296 ?_
  refine g_aload_n X 0 rfl d_Mod_181_299 ?_
  refine g_bipush X (by decide) d_Mod_181_300 ?_
  refine g_newa_int X (N1 := 219) (c1 := 37) (s1 := 91462) (by omega) fhs_218 (by decide +kernel) wd_50 (by decide +kernel) rfl rfl rfl (Nat.le_of_ble_eq_true rfl) (Nat.le_of_ble_eq_true rfl) d_Mod_181_302 (fun w37 ew37 => ?_)
  have hM := fa_let_to hM ew37
  refine g_putR X hnm ck_10 fh_181 (Nat.le_of_ble_eq_true rfl) 61 (by decide) wd_1802 rfl rfl (by decide +kernel) (fa_ctR (t := 218) rfl (by decide +kernel) (by decide +kernel)) rfl rfl d_Mod_181_304 ?_
  refine g_aload_n X 0 rfl d_Mod_181_307 ?_
  refine g_bipush X (by decide) d_Mod_181_308 ?_
  refine g_newa_int X (N1 := 220) (c1 := 38) (s1 := 91486) (by omega) fhs_219 (by decide +kernel) wd_50 (by decide +kernel) rfl rfl rfl (Nat.le_of_ble_eq_true rfl) (Nat.le_of_ble_eq_true rfl) d_Mod_181_310 (fun w38 ew38 => ?_)
  have hM := fa_let_to hM ew38
  refine g_putR X hnm ck_10 fh_181 (Nat.le_of_ble_eq_true rfl) 62 (by decide) wd_1803 rfl rfl (by decide +kernel) (fa_ctR (t := 219) rfl (by decide +kernel) (by decide +kernel)) rfl rfl d_Mod_181_312 ?_
  refine g_aload_n X 0 rfl d_Mod_181_315 ?_
  refine g_bipush X (by decide) d_Mod_181_316 ?_
  refine g_newa_int X (N1 := 221) (c1 := 39) (s1 := 91510) (by omega) fhs_220 (by decide +kernel) wd_50 (by decide +kernel) rfl rfl rfl (Nat.le_of_ble_eq_true rfl) (Nat.le_of_ble_eq_true rfl) d_Mod_181_318 (fun w39 ew39 => ?_)
  have hM := fa_let_to hM ew39
  refine g_putR X hnm ck_10 fh_181 (Nat.le_of_ble_eq_true rfl) 63 (by decide) wd_1804 rfl rfl (by decide +kernel) (fa_ctR (t := 220) rfl (by decide +kernel) (by decide +kernel)) rfl rfl d_Mod_181_320 ?_
  refine g_aload_n X 0 rfl d_Mod_181_323 ?_
  refine g_sipush X (by decide) d_Mod_181_324 ?_
  refine g_newa_int X (N1 := 222) (c1 := 40) (s1 := 92010) (by omega) fhs_221 (by decide +kernel) wd_50 (by decide +kernel) rfl rfl rfl (Nat.le_of_ble_eq_true rfl) (Nat.le_of_ble_eq_true rfl) d_Mod_181_327 (fun w40 ew40 => ?_)
  have hM := fa_let_to hM ew40
  refine g_putR X hnm ck_10 fh_181 (Nat.le_of_ble_eq_true rfl) 65 (by decide) wd_1806 rfl rfl (by decide +kernel) (fa_ctR (t := 221) rfl (by decide +kernel) (by decide +kernel)) rfl rfl d_Mod_181_329 ?_
  refine g_aload_n X 0 rfl d_Mod_181_332 ?_
  refine g_sipush X (by decide) d_Mod_181_333 ?_
  refine g_newa_int X (N1 := 223) (c1 := 41) (s1 := 92510) (by omega) fhs_222 (by decide +kernel) wd_50 (by decide +kernel) rfl rfl rfl (Nat.le_of_ble_eq_true rfl) (Nat.le_of_ble_eq_true rfl) d_Mod_181_336 (fun w41 ew41 => ?_)
  have hM := fa_let_to hM ew41
  refine g_putR X hnm ck_10 fh_181 (Nat.le_of_ble_eq_true rfl) 66 (by decide) wd_1807 rfl rfl (by decide +kernel) (fa_ctR (t := 222) rfl (by decide +kernel) (by decide +kernel)) rfl rfl d_Mod_181_338 ?_
  refine g_aload_n X 0 rfl d_Mod_181_341 ?_
  refine g_bipush X (by decide) d_Mod_181_342 ?_
  refine g_newa_int X (N1 := 224) (c1 := 42) (s1 := 92535) (by omega) fhs_223 (by decide +kernel) wd_50 (by decide +kernel) rfl rfl rfl (Nat.le_of_ble_eq_true rfl) (Nat.le_of_ble_eq_true rfl) d_Mod_181_344 (fun w42 ew42 => ?_)
  have hM := fa_let_to hM ew42
  refine g_putR X hnm ck_10 fh_181 (Nat.le_of_ble_eq_true rfl) 67 (by decide) wd_1808 rfl rfl (by decide +kernel) (fa_ctR (t := 223) rfl (by decide +kernel) (by decide +kernel)) rfl rfl d_Mod_181_346 ?_
  refine g_aload_n X 0 rfl d_Mod_181_349 ?_
  refine g_iconst X d_Mod_181_350 ?_
  refine g_put X ck_10 fh_181 (Nat.le_of_ble_eq_true rfl) 69 (z := (-1)) (by decide) wd_1810 rfl (fa_fvI' rfl) rfl rfl rfl d_Mod_181_351 (fun w43 ew43 => ?_)
  have hM := fa_let_to hM ew43
  refine g_aload_n X 0 rfl d_Mod_181_354 ?_
  refine g_ldc_w X (n := 40000) wd_1484 (by decide) d_Mod_181_355 ?_
  refine g_newa_byte X (N1 := 225) (c1 := 43) (s1 := 132535) (by omega) fhs_224 (by decide +kernel) wd_892 (by decide +kernel) rfl rfl rfl (Nat.le_of_ble_eq_true rfl) (Nat.le_of_ble_eq_true rfl) d_Mod_181_358 (fun w44 ew44 => ?_)
  have hM := fa_let_to hM ew44
  refine g_putR X hnm ck_10 fh_181 (Nat.le_of_ble_eq_true rfl) 71 (by decide) wd_1812 rfl rfl (by decide +kernel) (fa_ctR (t := 224) rfl (by decide +kernel) (by decide +kernel)) rfl rfl d_Mod_181_360 ?_
  refine g_aload_n X 0 rfl d_Mod_181_363 ?_
  refine g_sipush X (by decide) d_Mod_181_364 ?_
  refine g_newa_int X (N1 := 226) (c1 := 44) (s1 := 133735) (by omega) fhs_225 (by decide +kernel) wd_50 (by decide +kernel) rfl rfl rfl (Nat.le_of_ble_eq_true rfl) (Nat.le_of_ble_eq_true rfl) d_Mod_181_367 (fun w45 ew45 => ?_)
  have hM := fa_let_to hM ew45
  refine g_putR X hnm ck_10 fh_181 (Nat.le_of_ble_eq_true rfl) 73 (by decide) wd_1814 rfl rfl (by decide +kernel) (fa_ctR (t := 225) rfl (by decide +kernel) (by decide +kernel)) rfl rfl d_Mod_181_369 ?_
  refine g_aload_n X 0 rfl d_Mod_181_372 ?_
  refine g_ldc_w X (n := 55000) wd_1485 (by decide) d_Mod_181_373 ?_
  refine g_newa_int X (N1 := 227) (c1 := 45) (s1 := 188735) (by omega) fhs_226 (by decide +kernel) wd_50 (by decide +kernel) rfl rfl rfl (Nat.le_of_ble_eq_true rfl) (Nat.le_of_ble_eq_true rfl) d_Mod_181_376 (fun w46 ew46 => ?_)
  have hM := fa_let_to hM ew46
  refine g_putR X hnm ck_10 fh_181 (Nat.le_of_ble_eq_true rfl) 75 (by decide) wd_1816 rfl rfl (by decide +kernel) (fa_ctR (t := 226) rfl (by decide +kernel) (by decide +kernel)) rfl rfl d_Mod_181_378 ?_
  refine g_aload_n X 0 rfl d_Mod_181_381 ?_
  refine g_ldc_w X (n := 55000) wd_1485 (by decide) d_Mod_181_382 ?_
  refine g_newa_int X (N1 := 228) (c1 := 46) (s1 := 243735) (by omega) fhs_227 (by decide +kernel) wd_50 (by decide +kernel) rfl rfl rfl (Nat.le_of_ble_eq_true rfl) (Nat.le_of_ble_eq_true rfl) d_Mod_181_385 (fun w47 ew47 => ?_)
  have hM := fa_let_to hM ew47
  refine g_putR X hnm ck_10 fh_181 (Nat.le_of_ble_eq_true rfl) 76 (by decide) wd_1817 rfl rfl (by decide +kernel) (fa_ctR (t := 227) rfl (by decide +kernel) (by decide +kernel)) rfl rfl d_Mod_181_387 ?_
  refine g_aload_n X 0 rfl d_Mod_181_390 ?_
  refine g_ldc_w X (n := 55000) wd_1485 (by decide) d_Mod_181_391 ?_
  refine g_newa_int X (N1 := 229) (c1 := 47) (s1 := 298735) (by omega) fhs_228 (by decide +kernel) wd_50 (by decide +kernel) rfl rfl rfl (Nat.le_of_ble_eq_true rfl) (Nat.le_of_ble_eq_true rfl) d_Mod_181_394 (fun w48 ew48 => ?_)
  have hM := fa_let_to hM ew48
  refine g_putR X hnm ck_10 fh_181 (Nat.le_of_ble_eq_true rfl) 77 (by decide) wd_1818 rfl rfl (by decide +kernel) (fa_ctR (t := 228) rfl (by decide +kernel) (by decide +kernel)) rfl rfl d_Mod_181_396 ?_
  refine g_aload_n X 0 rfl d_Mod_181_399 ?_
  refine g_sipush X (by decide) d_Mod_181_400 ?_
  refine g_newa_int X (N1 := 230) (c1 := 48) (s1 := 312375) (by omega) fhs_229 (by decide +kernel) wd_50 (by decide +kernel) rfl rfl rfl (Nat.le_of_ble_eq_true rfl) (Nat.le_of_ble_eq_true rfl) d_Mod_181_403 (fun w49 ew49 => ?_)
  have hM := fa_let_to hM ew49
  refine g_putR X hnm ck_10 fh_181 (Nat.le_of_ble_eq_true rfl) 78 (by decide) wd_1819 rfl rfl (by decide +kernel) (fa_ctR (t := 229) rfl (by decide +kernel) (by decide +kernel)) rfl rfl d_Mod_181_405 ?_
  refine g_aload_n X 0 rfl d_Mod_181_408 ?_
  refine g_sipush X (by decide) d_Mod_181_409 ?_
  refine g_newa_int X (N1 := 231) (c1 := 49) (s1 := 326015) (by omega) fhs_230 (by decide +kernel) wd_50 (by decide +kernel) rfl rfl rfl (Nat.le_of_ble_eq_true rfl) (Nat.le_of_ble_eq_true rfl) d_Mod_181_412 (fun w50 ew50 => ?_)
  have hM := fa_let_to hM ew50
  refine g_putR X hnm ck_10 fh_181 (Nat.le_of_ble_eq_true rfl) 79 (by decide) wd_1820 rfl rfl (by decide +kernel) (fa_ctR (t := 230) rfl (by decide +kernel) (by decide +kernel)) rfl rfl d_Mod_181_414 ?_
  refine g_aload_n X 0 rfl d_Mod_181_417 ?_
  refine g_sipush X (by decide) d_Mod_181_418 ?_
  refine g_newa_int X (N1 := 232) (c1 := 50) (s1 := 339655) (by omega) fhs_231 (by decide +kernel) wd_50 (by decide +kernel) rfl rfl rfl (Nat.le_of_ble_eq_true rfl) (Nat.le_of_ble_eq_true rfl) d_Mod_181_421 (fun w51 ew51 => ?_)
  have hM := fa_let_to hM ew51
  refine g_putR X hnm ck_10 fh_181 (Nat.le_of_ble_eq_true rfl) 80 (by decide) wd_1821 rfl rfl (by decide +kernel) (fa_ctR (t := 231) rfl (by decide +kernel) (by decide +kernel)) rfl rfl d_Mod_181_423 ?_
  refine g_aload_n X 0 rfl d_Mod_181_426 ?_
  refine g_bipush X (by decide) d_Mod_181_427 ?_
  refine g_newa_int X (N1 := 233) (c1 := 51) (s1 := 339765) (by omega) fhs_232 (by decide +kernel) wd_50 (by decide +kernel) rfl rfl rfl (Nat.le_of_ble_eq_true rfl) (Nat.le_of_ble_eq_true rfl) d_Mod_181_429 (fun w52 ew52 => ?_)
  have hM := fa_let_to hM ew52
  refine g_putR X hnm ck_10 fh_181 (Nat.le_of_ble_eq_true rfl) 81 (by decide) wd_1822 rfl rfl (by decide +kernel) (fa_ctR (t := 232) rfl (by decide +kernel) (by decide +kernel)) rfl rfl d_Mod_181_431 ?_
  refine g_aload_n X 0 rfl d_Mod_181_434 ?_
  refine g_bipush X (by decide) d_Mod_181_435 ?_
  refine g_newa_int X (N1 := 234) (c1 := 52) (s1 := 339875) (by omega) fhs_233 (by decide +kernel) wd_50 (by decide +kernel) rfl rfl rfl (Nat.le_of_ble_eq_true rfl) (Nat.le_of_ble_eq_true rfl) d_Mod_181_437 (fun w53 ew53 => ?_)
  have hM := fa_let_to hM ew53
  refine g_putR X hnm ck_10 fh_181 (Nat.le_of_ble_eq_true rfl) 82 (by decide) wd_1823 rfl rfl (by decide +kernel) (fa_ctR (t := 233) rfl (by decide +kernel) (by decide +kernel)) rfl rfl d_Mod_181_439 ?_
  refine g_aload_n X 0 rfl d_Mod_181_442 ?_
  refine g_bipush X (by decide) d_Mod_181_443 ?_
  refine g_newa_int X (N1 := 235) (c1 := 53) (s1 := 339985) (by omega) fhs_234 (by decide +kernel) wd_50 (by decide +kernel) rfl rfl rfl (Nat.le_of_ble_eq_true rfl) (Nat.le_of_ble_eq_true rfl) d_Mod_181_445 (fun w54 ew54 => ?_)
  have hM := fa_let_to hM ew54
  refine g_putR X hnm ck_10 fh_181 (Nat.le_of_ble_eq_true rfl) 83 (by decide) wd_1824 rfl rfl (by decide +kernel) (fa_ctR (t := 234) rfl (by decide +kernel) (by decide +kernel)) rfl rfl d_Mod_181_447 ?_
  refine g_aload_n X 0 rfl d_Mod_181_450 ?_
  refine g_bipush X (by decide) d_Mod_181_451 ?_
  refine g_newa_int X (N1 := 236) (c1 := 54) (s1 := 340095) (by omega) fhs_235 (by decide +kernel) wd_50 (by decide +kernel) rfl rfl rfl (Nat.le_of_ble_eq_true rfl) (Nat.le_of_ble_eq_true rfl) d_Mod_181_453 (fun w55 ew55 => ?_)
  have hM := fa_let_to hM ew55
  refine g_putR X hnm ck_10 fh_181 (Nat.le_of_ble_eq_true rfl) 84 (by decide) wd_1825 rfl rfl (by decide +kernel) (fa_ctR (t := 235) rfl (by decide +kernel) (by decide +kernel)) rfl rfl d_Mod_181_455 ?_
  refine g_aload_n X 0 rfl d_Mod_181_458 ?_
  refine g_bipush X (by decide) d_Mod_181_459 ?_
  refine g_newa_int X (N1 := 237) (c1 := 55) (s1 := 340205) (by omega) fhs_236 (by decide +kernel) wd_50 (by decide +kernel) rfl rfl rfl (Nat.le_of_ble_eq_true rfl) (Nat.le_of_ble_eq_true rfl) d_Mod_181_461 (fun w56 ew56 => ?_)
  have hM := fa_let_to hM ew56
  refine g_putR X hnm ck_10 fh_181 (Nat.le_of_ble_eq_true rfl) 85 (by decide) wd_1826 rfl rfl (by decide +kernel) (fa_ctR (t := 236) rfl (by decide +kernel) (by decide +kernel)) rfl rfl d_Mod_181_463 ?_
  refine g_aload_n X 0 rfl d_Mod_181_466 ?_
  refine g_get X ck_10 fh_181 (Nat.le_of_ble_eq_true rfl) 22 (by decide) wd_1764 rfl (v := .ref (b + 196)) (fa_ctR (t := 196) rfl (by decide +kernel) (by decide +kernel)) d_Mod_181_467 ?_
  refine g_iconst X d_Mod_181_470 ?_
  refine g_bipush X (by decide) d_Mod_181_471 ?_
  obtain ⟨j57, ej57, hM⟩ := fa_ob hM
  refine g_bast X fhs_196 (Nat.le_of_ble_eq_true rfl) ej57 d_Mod_181_473 (fun w58 ew58 => ?_)
  have hM := fa_let_to hM ew58
  refine g_aload_n X 0 rfl d_Mod_181_474 ?_
  refine g_get X ck_10 fh_181 (Nat.le_of_ble_eq_true rfl) 22 (by decide) wd_1764 rfl (v := .ref (b + 196)) (fa_ctR (t := 196) rfl (by decide +kernel) (by decide +kernel)) d_Mod_181_475 ?_
  refine g_iconst X d_Mod_181_478 ?_
  refine g_bipush X (by decide) d_Mod_181_479 ?_
  obtain ⟨j59, ej59, hM⟩ := fa_ob hM
  refine g_bast X fhs_196 (Nat.le_of_ble_eq_true rfl) ej59 d_Mod_181_481 (fun w60 ew60 => ?_)
  have hM := fa_let_to hM ew60
  refine g_aload_n X 0 rfl d_Mod_181_482 ?_
  refine g_get X ck_10 fh_181 (Nat.le_of_ble_eq_true rfl) 22 (by decide) wd_1764 rfl (v := .ref (b + 196)) (fa_ctR (t := 196) rfl (by decide +kernel) (by decide +kernel)) d_Mod_181_483 ?_
  refine g_iconst X d_Mod_181_486 ?_
  refine g_bipush X (by decide) d_Mod_181_487 ?_
  obtain ⟨j61, ej61, hM⟩ := fa_ob hM
  refine g_bast X fhs_196 (Nat.le_of_ble_eq_true rfl) ej61 d_Mod_181_489 (fun w62 ew62 => ?_)
  have hM := fa_let_to hM ew62
  refine g_aload_n X 0 rfl d_Mod_181_490 ?_
  refine g_get X ck_10 fh_181 (Nat.le_of_ble_eq_true rfl) 22 (by decide) wd_1764 rfl (v := .ref (b + 196)) (fa_ctR (t := 196) rfl (by decide +kernel) (by decide +kernel)) d_Mod_181_491 ?_
  refine g_iconst X d_Mod_181_494 ?_
  refine g_bipush X (by decide) d_Mod_181_495 ?_
  obtain ⟨j63, ej63, hM⟩ := fa_ob hM
  refine g_bast X fhs_196 (Nat.le_of_ble_eq_true rfl) ej63 d_Mod_181_497 (fun w64 ew64 => ?_)
  have hM := fa_let_to hM ew64
  refine g_aload_n X 0 rfl d_Mod_181_498 ?_
  refine g_iconst X d_Mod_181_499 ?_
  refine g_put X ck_10 fh_181 (Nat.le_of_ble_eq_true rfl) 25 (z := 4) (by decide) wd_1766 rfl (fa_fvI' rfl) rfl rfl rfl d_Mod_181_500 (fun w65 ew65 => ?_)
  have hM := fa_let_to hM ew65
  refine g_aload_n X 0 rfl d_Mod_181_503 ?_
  refine g_iconst X d_Mod_181_504 ?_
  obtain ⟨v68, w67, e66, hM⟩ := fa_obd hM
  refine g_callV X ck_10 fh_181 (Nat.le_of_ble_eq_true rfl) rfl mi_Mod_readsAll (c_Mod_readsAll (Nat.le_of_ble_eq_true rfl) (Nat.le_of_ble_eq_true rfl) true w65 _ e66) wd_1486 rfl (Nat.le_trans (Nat.le_of_ble_eq_true rfl) hle) (ov := some (.int (fa_I (fa_bi v68)))) (st := []) (Nat.le_of_ble_eq_true rfl) rfl d_Mod_181_505 (Nat.le_of_ble_eq_true rfl) (Nat.le_of_ble_eq_true rfl) ?_
  refine g_istorec_n X [(1, .int (fa_I (fa_bi v68))), (0, .ref (b + 181))] d_Mod_181_508 (by decide) rfl ?_
  refine g_aload_n X 1 rfl d_Mod_181_509 ?_
  obtain ⟨w70, e69, hM⟩ := fa_ob hM
  refine g_callV X ck_10 fh_181 (Nat.le_of_ble_eq_true rfl) rfl mi_Mod_keeps (c_Mod_keeps (Nat.le_of_ble_eq_true rfl) (Nat.le_of_ble_eq_true rfl) w67 _ e69) wd_1738 rfl (Nat.le_trans (Nat.le_of_ble_eq_true rfl) hle) (ov := none) (st := []) (Nat.le_of_ble_eq_true rfl) rfl d_Mod_181_510 (Nat.le_of_ble_eq_true rfl) (Nat.le_of_ble_eq_true rfl) ?_
  cases hM
  exact g_cvret X d_Mod_181_513
